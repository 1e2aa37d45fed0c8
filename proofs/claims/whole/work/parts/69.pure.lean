/-- what ends within n turns -/
def UL {σ : Type} (body : (σ → Prop) → σ → Prop) (n : Nat) : σ → Prop := Nat.rec (fun _ => False) (fun _ ih s => ih s ∨ body ih s) n
theorem UL_eq {σ : Type} (body : (σ → Prop) → σ → Prop) : ∀ n, UL body n = fun s => ∃ m, m < n ∧ body (UL body m) s
  | 0 => by funext s; apply propext; exact ⟨fun h => h.elim, fun ⟨m, h, _⟩ => absurd h (by omega)⟩
  | n + 1 => by
    funext s; apply propext
    constructor
    · rintro (h | h)
      · have h' : UL body n s := h
        rw [UL_eq body n] at h'
        obtain ⟨m, h1, h2⟩ := h'
        exact ⟨m, by omega, h2⟩
      · exact ⟨n, by omega, h⟩
    · rintro ⟨m, h1, h2⟩
      by_cases e : m = n
      · subst e; exact Or.inr h2
      · left; show UL body n s; rw [UL_eq body n]; exact ⟨m, by omega, h2⟩
theorem UL_LOOP {σ : Type} {body : (σ → Prop) → σ → Prop} {n : Nat} {s : σ} (h : UL body n s) : LOOP body s := by
  rw [UL_eq] at h
  obtain ⟨m, -, h2⟩ := h
  refine ⟨fun k t => body (UL body k) t, ⟨m, h2⟩, fun k t ht => ?_⟩
  have e := UL_eq body k
  dsimp only at ht ⊢
  rw [e] at ht
  exact ht
theorem UL_step {σ : Type} {body : (σ → Prop) → σ → Prop} {n : Nat} {s : σ} (S : σ → Prop) (h1 : ∀ X : σ → Prop, (∀ t, S t → X t) → body X s) (h2 : ∀ t, S t → UL body n t) : UL body (n + 1) s := Or.inr (h1 _ h2)
theorem UL_exit {σ : Type} {body : (σ → Prop) → σ → Prop} {n : Nat} {s : σ} (h1 : ∀ X : σ → Prop, body X s) : UL body (n + 1) s := Or.inr (h1 _)
def rdB (RQ RT : MMt → (Int32 → MMt → Prop) → Prop) (RR : Int32 → MMt → (Int32 → MMt → Prop) → Prop) (x1 : Int32) (Q : Int32 → MMt → Prop) (X22 : Int32 × Int32 × MMt → Prop) (z : Int32 × Int32 × MMt) : Prop :=
  ((z.1 = 0 → (BZ z.1 ∧ Q z.1 z.2.2)) ∧ (¬ z.1 = 0 → L_X10_isSign x1 z.2.2 (fun r3 m2 => ((r3 = 0 → (BZ z.1 ∧ Q z.1 m2)) ∧ (¬ r3 = 0 → ((¬ x1 = (2 : Int32) → B_X10_reads_43 RQ RT RR X22 x1 z.2.1 m2 Q) ∧ (x1 = (2 : Int32) → ((¬ z.2.1 = 0 → (BZ z.1 ∧ Q z.1 m2)) ∧ (z.2.1 = 0 → B_X10_reads_43 RQ RT RR X22 x1 z.2.1 m2 Q)))))))))
theorem rdB_e (RQ RT : MMt → (Int32 → MMt → Prop) → Prop) (RR : Int32 → MMt → (Int32 → MMt → Prop) → Prop) (x1 x2 x3 : Int32) (M : MMt) (Q : Int32 → MMt → Prop) (h : LOOP (rdB RQ RT RR x1 Q) (x2, x3, M)) : B_X10_reads_22 RQ RT RR x1 x2 x3 M Q := h
theorem BT.sg {v c : Int32} (h : BT v c) (hs : sgnc c) : v = c := by
  rcases hs with w | w | w | w | w | w | w | w | w | w <;> · rw [w]; exact (h.lit (by decide)).mpr w
theorem n10 : ¬ (1 : Int32) = 0 := by decide
theorem join9 {b : Nat} {s : Nat → Int32} {u : Int32} {n op f g : Nat} {po l : Int32} {W' : WPt} (hn : (s 7).toInt = n) (hn50 : n ≤ 50) (hl : 0 ≤ l.toInt ∧ l.toInt ≤ 4)
    (hS : SP (fun m K => W_X4_readJoined f b (l + 1) po m K) W' s u n op) (hW1 : ¬ l = 4 → ∀ M Q, W' M Q → W_X10_reads g (l + 1) M Q) (hW2 : l = 4 → ∀ M Q, W' M Q → W_X10_readsQ g M Q) :
    SP (fun m K => W_X4_readJoined (f + 1) b l po m K) (W_X10_reads (g + 1) l) s u n op := by
  intro m at_ cnt hm hc hat K k1 k0
  show L_X4_readJoined (W_X4_readJoined f) (W_X4_readPart f) (W_X4_readNegated f) (W_X4_readEnclosed f) b l po m K
  have lm1 : ¬ lv (-1) = l := by rw [lv_m1]; rintro e; rw [← e] at hl; exact absurd hl.1 (by decide)
  have entry : ∀ M Q, W' M (fun r m => B_X10_reads_19 (W_X10_readsQ g) (W_X10_readsT g) (W_X10_reads g) l r m Q) → W_X10_reads (g + 1) l M Q := fun M Q h => ⟨fun n4 => hW1 n4 _ _ h, fun e4 => hW2 e4 _ _ h⟩
  refine ⟨fun _ => ?_, fun d => absurd (by rw [Int32.le_iff_toInt_le]; simp only [Int32.reduceToInt]; omega) d⟩
  refine hS m at_ cnt hm hc hat _ (fun m' at1 o x1 x2 x3 x4 x5 x6 x7 x8 => ⟨fun _ => ?_, fun q => absurd q (by decide)⟩) (fun m' at1 x1 x2 x3 x4 x5 => ⟨fun q => absurd rfl q, fun _ => k0 m' at1 x1 x2 x3 x4 fun M c hM hcc Q hQ => entry _ _ (x5 M c hM hcc _ fun M' c' p1 p2 p3 => rdB_e _ _ _ _ _ _ _ _ (LOOP_exit fun X => ⟨fun _ => ⟨Or.inl rfl, hQ M' c' p1 p2 p3⟩, fun q => absurd rfl q⟩))⟩)
  unfold B_X4_readJoined_24
  refine LOOP_dn (fun d z => ∃ (at1 : Nat) (o : List (Int32 × Int32)) (x3 : Int32), d = n - at1 ∧ at_ + o.length ≤ at1 ∧ 1 ≤ o.length ∧ at1 ≤ n ∧ WV o ∧ CS s n at1 (cnt + o.length) z ∧ FrQ m z ∧ CW m z cnt o ∧ (l = 2 → x3 = 0) ∧
    ∀ (nn : Nat) (M : MMt) (c : Nat), MSt s u at_ op c M → c ≤ at_ → ∀ Q : Int32 → MMt → Prop, (∀ M' : MMt, MSt s u at1 op (c + o.length) M' → FrP M M' → CD M M' c o → UL (rdB (W_X10_readsQ g) (W_X10_readsT g) (W_X10_reads g) l Q) nn (1, x3, M')) → W_X10_reads (g + 1) l M Q)
    (n0 := n - at1) ⟨at1, o, 0, rfl, x1, x2, x3, x4, x5, x6, x7, fun _ => rfl, fun nn M c hM hcc Q hQ => entry _ _ (x8 M c hM hcc _ fun M' p1 p2 p3 => UL_LOOP (hQ M' p1 p2 p3))⟩ ?_
  rintro d z X ⟨at1, o, x3, rfl, y1, y2, y3, y4, y5, y6, y7, y8, H⟩ hX
  have out : ¬ lv (hre s n at1) = l → K 1 z := fun nl => k1 z at1 o y1 y2 y3 y4 y5 y6 y7 fun M c hM hcc Q hQ => H 1 M c hM hcc Q fun M' p1 p2 p3 => UL_exit fun X => ⟨fun q => absurd q n10, fun _ => isSign10 p1 hn hn50 hl _ (fun e => absurd e nl) (fun _ => ⟨fun _ => ⟨Or.inr rfl, hQ M' p1 p2 p3⟩, fun q => absurd rfl q⟩)⟩
  refine ⟨fun le => ?_, fun nle => ?_⟩
  · have ge : n ≤ at1 := by rw [Int32.le_iff_toInt_le, y5.1, y5.2.1] at le; omega
    exact out (by unfold hre; rw [if_neg (by omega)]; exact lm1)
  · have lt : at1 < n := by rw [Int32.le_iff_toInt_le, y5.1, y5.2.1] at nle; omega
    have hh : hre s n at1 = s (50 + at1) := if_pos lt
    have hB := y5.2.2.2 at1 lt
    rw [tn_of y5.2.1]
    refine ⟨vp_of y5.2.1 (by omega), levelOf9 hB _ _ ⟨fun ne => out (by rw [hh]; exact ne), fun el => ⟨vp_of y5.2.1 (by omega), ?_⟩⟩⟩
    rintro v7 hv7 m8 hm8
    have hsg : sgnc (s (50 + at1)) := by
      rcases lv_cases (s (50 + at1)) with w | w
      · exact w.1
      · exfalso; rw [w.1] at el; rw [← el] at hl; exact absurd hl.1 (by decide)
    rw [tn_of y5.2.1, hB.sg hsg] at hv7
    obtain ⟨q1, q2, q3⟩ := y5.next (by omega) hm8
    -- the reference's turn up to the part
    have turn : ∀ (Q : Int32 → MMt → Prop) (X : Int32 × Int32 × MMt → Prop) (M' : MMt) (c' : Nat), MSt s u at1 op c' M' → (∀ M3 : MMt, MSt s u (at1 + 1) op c' M3 → FrP M' M3 → (∀ k, cd M3 k = cd M' k) → W' M3 (fun r9 m8 => L_X10_lays (2 : Int32) (s (50 + at1)) m8 (fun m1 => X (r9, x3 + 1, m1)))) → rdB (W_X10_readsQ g) (W_X10_readsT g) (W_X10_reads g) l Q X (1, x3, M') := by
      intro Q X M' c' p1 hk
      refine ⟨fun q => absurd q n10, fun _ => isSign10 p1 hn hn50 hl _ (fun _ => ⟨fun q => absurd q (by decide), fun _ => ?_⟩) (fun d => absurd (by rw [hh]; exact el) d)⟩
      have B : B_X10_reads_43 (W_X10_readsQ g) (W_X10_readsT g) (W_X10_reads g) X l x3 M' Q := by
        refine here10 p1 hn hn50 _ ?_
        rw [hh]
        rintro M3 hM3 v4 rfl
        obtain ⟨r1, r2, r3⟩ := p1.next (by omega) hM3
        exact ⟨fun n4 => hW1 n4 _ _ (hk M3 r1 r2 r3), fun e4 => hW2 e4 _ _ (hk M3 r1 r2 r3)⟩
      exact ⟨fun _ => B, fun e2 => ⟨fun q => absurd (y8 e2) q, fun _ => B⟩⟩
    refine hS m8 (at1 + 1) (cnt + o.length) q1 (by omega) (by omega) _ (fun m' at2 o2 a1 a2 a3 a4 a5 a6 a7 a8 => ⟨fun _ => ?_, fun q => absurd q (by decide)⟩) (fun m' at2 a1 a2 a3 a4 a5 => ⟨fun q => absurd rfl q, fun _ => ?_⟩)
    · refine keep9 a5 (by omega) _ fun m3 w1 w2 w3 w4 => ?_
      have H' : ∀ (nn : Nat) (M : MMt) (c : Nat), MSt s u at_ op c M → c ≤ at_ → ∀ Q : Int32 → MMt → Prop, (∀ M' : MMt, MSt s u at2 op (c + (o ++ (o2 ++ [(2, s (50 + at1))])).length) M' → FrP M M' → CD M M' c (o ++ (o2 ++ [(2, s (50 + at1))])) → UL (rdB (W_X10_readsQ g) (W_X10_readsT g) (W_X10_reads g) l Q) nn (1, x3 + 1, M')) → W_X10_reads (g + 1) l M Q := by
        intro nn M c hM hcc Q hQ
        refine H (nn + 1) M c hM hcc Q fun M' p1 p2 p3 => ?_
        refine UL_step (fun t => t.1 = 1 ∧ t.2.1 = x3 + 1 ∧ MSt s u at2 op (c + (o ++ (o2 ++ [(2, s (50 + at1))])).length) t.2.2 ∧ FrP M t.2.2 ∧ CD M t.2.2 c (o ++ (o2 ++ [(2, s (50 + at1))]))) (fun X hXX => turn Q X M' _ p1 fun M3 r1 r2 r3 => ?_) ?_
        · refine a8 M3 _ r1 (by omega) _ fun M4 z1 z2 z3 => lays10 z1 (by omega) _ fun M5 t1 t2 t3 => hXX _ ⟨rfl, rfl, ?_, ((p2.tr r2).tr z2).tr t2, ?_⟩
          · rw [List.length_append, List.length_append, show c + (o.length + (o2.length + [((2 : Int32), s (50 + at1))].length)) = c + o.length + o2.length + 1 by simp; omega]
            exact t1
          · exact p3.tr (CD.tr (CD.same r3 z3) t3)
        · rintro ⟨x2, x3', t⟩ ⟨e1, e2, e3, e4, e5⟩
          dsimp only at e1 e2 e3 e4 e5
          subst e1; subst e2
          exact hQ t e3 e4 e5
      have len : (o ++ (o2 ++ [(2, s (50 + at1))])).length = o.length + (o2.length + 1) := by simp
      have c1 : at_ + (o ++ (o2 ++ [(2, s (50 + at1))])).length ≤ at2 := by omega
      have c2 : 1 ≤ (o ++ (o2 ++ [(2, s (50 + at1))])).length := by omega
      have c4 : WV (o ++ (o2 ++ [(2, s (50 + at1))])) := WV_2 y4 a4 hsg
      have c5 : CS s n at2 (cnt + (o ++ (o2 ++ [(2, s (50 + at1))])).length) m3 := by
        rw [len, show cnt + (o.length + (o2.length + 1)) = cnt + o.length + o2.length + 1 by omega]; exact w1
      have c6 : FrQ m m3 := ((y6.tr q2).tr a6).tr w2
      have c7 : CW m m3 cnt (o ++ (o2 ++ [(2, s (50 + at1))])) := by
        have cw2 : CW z m' (cnt + o.length) o2 := ⟨fun k hk => by rw [a7.1 k hk, q3], a7.2⟩
        refine y7.tr (cw2.tr ⟨w3, fun k hk => ?_⟩)
        have : k = 0 := by simp at hk; omega
        subst this
        rw [show cnt + o.length + o2.length + 0 = cnt + o.length + o2.length from rfl, w4, hv7]; rfl
      refine ⟨fun n2 => hX (n - at2) _ (by omega) ⟨at2, _, x3 + 1, rfl, c1, c2, a3, c4, c5, c6, c7, fun e => absurd e n2, H'⟩, fun e2 => ?_⟩
      refine k1 m3 at2 _ c1 c2 a3 c4 c5 c6 c7 fun M c hM hcc Q hQ => H' 1 M c hM hcc Q fun M' p1 p2 p3 => UL_exit fun X => ?_
      have x31 : ¬ x3 + 1 = 0 := by rw [y8 e2]; decide
      exact ⟨fun q => absurd q n10, fun _ => isSign10 p1 hn hn50 hl _ (fun _ => ⟨fun q => absurd q (by decide), fun _ => ⟨fun q => absurd e2 q, fun _ => ⟨fun _ => ⟨Or.inr rfl, hQ M' p1 p2 p3⟩, fun q => absurd q x31⟩⟩⟩) (fun _ => ⟨fun _ => ⟨Or.inr rfl, hQ M' p1 p2 p3⟩, fun q => absurd rfl q⟩)⟩
    · refine k0 m' at2 (by omega) a2 a3 ((y6.tr q2).tr a4) fun M c hM hcc Q hQ => H 2 M c hM hcc Q fun M' p1 p2 p3 => ?_
      refine UL_step (fun t => t.1 = 0 ∧ ∃ c' : Nat, MSt s u at2 op c' t.2.2 ∧ c' + at_ ≤ c + at2 ∧ FrP M t.2.2) (fun X hXX => turn Q X M' _ p1 fun M3 r1 r2 r3 => ?_) ?_
      · exact a5 M3 _ r1 (by omega) _ fun M4 c' z1 z2 z3 => lays10 z1 (by omega) _ fun M5 t1 t2 t3 => hXX _ ⟨rfl, c' + 1, t1, by omega, ((p2.tr r2).tr z3).tr t2⟩
      · rintro ⟨x2, x3', t⟩ ⟨e1, c', e3, e4, e5⟩
        dsimp only at e1 e3 e4 e5
        subst e1
        exact UL_exit fun X => ⟨fun _ => ⟨Or.inl rfl, hQ t c' e3 e4 e5⟩, fun q => absurd rfl q⟩
theorem join5 {b : Nat} {s : Nat → Int32} {u : Int32} {n op f : Nat} {po : Int32} {W' : WPt} (hS : SP (fun m K => W_X4_readPart f b po m K) W' s u n op) : SP (fun m K => W_X4_readJoined (f + 1) b 5 po m K) W' s u n op := by
  intro m at_ cnt hm hc hat K k1 k0
  show L_X4_readJoined (W_X4_readJoined f) (W_X4_readPart f) (W_X4_readNegated f) (W_X4_readEnclosed f) b 5 po m K
  exact ⟨fun q => absurd q (by decide), fun _ => hS m at_ cnt hm hc hat K k1 k0⟩
/-- T of the document -/
theorem joinT {b : Nat} {s : Nat → Int32} {u : Int32} {n op f g : Nat} {po : Int32} (hn : (s 7).toInt = n) (hn50 : n ≤ 50) (hS : SP (fun m K => W_X4_readPart f b po m K) (W_X10_readsQ g) s u n op) : SP (fun m K => W_X4_readJoined (f + 6) b 0 po m K) (W_X10_readsT (g + 6)) s u n op := by
  have j5 := join5 hS
  have j4 : SP _ _ s u n op := join9 (l := 4) hn hn50 (by decide) j5 (fun q => absurd rfl q) (fun _ M Q h => h)
  have j3 : SP _ _ s u n op := join9 (l := 3) hn hn50 (by decide) j4 (fun _ M Q h => h) (fun q => absurd q (by decide))
  have j2 : SP _ _ s u n op := join9 (l := 2) hn hn50 (by decide) j3 (fun _ M Q h => h) (fun q => absurd q (by decide))
  have j1 : SP _ _ s u n op := join9 (l := 1) hn hn50 (by decide) j2 (fun _ M Q h => h) (fun q => absurd q (by decide))
  have j0 : SP _ _ s u n op := join9 (l := 0) hn hn50 (by decide) j1 (fun _ M Q h => h) (fun q => absurd q (by decide))
  exact SP.imp j0 fun M Q h => h
theorem part_all {b : Nat} {s : Nat → Int32} {u : Int32} (hu : u.toInt = b) (hu2 : b < 2) {n : Nat} (hn : (s 7).toInt = n) (hn50 : n ≤ 50) : ∀ (e op f g : Nat) (po : Int32), op + e = 5 → po.toInt = op → SP (fun m K => W_X4_readPart (8 * e + 2 + f) b po m K) (W_X10_readsQ (7 * e + 1 + g)) s u n op
  | 0, op, f, g, po, h1, h2 => by
    have := part9 (f := f + 1) (g := g) (n := n) (op := op) (po := po) hu hu2 rfl (by omega) h2 hn hn50 (fun q => absurd q (by omega)) (fun q => absurd q (by omega)) (by omega)
    rw [show 8 * 0 + 2 + f = f + 1 + 1 by omega, show 7 * 0 + 1 + g = g + 1 by omega]
    exact this
  | e + 1, op, f, g, po, h1, h2 => by
    have := part9 (f := 8 * e + 2 + f + 7) (g := 7 * e + 1 + g + 6) (n := n) (op := op) (po := po) hu hu2 rfl (by omega) h2 hn hn50 (fun _ p1 hp => ?_) (fun _ p1 hp => ?_) (by omega)
    · rw [show 8 * (e + 1) + 2 + f = 8 * e + 2 + f + 7 + 1 by omega, show 7 * (e + 1) + 1 + g = 7 * e + 1 + g + 6 + 1 by omega]
      exact this
    · have := part_all hu hu2 hn hn50 e (op + 1) (f + 6) (g + 6) p1 (by omega) hp
      rw [show 8 * e + 2 + f + 7 - 1 = 8 * e + 2 + (f + 6) by omega, show 7 * e + 1 + g + 6 = 7 * e + 1 + (g + 6) by omega]
      exact this
    · have := joinT hn hn50 (part_all hu hu2 hn hn50 e (op + 1) f g p1 (by omega) hp)
      rw [show 8 * e + 2 + f + 7 - 1 = 8 * e + 2 + f + 6 by omega]
      exact this
/-- TEXT of the document -/
theorem text_all {b : Nat} {s : Nat → Int32} {u : Int32} (hu : u.toInt = b) (hu2 : b < 2) {n : Nat} (hn : (s 7).toInt = n) (hn50 : n ≤ 50) : SP (fun m K => W_X4_readJoined 80 b 0 0 m K) (W_X10_readsT 80) s u n 0 :=
  joinT (f := 74) (g := 74) hn hn50 (part_all hu hu2 hn hn50 5 0 32 38 0 rfl rfl)
