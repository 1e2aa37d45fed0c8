theorem nm10 {s : Nat → Int32} {u : Int32} {un : Nat} (hu : u.toInt = un) (hu2 : un < 2) {n at_ op c : Nat} {M : MMt} (h : MSt s u at_ op c M) (hn : (s 7).toInt = n) (hn50 : n ≤ 50) (Q : Int32 → MMt → Prop) (hQ : Q (nmI un (hre s n at_)) M) : L_X10_nameHere M Q := by
  refine here10 h hn hn50 _ ?_
  rw [h.2.2.2.1]
  generalize hre s n at_ = x at hQ
  unfold nmI at hQ
  refine ⟨fun d => ?_, fun d => ?_⟩
  · rw [if_neg (fun e => d (by rw [eq_ti, hu, e]; rfl))] at hQ
    refine ⟨fun e1 => ⟨fun e2 => ⟨fun e3 => ?_, fun e3 => ?_⟩, fun e2 => ?_⟩, fun e1 => ?_⟩
    · rwa [if_neg e1, if_neg e2, if_neg e3] at hQ
    · rwa [if_neg e1, if_neg e2, if_pos e3] at hQ
    · rwa [if_neg e1, if_pos e2] at hQ
    · rwa [if_pos e1] at hQ
  · rw [if_pos (by rw [eq_ti, hu] at d; simp only [Int32.reduceToInt] at d; omega)] at hQ
    refine ⟨fun e1 => ⟨fun e2 => ?_, fun e2 => ?_⟩, fun e1 => ?_⟩
    · rwa [if_neg e1, if_neg e2] at hQ
    · rwa [if_neg e1, if_pos e2] at hQ
    · rwa [if_pos e1] at hQ
theorem nmI_rg (u : Nat) (c : Int32) : nmI u c = -1 ∨ (0 ≤ (nmI u c).toInt ∧ (nmI u c).toInt ≤ 2) := by
  unfold nmI
  split
  · split
    · right; decide
    · split
      · right; decide
      · left; rfl
  · split
    · right; decide
    · split
      · right; decide
      · split
        · right; decide
        · left; rfl
theorem nmI_m1 (u : Nat) : nmI u (-1) = -1 := by
  unfold nmI
  split <;> decide
theorem hre_dg {s : Nat → Int32} {n at_ : Nat} (h : ¬ at_ < n) : ¬ dgt (hre s n at_) := by
  unfold hre; rw [if_neg h]; unfold dgt; decide
theorem SP.imp {C W W' : WPt} {s : Nat → Int32} {u : Int32} {n op : Nat} (h : SP C W s u n op) (hW : ∀ M Q, W M Q → W' M Q) : SP C W' s u n op := by
  intro m at_ cnt hm hc hl K k1 k0
  refine h m at_ cnt hm hc hl K (fun m' at1 o a b c d e f g i => k1 m' at1 o a b c d e f g fun M cc hM hcc Q hQ => hW _ _ (i M cc hM hcc Q hQ)) (fun m' at1 a b c d i => k0 m' at1 a b c d fun M cc hM hcc Q hQ => hW _ _ (i M cc hM hcc Q hQ))
/-- Q of the document: NUMBER, NAME, ! Q, ( T ) -/
theorem part9 {b un : Nat} {s : Nat → Int32} {u : Int32} (hu : u.toInt = un) (hu2 : un < 2) {n op f g : Nat} {po : Int32} (hb : b = un) (hop : op ≤ 5) (hpo : po.toInt = op) (hn : (s 7).toInt = n) (hn50 : n ≤ 50)
    (hNeg : op < 5 → ∀ p1 : Int32, p1.toInt = (op + 1 : Nat) → SP (fun m K => W_X4_readPart (f - 1) b p1 m K) (W_X10_readsQ g) s u n (op + 1))
    (hEnc : op < 5 → ∀ p1 : Int32, p1.toInt = (op + 1 : Nat) → SP (fun m K => W_X4_readJoined (f - 1) b 0 p1 m K) (W_X10_readsT g) s u n (op + 1)) (hf : 1 ≤ f) :
    SP (fun m K => W_X4_readPart (f + 1) b po m K) (W_X10_readsQ (g + 1)) s u n op := by
  intro m at_ cnt hm hc hl K k1 k0
  show L_X4_readPart (W_X4_readJoined f) (W_X4_readPart f) (W_X4_readNegated f) (W_X4_readEnclosed f) b po m K
  have fail : ¬ dgt (hre s n at_) → nmI un (hre s n at_) = -1 → (op = 5 ∨ (¬ hre s n at_ = 33 ∧ ¬ hre s n at_ = 40)) → NOM (W_X10_readsQ (g + 1)) s u op at_ at_ := by
    intro d1 d2 d3 M c hM hcc Q hQ
    show L_X10_readsQ (W_X10_readsQ g) (W_X10_readsT g) (W_X10_reads g) M Q
    refine isDig10 hM hn hn50 _ (fun q => absurd q d1) (fun _ => ⟨fun _ => nm10 hu hu2 hM hn hn50 _ ?_, fun q => absurd rfl q⟩)
    rw [d2]
    have out := hQ M c hM (Nat.le_refl _) (FrP.rf M)
    have B57 : ∀ x, op = 5 → B_X10_readsQ_57 (W_X10_readsQ g) (W_X10_readsT g) (W_X10_reads g) x M Q := fun x e => ⟨fun q => absurd (by rw [eq_ti, hM.2.2.1, e]; rfl) q, fun _ => out⟩
    refine ⟨fun _ => here10 hM hn hn50 _ ⟨fun e => ?_, fun e => ⟨fun _ => out, fun e2 => ?_⟩⟩, fun q => absurd (by decide) q⟩
    · rcases d3 with w | w
      · exact B57 _ w
      · exact absurd e w.1
    · rcases d3 with w | w
      · exact B57 _ w
      · exact absurd e2 w.2
  refine ⟨fun lt => ?_, fun nlt => ?_⟩
  · have hlt : at_ < n := by rw [Int32.lt_iff_toInt_lt, hm.1, hm.2.1] at lt; omega
    have hB := hm.2.2.2 at_ hlt
    have hh : hre s n at_ = s (50 + at_) := if_pos hlt
    rw [tn_of hm.2.1, hB.and]
    refine ⟨vp_of hm.2.1 (by omega), ?_⟩
    rintro v3 rfl
    unfold L_X4_isDigit
    rw [within_sp]
    simp only [Int32.reduceToInt]
    by_cases c9 : dgt (s (50 + at_))
    · rw [if_pos (show _ ∧ _ from c9)]
      refine ⟨fun q => absurd q (by decide), fun _ => num9 (u := u) (op := op) hn hn50 hm hc hlt c9 _ fun m' at1 o a b' c' d e f' g' i => k1 m' at1 o a b' c' d e f' g' ?_⟩
      intro M c hM hcc Q hQ
      show L_X10_readsQ (W_X10_readsQ g) (W_X10_readsT g) (W_X10_reads g) M Q
      exact isDig10 hM hn hn50 _ (fun _ => ⟨fun q => absurd q (by decide), fun _ => i M c hM hcc Q hQ⟩) (fun q => absurd (by rw [hh]; exact c9) q)
    · rw [if_neg (show ¬ (_ ∧ _) from c9)]
      refine ⟨fun _ => ?_, fun q => absurd trivial q⟩
      subst hb
      refine idx9 hu2 hB.1 _ _ ?_
      have dN : ¬ dgt (hre s n at_) := by rw [hh]; exact c9
      rcases nmI_rg b (s (50 + at_)) with e1 | e1
      · rw [e1]
        have eN : nmI b (hre s n at_) = -1 := by rw [hh]; exact e1
        refine ⟨fun _ => ⟨fun q5 => ?_, fun q5 => ?_⟩, fun q => absurd (by decide) q⟩
        · have o5 : op = 5 := by rw [Int32.le_iff_toInt_le, hpo] at q5; simp only [Int32.reduceToInt] at q5; omega
          exact k0 m at_ (Nat.le_refl _) hl hm.2.1 (FrQ.rf m) (fail dN eN (Or.inl o5))
        · have o5 : op < 5 := by rw [Int32.le_iff_toInt_le, hpo] at q5; simp only [Int32.reduceToInt] at q5; omega
          have p1e : (po + 1).toInt = (op + 1 : Nat) := ti_p1 hpo (by omega)
          have nxt : ∀ (M : MMt) (c : Nat) (Q : Int32 → MMt → Prop), MSt s u at_ op c M → (hre s n at_ = 33 ∨ hre s n at_ = 40) → (∀ M3 : MMt, MSt s u (at_ + 1) (op + 1) c M3 → FrP M M3 → (∀ k, cd M3 k = cd M k) → ((¬ hre s n at_ = 33 → W_X10_readsT g M3 (fun r6 m5 => ((r6 = 0 → B_X10_readsQ_120 (W_X10_readsQ g) (W_X10_readsT g) (W_X10_reads g) (hre s n at_) m5 Q) ∧ (¬ r6 = 0 → L_X10_takes (41 : Int32) m5 (fun r9 m8 => ((r9 = 0 → B_X10_readsQ_120 (W_X10_readsQ g) (W_X10_readsT g) (W_X10_reads g) (hre s n at_) m8 Q) ∧ (¬ r9 = 0 → B_X10_readsQ_121 (W_X10_readsQ g) (W_X10_readsT g) (W_X10_reads g) (hre s n at_) (1 : Int32) m8 Q))))))) ∧ (hre s n at_ = 33 → W_X10_readsQ g M3 (fun r12 m11 => B_X10_readsQ_121 (W_X10_readsQ g) (W_X10_readsT g) (W_X10_reads g) (hre s n at_) r12 m11 Q)))) → W_X10_readsQ (g + 1) M Q := by
            intro M c Q hM h3340 hk
            show L_X10_readsQ (W_X10_readsQ g) (W_X10_readsT g) (W_X10_reads g) M Q
            refine isDig10 hM hn hn50 _ (fun q => absurd q dN) (fun _ => ⟨fun _ => nm10 hu hu2 hM hn hn50 _ ?_, fun q => absurd rfl q⟩)
            rw [eN]
            have body : B_X10_readsQ_57 (W_X10_readsQ g) (W_X10_readsT g) (W_X10_reads g) (hre s n at_) M Q := by
              refine ⟨fun _ => ?_, fun q => ?_⟩
              · rintro m2 hm2 m3 hm3
                obtain ⟨r1, r2, r3⟩ := hM.next (by omega) hm2
                obtain ⟨t1, t2, t3⟩ := r1.opn (op' := op + 1) (ti_p1 r1.2.2.1 (by omega)) hm3
                exact hk m3 t1 (r2.tr t2) (fun k => (t3 k).trans (r3 k))
              · have := hM.2.2.1
                rw [q] at this; simp only [Int32.reduceToInt] at this; omega
            refine ⟨fun _ => here10 hM hn hn50 _ ⟨fun _ => body, fun e => ⟨fun e2 => absurd (h3340.resolve_left e) e2, fun _ => body⟩⟩, fun q => absurd (by decide) q⟩
          have cls : ∀ m1 : MMt, m1 = up2 m 55 4 (m 55 4 + 1) → CS s n (at_ + 1) cnt m1 ∧ FrQ m m1 ∧ m1 56 = m 56 := fun m1 h1 => hm.next (by omega) h1
          have B93 : (s (50 + at_) = 33 ∨ s (50 + at_) = 40) → B_X4_readPart_93 (W_X4_readJoined f) (W_X4_readPart f) (W_X4_readNegated f) (W_X4_readEnclosed f) b po (s (50 + at_)) m K := by
            intro h3340
            rintro m1 hm1
            obtain ⟨q1, q2, q3⟩ := cls m1 hm1
            obtain ⟨f', rfl⟩ : ∃ f', f = f' + 1 := ⟨f - 1, by omega⟩
            refine ⟨fun n33 => ?_, fun e33 => ?_⟩
            · have e40 : s (50 + at_) = 40 := h3340.resolve_left n33
              show L_X4_readEnclosed (W_X4_readJoined f') (W_X4_readPart f') (W_X4_readNegated f') (W_X4_readEnclosed f') b (po + 1) m1 (fun r4 m3 => K r4 m3)
              refine hEnc o5 (po + 1) p1e m1 (at_ + 1) cnt q1 (by omega) (by omega) _ (fun m' at1 o x1 x2 x3 x4 x5 x6 x7 x8 => ?_) (fun m' at1 x1 x2 x3 x4 x5 => ?_)
              · refine ⟨fun q => absurd q (by decide), fun _ => ⟨fun le => ?_, fun nle => ?_⟩⟩
                · have ge : n ≤ at1 := by rw [Int32.le_iff_toInt_le, x5.1, x5.2.1] at le; omega
                  refine k0 m' at1 (by omega) x3 x5.2.1 (q2.tr x6) ?_
                  intro M c hM hcc Q hQ
                  refine nxt M c Q hM (Or.inr (by rw [hh]; exact e40)) fun M3 y1 y2 y3 => ⟨fun _ => x8 M3 c y1 (by omega) _ fun M5 z1 z2 z3 => ⟨fun q => absurd q (by decide), fun _ => ?_⟩, fun q => absurd (by rw [hh] at q; exact q) n33⟩
                  refine here10 z1 hn hn50 _ ⟨fun q => ?_, fun _ => ⟨fun _ => ?_, fun q => absurd rfl q⟩⟩
                  · unfold hre at q; rw [if_neg (by omega)] at q; exact absurd q (by decide)
                  · rintro M6 hM6
                    obtain ⟨t1, t2, t3⟩ := z1.opn (op' := op) (ti_s1 z1.2.2.1 (by omega)) hM6
                    refine ⟨fun _ => ⟨Or.inl rfl, hQ M6 (c + o.length) t1 (by omega) ((y2.tr z2).tr t2)⟩, fun q => absurd (by rw [hh] at q; exact q) n33⟩
                · have lt1 : at1 < n := by rw [Int32.le_iff_toInt_le, x5.1, x5.2.1] at nle; omega
                  have hB1 := x5.2.2.2 at1 lt1
                  have hh1 : hre s n at1 = s (50 + at1) := if_pos lt1
                  have bl := hB1.lit (l := 41) (by decide)
                  rw [tn_of x5.2.1]
                  refine ⟨vp_of x5.2.1 (by omega), fun e41 => ?_, fun n41 => ?_⟩
                  · rw [bl] at e41
                    rintro m7 hm7
                    obtain ⟨w1, w2, w3⟩ := x5.next (by omega) hm7
                    refine k1 m7 (at1 + 1) o (by omega) x2 (by omega) x4 w1 ((q2.tr x6).tr w2) ⟨fun k hk => by rw [w3, x7.1 k hk, q3], fun k hk => by rw [w3]; exact x7.2 k hk⟩ ?_
                    intro M c hM hcc Q hQ
                    refine nxt M c Q hM (Or.inr (by rw [hh]; exact e40)) fun M3 y1 y2 y3 => ⟨fun _ => x8 M3 c y1 (by omega) _ fun M5 z1 z2 z3 => ⟨fun q => absurd q (by decide), fun _ => ?_⟩, fun q => absurd (by rw [hh] at q; exact q) n33⟩
                    refine here10 z1 hn hn50 _ ⟨fun _ => ?_, fun q => absurd (by rw [hh1]; exact e41) q⟩
                    rintro M8 hM8
                    obtain ⟨r1, r2, r3⟩ := z1.next (by omega) hM8
                    refine ⟨fun q => absurd q (by decide), fun _ => ?_⟩
                    rintro M6 hM6
                    obtain ⟨t1, t2, t3⟩ := r1.opn (op' := op) (ti_s1 r1.2.2.1 (by omega)) hM6
                    refine ⟨fun _ => ⟨Or.inr rfl, hQ M6 t1 (((y2.tr z2).tr r2).tr t2) (CD.then (CD.same y3 z3) fun k => (t3 k).trans (r3 k))⟩, fun q => absurd (by rw [hh] at q; exact q) n33⟩
                  · refine k0 m' at1 (by omega) x3 x5.2.1 (q2.tr x6) ?_
                    intro M c hM hcc Q hQ
                    refine nxt M c Q hM (Or.inr (by rw [hh]; exact e40)) fun M3 y1 y2 y3 => ⟨fun _ => x8 M3 c y1 (by omega) _ fun M5 z1 z2 z3 => ⟨fun q => absurd q (by decide), fun _ => ?_⟩, fun q => absurd (by rw [hh] at q; exact q) n33⟩
                    refine here10 z1 hn hn50 _ ⟨fun q => absurd (bl.mpr (by rw [hh1] at q; exact q)) n41, fun _ => ⟨fun _ => ?_, fun q => absurd rfl q⟩⟩
                    rintro M6 hM6
                    obtain ⟨t1, t2, t3⟩ := z1.opn (op' := op) (ti_s1 z1.2.2.1 (by omega)) hM6
                    refine ⟨fun _ => ⟨Or.inl rfl, hQ M6 (c + o.length) t1 (by omega) ((y2.tr z2).tr t2)⟩, fun q => absurd (by rw [hh] at q; exact q) n33⟩
              · refine ⟨fun _ => ?_, fun q => absurd rfl q⟩
                refine k0 m' at1 (by omega) x2 x3 (q2.tr x4) ?_
                intro M c hM hcc Q hQ
                refine nxt M c Q hM (Or.inr (by rw [hh]; exact e40)) fun M3 y1 y2 y3 => ⟨fun _ => x5 M3 c y1 (by omega) _ fun M5 c5 z1 z2 z3 => ⟨fun _ => ?_, fun q => absurd rfl q⟩, fun q => absurd (by rw [hh] at q; exact q) n33⟩
                rintro M6 hM6
                obtain ⟨t1, t2, t3⟩ := z1.opn (op' := op) (ti_s1 z1.2.2.1 (by omega)) hM6
                refine ⟨fun _ => ⟨Or.inl rfl, hQ M6 c5 t1 (by omega) ((y2.tr z3).tr t2)⟩, fun q => absurd (by rw [hh] at q; exact q) n33⟩
            · show L_X4_readNegated (W_X4_readJoined f') (W_X4_readPart f') (W_X4_readNegated f') (W_X4_readEnclosed f') b (po + 1) m1 (fun r6 m5 => K r6 m5)
              refine hNeg o5 (po + 1) p1e m1 (at_ + 1) cnt q1 (by omega) (by omega) _ (fun m' at1 o x1 x2 x3 x4 x5 x6 x7 x8 => ⟨fun _ => ?_, fun q => absurd q (by decide)⟩) (fun m' at1 x1 x2 x3 x4 x5 => ⟨fun q => absurd rfl q, fun _ => ?_⟩)
              · refine keep9 x5 (by omega) _ fun m7 w1 w2 w3 w4 => ?_
                refine k1 m7 at1 (o ++ [(3, 0)]) (by simp; omega) (by simp) x3 (WV_3 x4) (by rw [List.length_append]; exact w1) ((q2.tr x6).tr w2) ?_ ?_
                · refine CW.tr (M1 := m') (CW.tr (a := []) (M1 := m1) ⟨fun k _ => by rw [q3], fun k hk => absurd hk (by simp)⟩ x7) ⟨w3, fun k hk => ?_⟩
                  have : k = 0 := by simp at hk; omega
                  subst this
                  exact w4
                · intro M c hM hcc Q hQ
                  refine nxt M c Q hM (Or.inl (by rw [hh]; exact e33)) fun M3 y1 y2 y3 => ⟨fun q => absurd (by rw [hh]; exact e33) q, fun _ => x8 M3 c y1 (by omega) _ fun M5 z1 z2 z3 => ?_⟩
                  rintro M6 hM6
                  obtain ⟨t1, t2, t3⟩ := z1.opn (op' := op) (ti_s1 z1.2.2.1 (by omega)) hM6
                  refine ⟨fun q => absurd (by rw [hh]; exact e33) q, fun _ => ⟨fun q => absurd q (by decide), fun _ => lays10 t1 (by omega) _ fun M7 p1 p2 p3 => ⟨Or.inr rfl, ?_⟩⟩⟩
                  refine hQ M7 (by rw [List.length_append]; exact p1) (((y2.tr z2).tr t2).tr p2) (CD.tr (M1 := M6) (CD.then (CD.same y3 z3) t3) p3)
              · refine k0 m' at1 (by omega) x2 x3 (q2.tr x4) ?_
                intro M c hM hcc Q hQ
                refine nxt M c Q hM (Or.inl (by rw [hh]; exact e33)) fun M3 y1 y2 y3 => ⟨fun q => absurd (by rw [hh]; exact e33) q, fun _ => x5 M3 c y1 (by omega) _ fun M5 c5 z1 z2 z3 => ?_⟩
                rintro M6 hM6
                obtain ⟨t1, t2, t3⟩ := z1.opn (op' := op) (ti_s1 z1.2.2.1 (by omega)) hM6
                have O := hQ M6 c5 t1 (by omega) ((y2.tr z3).tr t2)
                exact ⟨fun _ => ⟨Or.inl rfl, O⟩, fun _ => ⟨fun _ => ⟨Or.inl rfl, O⟩, fun q => absurd rfl q⟩⟩
          refine ⟨fun e33 => B93 (Or.inl e33), fun n33 => ⟨fun e40 => B93 (Or.inr e40), fun n40 => ?_⟩⟩
          exact k0 m at_ (Nat.le_refl _) hl hm.2.1 (FrQ.rf m) (fail dN eN (Or.inr ⟨by rw [hh]; exact n33, by rw [hh]; exact n40⟩))
      · have g0 : ¬ nmI b (s (50 + at_)) < 0 := by rw [Int32.lt_iff_toInt_lt]; simp only [Int32.reduceToInt]; omega
        refine ⟨fun q => absurd q g0, fun _ => keep9 hm (by omega) _ fun m2 w1 w2 w3 w4 => ?_⟩
        rintro m14 hm14
        obtain ⟨r1, r2, r3⟩ := w1.next (by omega) hm14
        refine k1 m14 (at_ + 1) [(1, nmI b (s (50 + at_)))] (by simp) (by simp) (by omega) (WV_1 e1) r1 (w2.tr r2) ⟨fun k hk => by rw [r3]; exact w3 k hk, fun k hk => ?_⟩ ?_
        · have : k = 0 := by simp at hk; omega
          subst this
          rw [r3, show cnt + 0 = cnt from rfl, w4]; rfl
        · intro M c hM hcc Q hQ
          show L_X10_readsQ (W_X10_readsQ g) (W_X10_readsT g) (W_X10_reads g) M Q
          refine isDig10 hM hn hn50 _ (fun q => absurd q dN) (fun _ => ⟨fun _ => nm10 hu hu2 hM hn hn50 _ ?_, fun q => absurd rfl q⟩)
          rw [hh]
          refine ⟨fun q => absurd q g0, fun _ => nm10 hu hu2 hM hn hn50 _ ?_⟩
          rw [hh]
          refine lays10 hM (by omega) _ fun M2 p1 p2 p3 => ?_
          rintro M3 hM3
          obtain ⟨t1, t2, t3⟩ := p1.next (by omega) hM3
          exact hQ M3 t1 (p2.tr t2) (CD.then p3 t3)
  · have hge : ¬ at_ < n := by
      intro q; apply nlt; rw [Int32.lt_iff_toInt_lt, hm.1, hm.2.1]; omega
    have e : hre s n at_ = -1 := if_neg hge
    refine k0 m at_ (Nat.le_refl _) hl hm.2.1 (FrQ.rf m) (fail (hre_dg hge) ?_ (Or.inr ⟨?_, ?_⟩))
    · rw [e]; exact nmI_m1 un
    · rw [e]; decide
    · rw [e]; decide
