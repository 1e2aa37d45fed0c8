/-- z behind a draw, what a draw gives -/
def zn (z : Int32) : Int32 := z * 1103515245 + 12345
def drw (z : Int32) : Int32 := (z.toUInt32 >>> ((8 : Int32).toUInt32 &&& Int32.toUInt32 31)).toInt32
def qk (z : Int32) : Int32 := drw z - drw z / 3 * 3 - 1
/-- a QUAKE of one good -/
def pq (s : Nat → Int32) (k : Nat) : Nat → Int32 := upd (upd s 5 (zn (s 5))) (10 + 5 * k + 3) (hld (s (10 + 5 * k + 3) + qk (zn (s 5))) (-9) 9)
def pqN (s : Nat → Int32) : Nat → Nat → Int32
  | 0 => s
  | k + 1 => pq (pqN s k) k
def pqA (s : Nat → Int32) : Nat → Int32 := pqN s (s 6).toInt.toNat
theorem pq_o {s : Nat → Int32} {k i : Nat} (h1 : i ≠ 5) (h2 : i ≠ 10 + 5 * k + 3) : pq s k i = s i := by unfold pq; rw [upd_ne h2, upd_ne h1]
theorem pq_3 (s : Nat → Int32) (k : Nat) : pq s k (10 + 5 * k + 3) = hld (s (10 + 5 * k + 3) + qk (zn (s 5))) (-9) 9 ∧ pq s k 5 = zn (s 5) := by
  unfold pq; rw [upd_eq, upd_ne (show 5 ≠ 10 + 5 * k + 3 by omega), upd_eq]; exact ⟨rfl, rfl⟩
theorem pqN_o {s : Nat → Int32} : ∀ {k i : Nat}, i ≠ 5 → (i < 10 ∨ 10 + 5 * k ≤ i) → pqN s k i = s i
  | 0, _, _, _ => rfl
  | k + 1, i, h1, h2 => by
    show pq (pqN s k) k i = s i
    rw [pq_o h1 (by omega)]
    exact pqN_o h1 (by omega)
theorem pq_WG {s : Nat → Int32} {k : Nat} (h : WG s) : WG (pq s k) := by
  obtain ⟨h1, h2⟩ := h
  have e6 : pq s k 6 = s 6 := pq_o (by decide) (by omega)
  refine ⟨by rw [e6]; exact h1, fun g hg => ?_⟩
  rw [e6] at hg
  obtain ⟨w0, w1, w2, w3, w4⟩ := h2 g hg
  have o : ∀ j, j < 5 → j ≠ 3 → gd (pq s k) g j = gd s g j := fun j hj h3 => by
    show pq s k (10 + 5 * g + j) = s (10 + 5 * g + j)
    rw [pq_o (by omega) (by omega)]
  unfold GW
  rw [o 0 (by decide) (by decide), o 1 (by decide) (by decide), o 2 (by decide) (by decide), o 4 (by decide) (by decide)]
  refine ⟨w0, w1, w2, ?_, w4⟩
  by_cases e : g = k
  · subst e
    rw [show gd (pq s g) g 3 = pq s g (10 + 5 * g + 3) from rfl, (pq_3 s g).1]; exact hld9 _
  · rw [show gd (pq s k) g 3 = pq s k (10 + 5 * g + 3) from rfl, pq_o (by omega) (by omega)]; exact w3
theorem pqN_WG {s : Nat → Int32} (h : WG s) : ∀ k, WG (pqN s k)
  | 0 => h
  | k + 1 => pq_WG (pqN_WG h k)
theorem pqN_le {s : Nat → Int32} {k : Nat} (hk : k ≤ 8) : LE2 s (pqN s k) := fun i h1 h2 => pqN_o (by omega) (by omega)
theorem pqA_o {s : Nat → Int32} (h : WG s) {i : Nat} (h1 : i ≠ 5) (h2 : i < 10 ∨ 50 ≤ i) : pqA s i = s i := by
  have := h.1
  exact pqN_o h1 (by omega)
theorem pqA_le {s : Nat → Int32} (h : WG s) : LE2 s (pqA s) := fun i h1 h2 => pqA_o h (by omega) (by omega)
theorem quake9 {s : Nat → Int32} {mem : MMt} (hC : CR 1 s mem) (hz : mem 11 2 = s 5) (hG : WG s) (Q : MMt → Prop)
    (h : ∀ m' : MMt, (∀ a, a ≠ 11 → (a < 3 ∨ 10 < a) → m' a = mem a) → (∀ j, j ≠ 2 → m' 11 j = mem 11 j) → CR 1 (pqA s) m' → m' 11 2 = pqA s 5 → Q m') : L_X0_quake 1 mem Q := by
  have w6 := hG.1
  obtain ⟨N, hN⟩ : ∃ N : Nat, (s 6).toInt = N := ⟨(s 6).toInt.toNat, by omega⟩
  have eN : (s 6).toInt.toNat = N := by omega
  unfold L_X0_quake B_X0_quake_2
  refine LOOP_up N (fun k z => z.1 = Int32.ofNat k ∧ (∀ a, a ≠ 11 → (a < 3 ∨ 10 < a) → z.2 a = mem a) ∧ (∀ j, j ≠ 2 → z.2 11 j = mem 11 j) ∧ CR 1 (pqN s k) z.2 ∧ z.2 11 2 = pqN s k 5) ⟨rfl, fun _ _ _ => rfl, fun _ _ => rfl, hC, hz⟩ ?_ ?_
  · rintro k ⟨x, m⟩ X hk ⟨e1, e2, e3, e4, e5⟩ hX
    dsimp only at e1 e2 e3 e4 e5 hX ⊢
    subst e1
    have hk2 : TI (Int32.ofNat k) k := on_ti (by omega)
    have s6 : pqN s k 6 = s 6 := pqN_o (by decide) (by omega)
    rw [e4.1, s6, hk2.tn, row3]
    refine ⟨fun d => absurd d (nle_of hN hk2 hk), fun _ => ⟨hk2.vp (by omega), ?_⟩⟩
    rintro m1 hm1
    refine shove9 _ ?_
    rintro v6 rfl
    have hgk : (k : Int) < (pqN s k 6).toInt := by rw [s6]; omega
    have z1 : m1 11 2 = zn (pqN s k 5) := by rw [hm1, up2_eq, e5]; rfl
    have r3 : m1 (3 + k) 3 = pqN s k (10 + 5 * k + 3) := by
      rw [hm1, up2_ro _ _ _ _ _ (by omega), ← row3]; exact e4.2.2.2 k hgk 3 (by decide)
    rw [z1, r3]
    have pp := pq_3 (pqN s k) k
    have fin : ∀ m2 : MMt, m2 = up2 m1 (3 + k) 3 (hld (pqN s k (10 + 5 * k + 3) + qk (zn (pqN s k 5))) (-9) 9) → X (Int32.ofNat k + 1, m2) := by
      intro m2 hm2
      have rr : ∀ q, q ≠ 3 + k → q ≠ 11 → m2 q = m q := fun q q1 q2 => by rw [hm2, up2_ro _ _ _ _ _ q1, hm1, up2_ro _ _ _ _ _ q2]
      refine hX _ ⟨on_1 k, fun q q1 q2 => ?_, fun j hj => ?_, ⟨?_, ?_, ?_, ?_⟩, ?_⟩
      · show m2 q = _
        rw [rr q (by omega) q1]; exact e2 q q1 q2
      · show m2 11 j = _
        rw [hm2, up2_ro _ _ _ _ _ (by omega), hm1, uq, if_neg hj]; exact e3 j hj
      · show m2 1 1 = pq (pqN s k) k 6
        rw [rr 1 (by omega) (by omega), pq_o (by decide) (by omega)]; exact e4.1
      · show m2 1 2 = pq (pqN s k) k 0
        rw [rr 1 (by omega) (by omega), pq_o (by decide) (by omega)]; exact e4.2.1
      · show m2 1 3 = pq (pqN s k) k 1
        rw [rr 1 (by omega) (by omega), pq_o (by decide) (by omega)]; exact e4.2.2.1
      · intro g hg j hj
        have hg' : (g : Int) < (pqN s k 6).toInt := by
          have : pqN s (k + 1) 6 = pqN s k 6 := pq_o (by decide) (by omega)
          rw [this] at hg; exact hg
        have hg8 : g < 8 := by rw [s6] at hg'; omega
        show m2 (1 + 2 + g) j = pq (pqN s k) k (10 + 5 * g + j)
        rw [row3]
        by_cases e : g = k
        · subst e
          rw [hm2, uq]
          by_cases e3' : j = 3
          · subst e3'; rw [if_pos rfl, pp.1]
          · rw [if_neg e3', hm1, up2_ro _ _ _ _ _ (by omega), ← row3, e4.2.2.2 g hg' j hj, pq_o (by omega) (by omega)]; rfl
        · rw [rr _ (by omega) (by omega), ← row3, e4.2.2.2 g hg' j hj, pq_o (by omega) (by omega)]; rfl
      · show m2 11 2 = pq (pqN s k) k 5
        rw [hm2, up2_ro _ _ _ _ _ (by omega), z1, pp.2]
    exact fin _ rfl
  · rintro ⟨x, m⟩ X ⟨e1, e2, e3, e4, e5⟩
    dsimp only at e1 e2 e3 e4 e5 ⊢
    subst e1
    have s6 : pqN s N 6 = s 6 := pqN_o (by decide) (by omega)
    rw [e4.1, s6]
    have eA : pqA s = pqN s N := by unfold pqA; rw [eN]
    refine ⟨fun _ => h m e2 e3 (by rw [eA]; exact e4) (by rw [eA]; exact e5), fun d => absurd (le_of hN (on_ti (by omega) : (Int32.ofNat N).toInt = N) (Nat.le_refl _)) d⟩
def plN (s : Nat → Int32) : Nat → Nat → Int32
  | 0 => s
  | k + 1 => pst (pqA (plN s k))
theorem plN_WG {s : Nat → Int32} (h : WG s) : ∀ k, WG (plN s k)
  | 0 => h
  | k + 1 => pst_WG (pqN_WG (plN_WG h k) _)
theorem plN_o {s : Nat → Int32} (h : WG s) {i : Nat} (h0 : i ≠ 0) (h1 : i ≠ 1) (h5 : i ≠ 5) (h2 : i < 10 ∨ 50 ≤ i) : ∀ k, plN s k i = s i
  | 0 => rfl
  | k + 1 => (pst_o (pqN_WG (plN_WG h k) _) h0 h1 h2).trans ((pqA_o (plN_WG h k) h5 h2).trans (plN_o h h0 h1 h5 h2 k))
theorem plN_le {s : Nat → Int32} (h : WG s) (k : Nat) : LE2 s (plN s k) := fun i h1 h2 => plN_o h (by omega) (by omega) (by omega) (by omega) k
theorem loose9 {a : Int32} {N : Nat} (ha : a.toInt = N) (hN : N ≤ 200) {s : Nat → Int32} {mem : MMt} (hC : CR 1 s mem) (hz : mem 11 2 = s 5) (hG : WG s) (hT : TH2 s mem) (Q : Int32 → MMt → Prop)
    (h : ∀ m' : MMt, (∀ a, a ≠ 1 → a ≠ 11 → (a < 3 ∨ 10 < a) → a ≠ 21 → a ≠ 17 → a ≠ 20 → m' a = mem a) → (∀ j, j ≠ 2 → m' 11 j = mem 11 j) → CR 1 (plN s N) m' → m' 11 2 = plN s N 5 → MEM s m' → L_X9_howManyRest m' Q) : B_X9_loose_40 a 0 mem Q := by
  unfold B_X9_loose_40
  refine LOOP_up N (fun k z => z.1 = Int32.ofNat k ∧ (∀ a, a ≠ 1 → a ≠ 11 → (a < 3 ∨ 10 < a) → a ≠ 21 → a ≠ 17 → a ≠ 20 → z.2 a = mem a) ∧ (∀ j, j ≠ 2 → z.2 11 j = mem 11 j) ∧ CR 1 (plN s k) z.2 ∧ z.2 11 2 = plN s k 5 ∧ MEM s z.2) ⟨rfl, fun _ _ _ _ _ _ _ => rfl, fun _ _ => rfl, hC, hz, hT.1.2.2.2⟩ ?_ ?_
  · rintro k ⟨x, m⟩ X hk ⟨e1, e2, e3, e4, e5, e6⟩ hX
    dsimp only at e1 e2 e3 e4 e5 e6 hX ⊢
    subst e1
    have hk2 : TI (Int32.ofNat k) k := on_ti (by omega)
    refine ⟨fun d => absurd d (nle_of ha hk2 hk), fun _ => ?_⟩
    have hGk := plN_WG hG k
    refine quake9 e4 e5 hGk _ fun m1 g1 g2 g3 g4 => ?_
    have hGq : WG (pqA (plN s k)) := pqN_WG hGk _
    have ll : LE2 s (pqA (plN s k)) := (plN_le hG k).tr (pqA_le hGk)
    have M1 : MEM s m1 := MEM_congr e6 (g1 21 (by decide) (by decide)) fun _ _ => rfl
    have hTq : TH2 (pqA (plN s k)) m1 := TH2_le hT ll (fun q hq => by rw [g1 q (by omega) (by omega)]; exact e2 q (by omega) (by omega) (by omega) (by omega) (by omega) (by omega)) M1
    refine goOn9 (Or.inl rfl) g3 hGq hTq _ fun m2 k1 k2 k3 => ?_
    rintro v6 rfl
    have r11 : m2 11 = m1 11 := k1 11 (by decide) (by decide) (by decide) (by decide) (by decide)
    refine hX _ ⟨on_1 k, fun q q1 q2 q3 q4 q5 q6 => ?_, fun j hj => ?_, k2, ?_, ?_⟩
    · show m2 q = _
      rw [k1 q q1 q3 q4 q5 q6, g1 q q2 q3]; exact e2 q q1 q2 q3 q4 q5 q6
    · show m2 11 j = _
      rw [r11, g2 j hj]; exact e3 j hj
    · show m2 11 2 = pst (pqA (plN s k)) 5
      rw [r11, g4, pst_o hGq (by decide) (by decide) (by decide)]
    · intro i hi
      have := k3 i hi
      rw [gv_congr hT.wl.1 hT.wl.2 ll] at this
      exact this
  · rintro ⟨x, m⟩ X ⟨e1, e2, e3, e4, e5, e6⟩
    dsimp only at e1 e2 e3 e4 e5 e6 ⊢
    subst e1
    exact ⟨fun _ => h m e2 e3 e4 e5 e6, fun d => absurd (le_of ha (on_ti (by omega) : (Int32.ofNat N).toInt = N) (Nat.le_refl _)) d⟩
theorem loose10 {a : Int32} {N : Nat} (ha : a.toInt = N) (hN : N ≤ 200) {mem : MMt} (hG : WG (mem 77)) (hw : WL (mem 77)) (Q : Int32 → MMt → Prop)
    (h : ∀ m' : MMt, (∀ q, q ≠ 76 → q ≠ 77 → q ≠ 81 → q ≠ 82 → m' q = mem q) → (∀ j, j ≠ 12 → j ≠ 13 → m' 76 j = mem 76 j) → m' 77 = plN (mem 77) N → L_X10_resting m' Q) : B_X10_goOn_40 a 1 0 mem Q := by
  unfold B_X10_goOn_40
  refine LOOP_up N (fun k z => z.1 = Int32.ofNat k ∧ (∀ q, q ≠ 76 → q ≠ 77 → q ≠ 81 → q ≠ 82 → z.2 q = mem q) ∧ (∀ j, j ≠ 12 → j ≠ 13 → z.2 76 j = mem 76 j) ∧ z.2 77 = plN (mem 77) k) ⟨rfl, fun _ _ _ _ _ => rfl, fun _ _ _ => rfl, rfl⟩ ?_ ?_
  · rintro k ⟨x, m⟩ X hk ⟨e1, e2, e3, e4⟩ hX
    dsimp only at e1 e2 e3 e4 hX ⊢
    subst e1
    have hk2 : TI (Int32.ofNat k) k := on_ti (by omega)
    refine ⟨fun d => absurd d (nle_of ha hk2 hk), fun _ => ?_⟩
    have hGk := plN_WG hG k
    have w6 := hGk.1
    obtain ⟨M, hM⟩ : ∃ M : Nat, (plN (mem 77) k 6).toInt = M := ⟨(plN (mem 77) k 6).toInt.toNat, by omega⟩
    have eA : pqA (plN (mem 77) k) = pqN (plN (mem 77) k) M := by unfold pqA; rw [show (plN (mem 77) k 6).toInt.toNat = M by omega]
    unfold B_X10_goOn_48
    refine LOOP_up M (fun i z => z.1 = Int32.ofNat i ∧ (∀ q, q ≠ 77 → z.2 q = m q) ∧ z.2 77 = pqN (plN (mem 77) k) i) ⟨rfl, fun _ _ => rfl, e4⟩ ?_ ?_
    · rintro i ⟨y, m2⟩ X2 hi ⟨p1, p2, p3⟩ hX2
      dsimp only at p1 p2 p3 hX2 ⊢
      subst p1
      have hi2 : TI (Int32.ofNat i) i := on_ti (by omega)
      have s6 : m2 77 6 = plN (mem 77) k 6 := by rw [p3]; exact pqN_o (by decide) (by omega)
      rw [s6]
      refine ⟨fun d => absurd d (nle_of hM hi2 hi), fun _ => ⟨fun d => absurd d (by decide), fun _ => ?_⟩⟩
      rintro m3 hm3
      have z5 : m3 77 5 = zn (pqN (plN (mem 77) k) i 5) := by rw [hm3, up2_eq, p3]; rfl
      rw [z5]
      refine pushed10 hi2 (by omega) _ ?_
      rintro v7 rfl
      refine hX2 _ ⟨on_1 i, fun q hq => ?_, ?_⟩
      · show up2 m3 77 _ _ q = _
        rw [up2_ro _ _ _ _ _ hq, hm3, up2_ro _ _ _ _ _ hq]; exact p2 q hq
      · show up2 m3 77 _ _ 77 = pq (pqN (plN (mem 77) k) i) i
        rw [up2_row, hm3, up2_row, p3]
        unfold pq
        rw [upd_ne (show 10 + 5 * i + 3 ≠ 5 by omega)]
        rfl
    · rintro ⟨y, m2⟩ X2 ⟨p1, p2, p3⟩
      dsimp only at p1 p2 p3 ⊢
      subst p1
      have s6 : m2 77 6 = plN (mem 77) k 6 := by rw [p3]; exact pqN_o (by decide) (by omega)
      rw [s6]
      refine ⟨fun _ => ?_, fun d => absurd (le_of hM (on_ti (by omega) : (Int32.ofNat M).toInt = M) (Nat.le_refl _)) d⟩
      rw [← eA] at p3
      refine step10 (by rw [p3]; exact pqN_WG hGk _) (by rw [p3]; exact WL_le hw ((plN_le hG k).tr (pqA_le hGk))) _ fun m' g1 g2 g3 => ?_
      rintro v2 rfl
      refine hX _ ⟨on_1 k, fun q q1 q2 q3 q4 => ?_, fun j j1 j2 => ?_, ?_⟩
      · show m' q = _
        rw [g1 q q1 q2 q3 q4, p2 q q2]; exact e2 q q1 q2 q3 q4
      · show m' 76 j = _
        rw [g2 j j1 j2, p2 76 (by decide)]; exact e3 j j1 j2
      · show m' 77 = pst (pqA (plN (mem 77) k))
        rw [g3, p3]
  · rintro ⟨x, m⟩ X ⟨e1, e2, e3, e4⟩
    dsimp only at e1 e2 e3 e4 ⊢
    subst e1
    exact ⟨fun _ => h m e2 e3 e4, fun d => absurd (le_of ha (on_ti (by omega) : (Int32.ofNat N).toInt = N) (Nat.le_refl _)) d⟩
theorem k_loose {n : Nat} {a : Int32} {mem : MMt} (h : Inv n mem) : L_X9_loose a mem (fun r m => L_X10_loose a m (fun r' m' => r = r' ∧ Inv n m')) := by
  have e2 : mem 1 2 = mem 77 0 := h.1.1.2.1
  have hG := h.1.2
  obtain ⟨⟨⟨a1, a2, a3, a4, a5, a6⟩, -⟩, w1, -⟩ := h.2.1
  by_cases c1 : 1 ≤ a.toInt ∧ a.toInt ≤ 200
  · obtain ⟨N, hN⟩ : ∃ N : Nat, a.toInt = N := ⟨a.toInt.toNat, by omega⟩
    have hN2 : N ≤ 200 := by omega
    by_cases c2 : mem 77 0 + a ≤ 9999
    · simp only [L_X9_loose, within_sp, Int32.reduceToInt, if_pos c1, e10, not_false_eq_true, not_true_eq_false, false_implies, forall_const, true_and, and_true, eq_self, imp_self, true_implies, e2]
      refine ⟨fun _ => ?_, fun d => absurd c2 d⟩
      refine loose9 hN hN2 h.1.1 a4 hG h.th2 _ fun m1 g1 g2 g3 g4 g5 => ?_
      refine rest_end (M := fun m Q => L_X10_loose a m Q) h (t := plN (mem 77) N) (plN_WG hG N) g3 (TH2_le h.th2 (plN_le hG N) (fun q hq => g1 q (by omega) (by omega) (by omega) (by omega) (by omega) (by omega)) g5) (fun q q1 q2 => g1 q (by omega) (by omega) (by omega) q2 (by omega) (by omega)) ?_ ?_
      · intro m2 Q p1 p2
        have f77 : m2 77 = mem 77 := by rw [p1 77 (by decide) (by decide) (by decide), g1 77 (by decide) (by decide) (by decide) (by decide) (by decide) (by decide)]
        simp only [L_X10_loose, L_X10_goOn, isIn_sp, Int64.reduceToInt, if_pos c1, e10, not_false_eq_true, not_true_eq_false, false_implies, forall_const, true_and, and_true, eq_self, imp_self, true_implies, f77]
        refine ⟨fun _ => ?_, fun d => absurd c2 d⟩
        refine loose10 hN hN2 (by rw [f77]; exact hG) (by rw [f77]; exact h.wl) _ fun m' k1 k2 k3 => p2 m' k1 k2 (by rw [k3, f77])
      · intro m' k1 k2 k3 k4
        have r11 : m' 11 = m1 11 := k1 11 (by decide) (by decide) (by decide) (by decide) (by decide) (by decide) (by decide)
        have r12 : m' 12 = mem 12 := by rw [k1 12 (by decide) (by decide) (by decide) (by decide) (by decide) (by decide) (by decide), g1 12 (by decide) (by decide) (by decide) (by decide) (by decide) (by decide)]
        refine Inv_ct h (fun q q1 q2 q3 => ?_) ⟨k2 2 (by decide) (by decide), k2 3 (by decide) (by decide), k2 24 (by decide) (by decide)⟩ ⟨?_, by rw [k3]; exact plN_WG hG N⟩ ?_ (fun i i1 i2 => by rw [k3]; exact plN_le hG N i i1 i2) ?_
        · unfold SC at q3
          rw [k1 q (by omega) (by omega) (by omega) (by omega) q1 (by omega) (by omega), g1 q (by omega) (by omega) (by omega) (by omega) (by omega) (by omega)]
        · rw [k3]
          refine CR_congr g3 (fun j _ _ => by rw [k1 1 (by decide) (by decide) (by decide) (by decide) (by decide) (by decide) (by decide)]) (fun g j hg _ => by rw [k1 _ (by omega) (by omega) (by omega) (by omega) (by omega) (by omega) (by omega)]) (fun _ _ => rfl) ?_
          exact (plN_WG hG N).1.2
        · refine IT_d h.2.1 (fun q q1 q2 q3 => by rw [k1 q (by omega) (by omega) (by omega) (by omega) (by omega) (by omega) (by omega), g1 q (by omega) (by omega) (by omega) (by omega) (by omega) (by omega)]) (by rw [r11, g2 4 (by decide)]) (by rw [r11, g2 6 (by decide)]) ?_ ?_ ?_ ?_ ?_ (fun i i1 i2 i3 => by rw [k3]; exact plN_o hG (by omega) (by omega) (by omega) i2 N)
          · rw [r11, g2 0 (by decide), k3, plN_o hG (by decide) (by decide) (by decide) (by decide) N]; exact a1
          · rw [r12, k3, plN_o hG (by decide) (by decide) (by decide) (by decide) N]; exact a2
          · rw [r12, k3, plN_o hG (by decide) (by decide) (by decide) (by decide) N]; exact a3
          · rw [r11, g4, k3]
          · rw [k3, plN_o hG (by decide) (by decide) (by decide) (by decide) N]; exact w1
        · intro i hi
          have := k4 i hi
          rw [gv_congr h.wl.1 h.wl.2 (plN_le hG N)] at this
          exact this
    · simp only [L_X9_loose, within_sp, Int32.reduceToInt, if_pos c1, e10, not_false_eq_true, not_true_eq_false, false_implies, forall_const, true_and, and_true, eq_self, imp_self, true_implies, e2]
      refine ⟨fun d => absurd d c2, fun _ => ?_⟩
      refine err_end h (by decide) (R := fun Q m => L_X10_loose a m Q) fun m Q hm he => ?_
      simp only [L_X10_loose, L_X10_goOn, isIn_sp, Int64.reduceToInt, if_pos c1, e10, not_false_eq_true, not_true_eq_false, false_implies, forall_const, true_and, and_true, eq_self, imp_self, true_implies, hm 77 (by decide)]
      exact ⟨fun d => absurd d c2, fun _ => he⟩
  · simp only [L_X9_loose, within_sp, Int32.reduceToInt, if_neg c1, e10, not_false_eq_true, not_true_eq_false, false_implies, forall_const, true_and, and_true, eq_self, imp_self, true_implies]
    refine err_end h (by decide) (R := fun Q m => L_X10_loose a m Q) fun m Q hm he => ?_
    simp only [L_X10_loose, L_X10_goOn, isIn_sp, Int64.reduceToInt, if_neg c1, e10, not_false_eq_true, not_true_eq_false, false_implies, forall_const, true_and, and_true, eq_self, imp_self, true_implies]
    exact he
