theorem ix52 {x : Int32} {c : Nat} {l : Int32} {k : Nat} (hl : l.toInt = c) (hx : x.toInt = k) (h : c + k < 2147483648) : (l + x).toInt = (c + k : Nat) := TI.add hl hx h
/-- a course is copied -/
theorem copyC {cb ca : Nat} (hd : cb + 9 < ca ∨ ca + 9 < cb) {s : Nat → Int32} {mem : MMt} (hC : CR ca s mem) (hG : WG s) (Q : MMt → Prop)
    (h : ∀ m' : MMt, (∀ a, a ≠ cb → (a < cb + 2 ∨ cb + 9 < a) → m' a = mem a) → CR cb s m' → Q m') : L_X0_copyFrom cb ca mem Q := by
  have w6 := hG.1
  obtain ⟨N, hN⟩ : ∃ N : Nat, (s 6).toInt = N := ⟨(s 6).toInt.toNat, by omega⟩
  rintro m1 hm1 m2 hm2 m3 hm3
  have r3 : ∀ a, a ≠ cb → m3 a = mem a := fun a ha => by rw [hm3, up2_ro _ _ _ _ _ ha, hm2, up2_ro _ _ _ _ _ ha, hm1, up2_ro _ _ _ _ _ ha]
  have ra : ca ≠ cb := by omega
  have c1 : m3 cb 1 = s 6 := by rw [hm3, uq, if_neg (by decide), hm2, uq, if_neg (by decide), hm1, up2_eq]; exact hC.1
  have c2 : m3 cb 2 = s 0 := by rw [hm3, uq, if_neg (by decide), hm2, up2_eq, hm1, up2_ro _ _ _ _ _ ra]; exact hC.2.1
  have c3 : m3 cb 3 = s 1 := by rw [hm3, up2_eq, hm2, up2_ro _ _ _ _ _ ra, hm1, up2_ro _ _ _ _ _ ra]; exact hC.2.2.1
  clear hm1 hm2 hm3
  unfold B_X0_copyFrom_26
  refine LOOP_up N (fun k z => z.1 = Int32.ofNat k ∧ (∀ a, (a < cb + 2 ∨ cb + 9 < a) → z.2 a = m3 a) ∧ ∀ g, g < k → ∀ j, j < 5 → z.2 (cb + 2 + g) j = gd s g j) ⟨rfl, fun _ _ => rfl, fun g hg => absurd hg (by omega)⟩ ?_ ?_
  · rintro k ⟨x, m⟩ X hk ⟨e1, e2, e3⟩ hX
    dsimp only at e1 e2 e3 hX ⊢
    subst e1
    have hk2 : TI (Int32.ofNat k) k := on_ti (by omega)
    rw [e2 cb (by omega), c1, hk2.tn]
    refine ⟨fun d => absurd d (nle_of hN hk2 hk), fun _ => ⟨hk2.vp (by omega), hk2.vp (by omega), ?_⟩⟩
    refine copy1 (by omega) _ _ fun m' g1 g2 => ?_
    rintro v5 rfl
    refine hX _ ⟨on_1 k, fun a ha => ?_, fun g hg j hj => ?_⟩
    · show m' a = _
      rw [g1 a (by omega), e2 a ha]
    · show m' (cb + 2 + g) j = _
      by_cases e : g = k
      · subst e
        rw [g2, cpy5_lt hj, e2 _ (by omega), r3 _ (by omega)]
        exact hC.2.2.2 g (by omega) j hj
      · rw [g1 _ (by omega), e3 g (by omega) j hj]
  · rintro ⟨x, m⟩ X ⟨e1, e2, e3⟩
    dsimp only at e1 e2 e3 ⊢
    subst e1
    rw [e2 cb (by omega), c1]
    refine ⟨fun _ => h m (fun a a1 a2 => (e2 a a2).trans (r3 a a1)) ⟨by rw [e2 cb (by omega)]; exact c1, by rw [e2 cb (by omega)]; exact c2, by rw [e2 cb (by omega)]; exact c3, fun g hg j hj => e3 g (by omega) j hj⟩, fun d => absurd (le_of hN (on_ti (by omega) : (Int32.ofNat N).toInt = N) (Nat.le_refl _)) d⟩
theorem saves10 {mem : MMt} (Q : MMt → Prop) (h : ∀ m' : MMt, (∀ q, q ≠ 83 → m' q = mem q) → m' 83 0 = mem 77 0 → m' 83 1 = mem 77 1 → (∀ i, i < 40 → m' 83 (2 + i) = mem 77 (10 + i)) → Q m') : L_X10_saves mem Q := by
  rintro m1 hm1 m2 hm2
  have r2 : ∀ q, q ≠ 83 → m2 q = mem q := fun q hq => by rw [hm2, up2_ro _ _ _ _ _ hq, hm1, up2_ro _ _ _ _ _ hq]
  have b0 : m2 83 0 = mem 77 0 := by rw [hm2, uq, if_neg (by decide), hm1, up2_eq]
  have b1 : m2 83 1 = mem 77 1 := by rw [hm2, up2_eq, hm1, up2_ro _ _ _ _ _ (by decide)]
  unfold B_X10_saves_26
  refine LOOP_up 40 (fun k z => z.1 = Int32.ofNat k ∧ (∀ q, q ≠ 83 → z.2 q = mem q) ∧ z.2 83 0 = mem 77 0 ∧ z.2 83 1 = mem 77 1 ∧ ∀ i, i < k → z.2 83 (2 + i) = mem 77 (10 + i)) ⟨rfl, r2, b0, b1, fun i hi => absurd hi (by omega)⟩ ?_ ?_
  · rintro k ⟨x, m⟩ X hk ⟨e1, e2, e3, e4, e5⟩ hX
    dsimp only at e1 e2 e3 e4 e5 hX ⊢
    subst e1
    have hk2 : TI (Int32.ofNat k) k := on_ti (by omega)
    have i1 : TI ((10 : Int32) + Int32.ofNat k) (10 + k) := TI.add (rfl : TI 10 10) hk2 (by omega)
    have i2 : TI ((2 : Int32) + Int32.ofNat k) (2 + k) := TI.add (rfl : TI 2 2) hk2 (by omega)
    rw [i1.tn, i2.tn, e2 77 (by decide)]
    refine ⟨fun d => absurd d (nle_of (n := 40) rfl hk2 hk), fun _ => ⟨i1.vp (by omega), i2.vp (by omega), ?_⟩⟩
    rintro m3 hm3 v5 rfl
    refine hX _ ⟨on_1 k, fun q hq => ?_, ?_, ?_, fun i hi => ?_⟩
    · show m3 q = _
      rw [hm3, up2_ro _ _ _ _ _ hq, e2 q hq]
    · show m3 83 0 = _
      rw [hm3, uq, if_neg (by omega), e3]
    · show m3 83 1 = _
      rw [hm3, uq, if_neg (by omega), e4]
    · show m3 83 (2 + i) = _
      rw [hm3, uq]
      by_cases e : i = k
      · rw [if_pos (by omega), e]
      · rw [if_neg (by omega), e5 i (by omega)]
  · rintro ⟨x, m⟩ X ⟨e1, e2, e3, e4, e5⟩
    dsimp only at e1 e2 e3 e4 e5 ⊢
    subst e1
    exact ⟨fun _ => h m e2 e3 e4 e5, fun d => absurd (le_of (n := 40) rfl (on_ti (by omega) : (Int32.ofNat 40).toInt = (40 : Nat)) (Nat.le_refl _)) d⟩
theorem puts10 {mem : MMt} (Q : MMt → Prop) (h : ∀ m' : MMt, (∀ q, q ≠ 77 → m' q = mem q) → m' 77 0 = mem 83 0 → m' 77 1 = mem 83 1 → (∀ i, i < 40 → m' 77 (10 + i) = mem 83 (2 + i)) → (∀ i, i ≠ 0 → i ≠ 1 → (i < 10 ∨ 50 ≤ i) → m' 77 i = mem 77 i) → Q m') : L_X10_putsBack mem Q := by
  rintro m1 hm1 m2 hm2
  have r2 : ∀ q, q ≠ 77 → m2 q = mem q := fun q hq => by rw [hm2, up2_ro _ _ _ _ _ hq, hm1, up2_ro _ _ _ _ _ hq]
  have b0 : m2 77 0 = mem 83 0 := by rw [hm2, uq, if_neg (by decide), hm1, up2_eq]
  have b1 : m2 77 1 = mem 83 1 := by rw [hm2, up2_eq, hm1, up2_ro _ _ _ _ _ (by decide)]
  have b2 : ∀ i, i ≠ 0 → i ≠ 1 → m2 77 i = mem 77 i := fun i h0 h1 => by rw [hm2, uq, if_neg h1, hm1, uq, if_neg h0]
  unfold B_X10_putsBack_26
  refine LOOP_up 40 (fun k z => z.1 = Int32.ofNat k ∧ (∀ q, q ≠ 77 → z.2 q = mem q) ∧ z.2 77 0 = mem 83 0 ∧ z.2 77 1 = mem 83 1 ∧ (∀ i, i < k → z.2 77 (10 + i) = mem 83 (2 + i)) ∧ ∀ i, i ≠ 0 → i ≠ 1 → (i < 10 ∨ 50 ≤ i) → z.2 77 i = mem 77 i) ⟨rfl, r2, b0, b1, fun i hi => absurd hi (by omega), fun i h0 h1 _ => b2 i h0 h1⟩ ?_ ?_
  · rintro k ⟨x, m⟩ X hk ⟨e1, e2, e3, e4, e5, e6⟩ hX
    dsimp only at e1 e2 e3 e4 e5 e6 hX ⊢
    subst e1
    have hk2 : TI (Int32.ofNat k) k := on_ti (by omega)
    have i1 : TI ((10 : Int32) + Int32.ofNat k) (10 + k) := TI.add (rfl : TI 10 10) hk2 (by omega)
    have i2 : TI ((2 : Int32) + Int32.ofNat k) (2 + k) := TI.add (rfl : TI 2 2) hk2 (by omega)
    rw [i1.tn, i2.tn, e2 83 (by decide)]
    refine ⟨fun d => absurd d (nle_of (n := 40) rfl hk2 hk), fun _ => ⟨i2.vp (by omega), i1.vp (by omega), ?_⟩⟩
    rintro m3 hm3 v5 rfl
    refine hX _ ⟨on_1 k, fun q hq => ?_, ?_, ?_, fun i hi => ?_, fun i h0 h1 h2 => ?_⟩
    · show m3 q = _
      rw [hm3, up2_ro _ _ _ _ _ hq, e2 q hq]
    · show m3 77 0 = _
      rw [hm3, uq, if_neg (by omega), e3]
    · show m3 77 1 = _
      rw [hm3, uq, if_neg (by omega), e4]
    · show m3 77 (10 + i) = _
      rw [hm3, uq]
      by_cases e : i = k
      · rw [if_pos (by omega), e]
      · rw [if_neg (by omega), e5 i (by omega)]
    · show m3 77 i = _
      rw [hm3, uq, if_neg (by omega), e6 i h0 h1 h2]
  · rintro ⟨x, m⟩ X ⟨e1, e2, e3, e4, e5, e6⟩
    dsimp only at e1 e2 e3 e4 e5 e6 ⊢
    subst e1
    exact ⟨fun _ => h m e2 e3 e4 e5 e6, fun d => absurd (le_of (n := 40) rfl (on_ti (by omega) : (Int32.ofNat 40).toInt = (40 : Nat)) (Nat.le_refl _)) d⟩
/-- put back: the row is as it was -/
theorem back_eq {s t : Nat → Int32} (h0 : t 0 = s 0) (h1 : t 1 = s 1) (h2 : ∀ i, i < 40 → t (10 + i) = s (10 + i)) (h3 : ∀ i, i ≠ 0 → i ≠ 1 → (i < 10 ∨ 50 ≤ i) → t i = s i) : t = s := by
  funext i
  by_cases e0 : i = 0
  · rw [e0]; exact h0
  · by_cases e1 : i = 1
    · rw [e1]; exact h1
    · by_cases e2 : i < 10 ∨ 50 ≤ i
      · exact h3 i e0 e1 e2
      · have := h2 (i - 10) (by omega)
        rw [show 10 + (i - 10) = i by omega] at this
        exact this
theorem k_then {n : Nat} {a b c : Int32} {mem : MMt} (h : Inv n mem) : L_X9_then a b c mem (fun r m => L_X10_then a b c m (fun r' m' => r = r' ∧ Inv n m')) := by
  have hG := h.1.2
  by_cases c1 : 0 ≤ a.toInt ∧ a.toInt ≤ 200
  · by_cases c2 : 0 ≤ b.toInt ∧ b.toInt < (mem 77 6).toInt
    · obtain ⟨g, hg⟩ : ∃ g : Nat, b.toInt = g := ⟨b.toInt.toNat, by omega⟩
      have e2 := h.n9.2
      have hg8 : g < 8 := by omega
      by_cases c3 : 0 ≤ c.toInt ∧ c.toInt ≤ 2
      · obtain ⟨N, hN⟩ : ∃ N : Nat, a.toInt = N := ⟨a.toInt.toNat, by omega⟩
        have hN2 : N ≤ 200 := by omega
        simp only [L_X9_then, within_sp, h.i9 b, Int32.reduceToInt, if_pos c1, if_pos c2, if_pos c3, e10, not_false_eq_true, not_true_eq_false, false_implies, forall_const, true_and, and_true, eq_self, imp_self, true_implies]
        refine copyC (by omega) h.1.1 hG _ fun m1 g1 g2 => ?_
        have hT1 : TH2 (mem 77) m1 := TH2_le h.th2 (LE2.rf _) (fun q hq => g1 q (by omega) (by omega)) (MEM_congr h.mem (g1 21 (by decide) (by decide)) fun _ _ => rfl)
        have model : ∀ (m2 : MMt) (r : Int32), (∀ q, (q < 43 ∨ 52 < q) → q ≠ 21 → q ≠ 17 → q ≠ 20 → m2 q = mem q) → MEM (mem 77) m2 → r = (if c = 2 then psN (mem 77) N 1 else psN (mem 77) N (10 + 5 * g + (2 + c.toInt.toNat))) → L_X10_then a b c m2 (fun r' m' => r = r' ∧ Inv n m') := by
          intro m2 r k1 k2 hr
          have f77 : m2 77 = mem 77 := k1 77 (by decide) (by decide) (by decide) (by decide)
          simp only [L_X10_then, isIn_sp, h.i10 b (m := m2) (by rw [f77]), Int64.reduceToInt, if_pos c1, if_pos c2, if_pos c3, e10, not_false_eq_true, not_true_eq_false, false_implies, forall_const, true_and, and_true, eq_self, imp_self, true_implies]
          refine saves10 _ fun m3 l1 l2 l3 l4 => ?_
          have f3 : m3 77 = mem 77 := by rw [l1 77 (by decide), f77]
          unfold B_X10_then_45
          refine LOOP_up N (fun k z => z.1 = Int32.ofNat k ∧ (∀ q, q ≠ 76 → q ≠ 77 → q ≠ 81 → q ≠ 82 → z.2 q = m3 q) ∧ (∀ j, j ≠ 12 → j ≠ 13 → z.2 76 j = m3 76 j) ∧ z.2 77 = psN (m3 77) k) ⟨rfl, fun _ _ _ _ _ => rfl, fun _ _ _ => rfl, rfl⟩ ?_ ?_
          · rintro k ⟨x, m⟩ X hk ⟨p1, p2, p3, p4⟩ hX
            dsimp only at p1 p2 p3 p4 hX ⊢
            subst p1
            have hk2 : TI (Int32.ofNat k) k := on_ti (by omega)
            refine ⟨fun d => absurd d (nle_of hN hk2 hk), fun _ => ?_⟩
            refine stepN10 (mem := m3) (by rw [f3]; exact hG) (by rw [f3]; exact h.wl) k p2 p3 p4 _ fun m' q1 q2 q3 => ?_
            rintro v9 rfl
            exact hX _ ⟨on_1 k, q1, q2, q3⟩
          · rintro ⟨x, m⟩ X ⟨p1, p2, p3, p4⟩
            dsimp only at p1 p2 p3 p4 ⊢
            subst p1
            rw [f3] at p4
            have out : ∀ r2 : Int32, r = r2 → L_X10_putsBack m (fun m' => r = r2 ∧ Inv n m') := by
              intro r2 hr2
              refine puts10 _ fun m5 q1 q2 q3 q4 q5 => ⟨hr2, ?_⟩
              have b83 : ∀ x, m 83 x = m3 83 x := fun x => by rw [p2 83 (by decide) (by decide) (by decide) (by decide)]
              have e77 : m5 77 = mem 77 := by
                refine back_eq ?_ ?_ ?_ ?_
                · rw [q2, b83, l2, f77]
                · rw [q3, b83, l3, f77]
                · intro i hi; rw [q4 i hi, b83, l4 i hi, f77]
                · intro i h0 h1 h2; rw [q5 i h0 h1 h2, p4]; exact psN_o hG h0 h1 h2 N
              have e21 : m5 21 = m2 21 := by rw [q1 21 (by decide), p2 21 (by decide) (by decide) (by decide) (by decide), l1 21 (by decide)]
              refine Inv_sc h (fun q hq => ?_) ?_ (MEM_congr k2 e21 fun _ _ => rfl)
              · unfold SC at hq
                by_cases e : q = 77
                · rw [e]; exact e77
                · rw [q1 q e, p2 q (by omega) e (by omega) (by omega), l1 q (by omega), k1 q (by omega) (by omega) (by omega) (by omega)]
              · rw [q1 76 (by decide), p3 2 (by decide) (by decide), p3 3 (by decide) (by decide), p3 24 (by decide) (by decide), l1 76 (by decide), k1 76 (by decide) (by decide) (by decide) (by decide)]; exact ⟨rfl, rfl, rfl⟩
            refine ⟨fun _ => ⟨fun d => ?_, fun d => ?_⟩, fun d => absurd (le_of hN (on_ti (by omega) : (Int32.ofNat N).toInt = N) (Nat.le_refl _)) d⟩
            · have c01 : c.toInt = 0 ∨ c.toInt = 1 := by
                rw [eq_ti] at d; simp only [Int32.reduceToInt] at d; omega
              have w2 : ((2 : Int32) + c).toInt = (2 + c.toInt.toNat : Nat) := by rw [ad_s (by simp only [Int32.reduceToInt]; omega)]; simp only [Int32.reduceToInt]; omega
              refine of10 (j := 2 + c.toInt.toNat) hg hg8 w2 (by omega) _ _ (out _ ?_)
              rw [hr, if_neg d, p4]
            · rintro v6 rfl
              exact out _ (by rw [hr, if_pos d, p4])
        unfold B_X9_then_48
        refine LOOP_up N (fun k z => z.1 = Int32.ofNat k ∧ (∀ q, q ≠ 43 → (q < 45 ∨ 52 < q) → q ≠ 21 → q ≠ 17 → q ≠ 20 → z.2 q = m1 q) ∧ CR 43 (psN (mem 77) k) z.2 ∧ MEM (mem 77) z.2) ⟨rfl, fun _ _ _ _ _ _ => rfl, g2, hT1.1.2.2.2⟩ ?_ ?_
        · rintro k ⟨x, m⟩ X hk ⟨p1, p2, p3, p4⟩ hX
          dsimp only at p1 p2 p3 p4 hX ⊢
          subst p1
          have hk2 : TI (Int32.ofNat k) k := on_ti (by omega)
          refine ⟨fun d => absurd d (nle_of hN hk2 hk), fun _ => ?_⟩
          refine goOnN9 (Or.inr rfl) g2 hG hT1 k p2 p3 p4 _ fun m' q1 q2 q3 => ?_
          rintro v7 rfl
          exact hX _ ⟨on_1 k, q1, q2, q3⟩
        · rintro ⟨x, m⟩ X ⟨p1, p2, p3, p4⟩
          dsimp only at p1 p2 p3 p4 ⊢
          subst p1
          have fr : ∀ q, (q < 43 ∨ 52 < q) → q ≠ 21 → q ≠ 17 → q ≠ 20 → m q = mem q := fun q q1 q2 q3 q4 => by
            rw [p2 q (by omega) (by omega) q2 q3 q4, g1 q (by omega) (by omega)]
          have s6 : psN (mem 77) N 6 = mem 77 6 := psN_o hG (by decide) (by decide) (by decide) N
          have row : ∀ j, j < 5 → m (43 + 2 + g) j = psN (mem 77) N (10 + 5 * g + j) := fun j hj => p3.2.2.2 g (by rw [s6]; omega) j hj
          rw [tn_of hg]
          refine ⟨fun _ => ⟨fun d => ⟨fun e => ⟨vp_of hg hg8, ?_⟩, fun e => ⟨vp_of hg hg8, ?_⟩⟩, fun d => ?_⟩, fun d => absurd (le_of hN (on_ti (by omega) : (Int32.ofNat N).toInt = N) (Nat.le_refl _)) d⟩
          · refine model m _ fr p4 ?_
            have c1' : c.toInt = 1 := by
              rw [eq_ti] at d e; simp only [Int32.reduceToInt] at d e; omega
            rw [if_neg d, row 3 (by decide), c1']; rfl
          · refine model m _ fr p4 ?_
            rw [if_neg d, row 2 (by decide), e]; rfl
          · refine model m _ fr p4 ?_
            rw [if_pos d]; exact p3.2.2.1
      · simp only [L_X9_then, within_sp, h.i9 b, Int32.reduceToInt, if_pos c1, if_pos c2, if_neg c3, e10, not_false_eq_true, not_true_eq_false, false_implies, forall_const, true_and, and_true, eq_self, imp_self, true_implies]
        refine err_end h (by decide) (R := fun Q m => L_X10_then a b c m Q) fun m Q hm he => ?_
        simp only [L_X10_then, isIn_sp, h.i10 b (m := m) (by rw [hm 77 (by decide)]), Int64.reduceToInt, if_pos c1, if_pos c2, if_neg c3, e10, not_false_eq_true, not_true_eq_false, false_implies, forall_const, true_and, and_true, eq_self, imp_self, true_implies]
        exact he
    · simp only [L_X9_then, within_sp, h.i9 b, Int32.reduceToInt, if_pos c1, if_neg c2, e10, not_false_eq_true, not_true_eq_false, false_implies, forall_const, true_and, and_true, eq_self, imp_self, true_implies]
      refine err_end h (by decide) (R := fun Q m => L_X10_then a b c m Q) fun m Q hm he => ?_
      simp only [L_X10_then, isIn_sp, h.i10 b (m := m) (by rw [hm 77 (by decide)]), Int64.reduceToInt, if_pos c1, if_neg c2, e10, not_false_eq_true, not_true_eq_false, false_implies, forall_const, true_and, and_true, eq_self, imp_self, true_implies]
      exact he
  · simp only [L_X9_then, within_sp, Int32.reduceToInt, if_neg c1, e10, not_false_eq_true, not_true_eq_false, false_implies, forall_const, true_and, and_true, eq_self, imp_self, true_implies]
    refine err_end h (by decide) (R := fun Q m => L_X10_then a b c m Q) fun m Q hm he => ?_
    simp only [L_X10_then, isIn_sp, Int64.reduceToInt, if_neg c1, e10, not_false_eq_true, not_true_eq_false, false_implies, forall_const, true_and, and_true, eq_self, imp_self, true_implies]
    exact he
