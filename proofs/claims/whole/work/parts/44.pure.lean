/-- x is k (closed to omega: sums of Int32 side by side as its atoms cost the kernel all memory) -/
def TI (x : Int32) (k : Nat) : Prop := x.toInt = k
theorem TI.vp {x : Int32} {k n : Nat} (h : TI x k) (hk : k < n) : vp_in x n := vp_of h hk
theorem TI.tn {x : Int32} {k : Nat} (h : TI x k) : x.toNatClampNeg = k := tn_of h
theorem ad_s {a b : Int32} (h : -2147483648 ≤ a.toInt + b.toInt ∧ a.toInt + b.toInt < 2147483648) : (a + b).toInt = a.toInt + b.toInt := by
  rw [ad_ti]; generalize a.toInt + b.toInt = x at h ⊢; omega
theorem sb_s {a b : Int32} (h : -2147483648 ≤ a.toInt - b.toInt ∧ a.toInt - b.toInt < 2147483648) : (a - b).toInt = a.toInt - b.toInt := by
  rw [sb_ti]; generalize a.toInt - b.toInt = x at h ⊢; omega
theorem ml_s {a b : Int32} (h : -2147483648 ≤ a.toInt * b.toInt ∧ a.toInt * b.toInt < 2147483648) : (a * b).toInt = a.toInt * b.toInt := by
  rw [ml_ti]; generalize a.toInt * b.toInt = x at h ⊢; omega
theorem TI.add {a b : Int32} {k l : Nat} (ha : TI a k) (hb : TI b l) (h : k + l < 2147483648) : TI (a + b) (k + l) := by
  unfold TI at ha hb ⊢
  rw [ad_s (by rw [ha, hb]; omega), ha, hb]; omega
theorem TI.mul {a b : Int32} {k l : Nat} (ha : TI a k) (hb : TI b l) (h : k * l < 2147483648) : TI (a * b) (k * l) := by
  unfold TI at ha hb ⊢
  have e : (k : Int) * (l : Int) = (k * l : Nat) := by simp
  rw [ml_s (by rw [ha, hb, e]; omega), ha, hb, e]
theorem TI.sub {a b : Int32} {k l : Nat} (ha : TI a k) (hb : TI b l) (h : l ≤ k) : TI (a - b) (k - l) := by
  have := rg_ti a
  unfold TI at ha hb ⊢
  rw [sb_s (by rw [ha, hb]; omega), ha, hb]; omega
/-- the k-th byte of a word -/
def fby (x : Int64) (k : Nat) : Int32 := ((((x.toUInt64 >>> (((8 : Int32) * Int32.ofNat k).toInt64.toUInt64 &&& Int64.toUInt64 63)).toInt64).toInt32).toInt8.toInt32).toInt8.toInt32
theorem i8_rg (y : Int32) : -128 ≤ y.toInt8.toInt32.toInt ∧ y.toInt8.toInt32.toInt ≤ 127 := by
  rw [Int8.toInt_toInt32]
  have h1 := Int8.le_toInt y.toInt8
  have h2 := Int8.toInt_lt y.toInt8
  omega
theorem k_feed {n : Nat} {x : Int64} {a : Int32} {mem : MMt} (h : Inv n mem) : L_X9_feed x a mem (fun r m => L_X10_feed x a m (fun r' m' => r = r' ∧ Inv n m')) := by
  obtain ⟨⟨⟨a1, a2, a3, a4, a5, a6⟩, b1, b2, b3, b4, b5⟩, w1, w2, w3, w4⟩ := h.2.1
  obtain ⟨T, hT⟩ : ∃ T : Nat, (mem 77 7).toInt = T := ⟨(mem 77 7).toInt.toNat, by omega⟩
  have hT50 : T ≤ 50 := by omega
  by_cases c1 : 1 ≤ a.toInt ∧ a.toInt ≤ 8
  · obtain ⟨N, hN⟩ : ∃ N : Nat, a.toInt = N := ⟨a.toInt.toNat, by omega⟩
    have hN8 : N ≤ 8 := by omega
    have eT : TI (mem 77 7 + a) (T + N) := by unfold TI; rw [ad_ti, hT, hN]; omega
    by_cases c2 : T + N ≤ 50
    · have c2a : mem 77 7 + a ≤ 50 := by rw [Int32.le_iff_toInt_le, show (mem 77 7 + a).toInt = (T + N : Nat) from eT]; simp only [Int32.reduceToInt]; omega
      simp only [L_X9_feed, within_sp, Int32.reduceToInt, if_pos c1, e10, not_false_eq_true, not_true_eq_false, false_implies, forall_const, true_and, and_true, eq_self, imp_self, true_implies, a5]
      refine ⟨fun _ => ?_, fun d => absurd c2a d⟩
      unfold B_X9_feed_39
      refine LOOP_up N (fun k z => z.1 = Int32.ofNat k ∧ (∀ q, q ≠ 13 → z.2 q = mem q) ∧ ∀ i, z.2 13 i = if T ≤ i ∧ i < T + k then fby x (i - T) else mem 13 i) ⟨rfl, fun _ _ => rfl, fun i => by rw [if_neg (by omega)]⟩ ?_ ?_
      · rintro k ⟨y, m⟩ X hk ⟨e1, e2, e3⟩ hX
        dsimp only at e1 e2 e3 hX ⊢
        subst e1
        have hk2 : TI (Int32.ofNat k) k := on_ti (by omega)
        have eI : TI (mem 77 7 + Int32.ofNat k) (T + k) := by unfold TI; rw [ad_ti, hT, show (Int32.ofNat k).toInt = k from hk2]; omega
        refine ⟨fun d => absurd d (nle_of hN hk2 hk), fun _ => ?_⟩
        rw [e2 11 (by decide), a5, eI.tn]
        refine ⟨eI.vp (by omega), ?_⟩
        rintro m3 hm3 v5 rfl
        refine hX _ ⟨on_1 k, fun q hq => ?_, fun i => ?_⟩
        · show m3 q = _
          rw [hm3, up2_ro _ _ _ _ _ hq, e2 q hq]
        · dsimp only
          rw [hm3, uq]
          by_cases e : i = T + k
          · subst e
            rw [if_pos rfl, if_pos (by omega), show T + k - T = k by omega]; rfl
          · rw [if_neg e, e3]
            by_cases e4 : T ≤ i ∧ i < T + k
            · rw [if_pos e4, if_pos (by omega)]
            · rw [if_neg e4, if_neg (by omega)]
      · rintro ⟨y, m⟩ X ⟨e1, e2, e3⟩
        dsimp only at e1 e2 e3 ⊢
        subst e1
        have hN2 : TI (Int32.ofNat N) N := on_ti (by omega)
        refine ⟨fun _ => ?_, fun d => absurd (le_of hN hN2 (Nat.le_refl _)) d⟩
        rintro m1 hm1
        rw [e2 11 (by decide), a5] at hm1
        have f1 : m1 77 = mem 77 := by rw [hm1, up2_ro _ _ _ _ _ (by decide), e2 77 (by decide)]
        have e2' := e2
        have e3' := e3
        clear e2 e3
        simp only [L_X10_feed, isIn_sp, Int64.reduceToInt, if_pos c1, e10, not_false_eq_true, not_true_eq_false, false_implies, forall_const, true_and, and_true, eq_self, imp_self, true_implies, f1]
        refine ⟨fun _ => ?_, fun d => absurd c2a d⟩
        unfold B_X10_feed_41
        refine LOOP_up N (fun k z => z.1 = Int32.ofNat k ∧ (∀ q, q ≠ 77 → z.2 q = m1 q) ∧ z.2 77 7 = mem 77 7 + Int32.ofNat k ∧ (∀ i, i < k → z.2 77 (50 + T + i) = fby x i &&& 255) ∧ ∀ i, i ≠ 7 → (i < 50 + T ∨ 50 + T + k ≤ i) → z.2 77 i = mem 77 i) ⟨rfl, fun _ _ => rfl, ?_, fun i hi => absurd hi (by omega), fun i _ _ => by show m1 77 i = _; rw [f1]⟩ ?_ ?_
        · show m1 77 7 = _
          rw [f1]; exact (Int32.add_zero _).symm
        · rintro k ⟨y, m⟩ X hk ⟨e1, e2, e3, e4, e5⟩ hX
          dsimp only at e1 e2 e3 e4 e5 hX ⊢
          subst e1
          have hk2 : TI (Int32.ofNat k) k := on_ti (by omega)
          have eI : TI ((50 : Int32) + (mem 77 7 + Int32.ofNat k)) (50 + T + k) := by
            unfold TI
            rw [ad_ti, ad_ti, hT, show (Int32.ofNat k).toInt = k from hk2]; simp only [Int32.reduceToInt]; omega
          refine ⟨fun d => absurd d (nle_of hN hk2 hk), fun _ => ?_⟩
          rw [e3, eI.tn, feed_b x k (by omega)]
          refine ⟨eI.vp (by omega), ?_⟩
          rintro m3 hm3 m4 hm4 v5 rfl
          refine hX _ ⟨on_1 k, fun q hq => ?_, ?_, fun i hi => ?_, fun i h1 h2 => ?_⟩
          · show m4 q = _
            rw [hm4, up2_ro _ _ _ _ _ hq, hm3, up2_ro _ _ _ _ _ hq, e2 q hq]
          · show m4 77 7 = _
            rw [hm4, up2_eq, hm3, u77o _ _ _ _ (by omega), e3, Int32.add_assoc, on_1]
          · show m4 77 _ = _
            rw [hm4, u77o _ _ _ _ (by omega), hm3, uq]
            by_cases e : i = k
            · subst e; rw [if_pos rfl]; rfl
            · rw [if_neg (by omega), e4 i (by omega)]
          · show m4 77 _ = _
            rw [hm4, u77o _ _ _ _ h1, hm3, u77o _ _ _ _ (by omega), e5 i h1 (by omega)]
        · rintro ⟨y, m⟩ X ⟨e1, e2, e3, e4, e5⟩
          dsimp only at e1 e2 e3 e4 e5 ⊢
          subst e1
          have eA : Int32.ofNat N = a := on_of hN
          refine ⟨fun _ => ?_, fun d => absurd (le_of hN hN2 (Nat.le_refl _)) d⟩
          rw [eA] at e3
          have m11 : m 11 4 = mem 77 7 + a := by rw [e2 11 (by decide), hm1, up2_eq]
          have t7 : (m 77 7).toInt = (T + N : Nat) := by rw [e3]; exact eT
          have m13 : ∀ i, m 13 i = if T ≤ i ∧ i < T + N then fby x (i - T) else mem 13 i := fun i => by
            rw [e2 13 (by decide), hm1, up2_ro _ _ _ _ _ (by decide)]; exact e3' i
          refine ⟨by rw [hm1, up2_eq, e3], Inv_w h (fun q h1 h2 h3 h4 => by rw [e2 q h4, hm1, up2_ro _ _ _ _ _ h1]; exact e2' q h2) (fun j h1 h2 => ?_) (by rw [m11, e3]) ?_ ⟨by omega, by omega⟩ ?_ ?_ ?_ ?_ ?_⟩
          · rw [e2 11 (by decide), hm1, uq, if_neg h1, e2' 11 (by decide)]
          · rw [e2 11 (by decide), hm1, uq, if_neg (by decide), e2' 11 (by decide), e5 8 (by decide) (by omega)]; exact a6
          · rw [e5 8 (by decide) (by omega)]; exact w3
          · intro i hi
            rw [t7] at hi
            rw [m13]
            by_cases e : T ≤ i
            · rw [if_pos (by omega), show 50 + i = 50 + T + (i - T) by omega]
              exact e4 _ (by omega)
            · rw [if_neg (by omega), e5 _ (by omega) (by omega)]
              exact b1 i (by omega)
          · intro i hi
            rw [m13]
            split
            · exact i8_rg _
            · exact b2 i hi
          · intro i hi
            rw [e5 8 (by decide) (by omega)] at hi
            rw [e2 14 (by decide), hm1, up2_ro _ _ _ _ _ (by decide), e2' 14 (by decide), e5 _ (by omega) (by omega)]
            exact b3 i hi
          · intro i h1 h2 h3
            exact e5 i h1 (by omega)
    · have c2a : ¬ mem 77 7 + a ≤ 50 := by rw [Int32.le_iff_toInt_le, show (mem 77 7 + a).toInt = (T + N : Nat) from eT]; simp only [Int32.reduceToInt]; omega
      simp only [L_X9_feed, within_sp, Int32.reduceToInt, if_pos c1, e10, not_false_eq_true, not_true_eq_false, false_implies, forall_const, true_and, and_true, eq_self, imp_self, true_implies, a5]
      refine ⟨fun d => absurd d c2a, fun _ => ?_⟩
      refine err_end h (by decide) (R := fun Q m => L_X10_feed x a m Q) fun m Q hm he => ?_
      simp only [L_X10_feed, isIn_sp, Int64.reduceToInt, if_pos c1, e10, not_false_eq_true, not_true_eq_false, false_implies, forall_const, true_and, and_true, eq_self, imp_self, true_implies, hm 77 (by decide)]
      exact ⟨fun d => absurd d c2a, fun _ => he⟩
  · simp only [L_X9_feed, within_sp, Int32.reduceToInt, if_neg c1, e10, not_false_eq_true, not_true_eq_false, false_implies, forall_const, true_and, and_true, eq_self, imp_self, true_implies]
    refine err_end h (by decide) (R := fun Q m => L_X10_feed x a m Q) fun m Q hm he => ?_
    simp only [L_X10_feed, isIn_sp, Int64.reduceToInt, if_neg c1, e10, not_false_eq_true, not_true_eq_false, false_implies, forall_const, true_and, and_true, eq_self, imp_self, true_implies]
    exact he
