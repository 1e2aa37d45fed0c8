/-- what an act of a KIND comes to; its BODIES -/
def vv (a k : Nat) (x n w : Int32) : Int32 := if a = 0 then vfl k x n else if a = 1 then vfa k k x n w else if a = 2 then vhg k x n w else vte k k x n w
def vb (a k : Nat) : List Int32 := if a = 0 then bfl k else if a = 1 then bfa k k else if a = 2 then bhg k else bte k k
theorem c4n {a : Int32} {an : Nat} (h : a.toInt = an) (ha : an < 4) : (an = 0 ∧ a = 0) ∨ (an = 1 ∧ a = 1) ∨ (an = 2 ∧ a = 2) ∨ (an = 3 ∧ a = 3) := by
  simp only [eq_ti, Int32.reduceToInt]; omega
theorem Inv_v {n : Nat} {mem m' : MMt} (h : Inv n mem) (hr : ∀ q, q ≠ 64 → q ≠ 65 → q ≠ 76 → q ≠ 89 → m' q = mem q) (h76 : ∀ j, j < 24 → m' 76 j = mem 76 j) (hV : IV m') : Inv n m' := by
  obtain ⟨c1, c2, c3, c4, c5, c6, c7⟩ := h
  have r : ∀ q, (q < 64 ∨ (65 < q ∧ q < 76) ∨ (76 < q ∧ q < 89)) → m' q = mem q := fun q hq => hr q (by omega) (by omega) (by omega) (by omega)
  have e77 := r 77 (by omega)
  exact ⟨IC_fr c1 (fun a ha => r a (by omega)) (fun i _ => by rw [e77]), IT_fr c2 (fun a h1 h2 h3 => r a (by omega)) (fun i _ _ _ _ => by rw [e77]), IM_fr c3 c2.2.2.2.2 (by rw [r 15 (by omega)]) (by rw [r 18 (by omega)]) (r 21 (by omega)) (fun i _ _ => by rw [e77]), IK_fr c4 (by rw [r 0 (by omega)]) (h76 2 (by decide)) (h76 3 (by decide)) (fun a ha => r a (by omega)), IE_fr c5 (r _ (by omega)) (r _ (by omega)), hV, ISh_fr c7 (fun a ha => r a (by omega))⟩
theorem k_voice {n : Nat} {a b c : Int32} {mem : MMt} (h : Inv n mem) : L_X9_voice a b c mem (fun r m => L_X10_voice a b c m (fun r' m' => r = r' ∧ Inv n m')) := by
  by_cases c1 : 0 ≤ a.toInt ∧ a.toInt < (mem 77 6).toInt
  · obtain ⟨g, hg⟩ : ∃ g : Nat, a.toInt = g := ⟨a.toInt.toNat, by omega⟩
    have hgn : (g : Int) < (mem 77 6).toInt := by omega
    have e2 := h.n9.2
    have hg8 : g < 8 := by omega
    by_cases c2 : 0 ≤ b.toInt ∧ b.toInt ≤ 3
    · obtain ⟨an, han⟩ : ∃ an : Nat, b.toInt = an := ⟨b.toInt.toNat, by omega⟩
      have ha4 : an < 4 := by omega
      simp only [L_X9_voice, h.i9 a, within_sp, Int32.reduceToInt, if_pos c1, if_pos c2, e10, not_false_eq_true, not_true_eq_false, false_implies, forall_const, true_and, and_true, eq_self, imp_self, true_implies, tn_of hg, row3]
      refine ⟨vp_of hg hg8, ?_⟩
      have rx := rowX h hgn
      have hgw := h.gw hgn
      obtain ⟨kn, hkn⟩ : ∃ kn : Nat, (gd (mem 77) g 0).toInt = kn := ⟨(gd (mem 77) g 0).toInt.toNat, by have := hgw.1; omega⟩
      have hk7 : kn < 7 := by have := hgw.1; omega
      generalize hkk : gd (mem 77) g 0 = kk at hkn
      generalize hww : gd (mem 77) g 1 = w
      rintro m1 hm1 m2 hm2 m3 hm3 m4 hm4
      have R4 : ∀ q, q ≠ 64 → m4 q = mem q := fun q hq => by rw [hm4, up2_ro _ _ _ _ _ hq, hm3, up2_ro _ _ _ _ _ hq, hm2, up2_ro _ _ _ _ _ hq, hm1, up2_ro _ _ _ _ _ hq]
      have b1 : m4 64 1 = 0 := by rw [hm4, up2_eq]
      have b2 : m4 64 2 = kk := by rw [hm4, uq, if_neg (by decide), hm3, uq, if_neg (by decide), hm2, uq, if_neg (by decide), hm1, up2_eq, rx 0 (by decide), hkk]
      have b3 : m4 64 3 = a := by rw [hm4, uq, if_neg (by decide), hm3, uq, if_neg (by decide), hm2, up2_eq]
      have b4 : m4 64 4 = w := by rw [hm4, uq, if_neg (by decide), hm3, up2_eq, hm2, up2_ro _ _ _ _ _ (by omega), hm1, up2_ro _ _ _ _ _ (by omega), rx 1 (by decide), hww]
      have K4 : KCc kk a w m4 := ⟨by rw [b1]; exact ⟨by decide, by decide⟩, b2, b3, b4⟩
      have cls : ∀ Q : Int32 → MMt → Prop, (∀ m' : MMt, TR (vb an kn) m4 m' → Q (vv an kn c a w) m') → W_X8_own 60 b c 0 m4 Q := by
        intro Q hQ
        refine ow_ b2 _ ?_
        rcases c4n han ha4 with ⟨rfl, rfl⟩ | ⟨rfl, rfl⟩ | ⟨rfl, rfl⟩ | ⟨rfl, rfl⟩
        · exact cfl (dn := 0) hkn hk7 rfl (by decide) 57 c K4 _ hQ
        · exact cfa (dn := 0) hkn hk7 hkn hk7 rfl (by decide) 53 c K4 _ hQ
        · exact chg (dn := 0) hkn hk7 rfl (by decide) 56 c K4 _ hQ
        · exact cte (dn := 0) hkn hk7 hkn hk7 rfl (by decide) 50 c K4 _ hQ
      refine cls _ fun m5 t5 => ?_
      have f5 : ∀ q, q ≠ 64 → q ≠ 65 → m5 q = mem q := fun q h1 h2 => by rw [t5.1 q h1 h2, R4 q h1]
      have f77 : m5 77 = mem 77 := f5 77 (by decide) (by decide)
      simp only [L_X10_voice, h.i10 a (m := m5) (by rw [f77]), isIn_sp, Int64.reduceToInt, if_pos c1, if_pos c2, e10, not_false_eq_true, not_true_eq_false, false_implies, forall_const, true_and, and_true, eq_self, imp_self, true_implies]
      rintro m9 hm9 m10 hm10
      have g10 : m10 77 = mem 77 := by rw [hm10, up2_ro _ _ _ _ _ (by decide), hm9, up2_ro _ _ _ _ _ (by decide), f77]
      refine of10 (j := 0) hg hg8 rfl (by decide) _ _ ?_
      rw [g10, show mem 77 (10 + 5 * g + 0) = gd (mem 77) g 0 from rfl, hkk]
      rintro m13 hm13
      have g13 : m13 77 = mem 77 := by rw [hm13, up2_ro _ _ _ _ _ (by decide), g10]
      refine of10 (j := 1) hg hg8 rfl (by decide) _ _ ?_
      rw [g13, show mem 77 (10 + 5 * g + 1) = gd (mem 77) g 1 from rfl, hww]
      rintro m16 hm16
      have R16 : ∀ q, q ≠ 76 → m16 q = m5 q := fun q hq => by rw [hm16, up2_ro _ _ _ _ _ hq, hm13, up2_ro _ _ _ _ _ hq, hm10, up2_ro _ _ _ _ _ hq, hm9, up2_ro _ _ _ _ _ hq]
      have d24 : m16 76 24 = 0 := by rw [hm16, uq, if_neg (by decide), hm13, uq, if_neg (by decide), hm10, uq, if_neg (by decide), hm9, up2_eq]
      have d25 : m16 76 25 = a := by rw [hm16, uq, if_neg (by decide), hm13, uq, if_neg (by decide), hm10, up2_eq]
      have d26 : m16 76 26 = kk := by rw [hm16, uq, if_neg (by decide), hm13, up2_eq]
      have d27 : m16 76 27 = w := by rw [hm16, up2_eq]
      have dlo : ∀ j, j < 24 → m16 76 j = mem 76 j := fun j hj => by rw [hm16, uq, if_neg (by omega), hm13, uq, if_neg (by omega), hm10, uq, if_neg (by omega), hm9, uq, if_neg (by omega), f5 76 (by decide) (by decide)]
      have K16 : KM kk a w m16 := ⟨by rw [d24]; exact ⟨by decide, by decide⟩, d26, d25, d27⟩
      have fin : ∀ m' : MMt, TM (vb an kn) m16 m' → vv an kn c a w = vv an kn c a w ∧ Inv n m' := by
        intro m' t6
        refine ⟨rfl, Inv_v h (fun q h1 h2 h3 h4 => by rw [t6.1 q h3 h4, R16 q h3, f5 q h1 h2]) (fun j hj => by rw [t6.2.1 j (by omega), dlo j hj]) ?_⟩
        have ag0 : AG (m4 64 1, m4 65) (m16 76 24, m16 89) := ⟨by rw [b1, d24], fun i hi => absurd hi (by rw [b1]; simp only [Int32.reduceToInt]; omega)⟩
        have r0 : 0 ≤ (m4 64 1).toInt ∧ (m4 64 1).toInt ≤ 40 := K4.1
        have ag := ntL_AG (vb an kn) r0 ag0
        have rr := ntL_rg (vb an kn) (m4 64 1, m4 65) r0
        rw [← t5.2.2, ← t6.2.2] at ag
        rw [← t5.2.2] at rr
        have e64 : m' 64 = m5 64 := by rw [t6.1 64 (by decide) (by decide), R16 64 (by decide)]
        have e65 : m' 65 = m5 65 := by rw [t6.1 65 (by decide) (by decide), R16 65 (by decide)]
        obtain ⟨g1, g2⟩ := ag
        have g1' : m5 64 1 = m' 76 24 := g1
        refine ⟨by rw [e64]; exact g1', by rw [← g1']; exact rr, fun i hi => ?_⟩
        rw [e65]
        exact g2 i (by show (i : Int) < (m5 64 1).toInt; rw [g1']; exact hi)
      rw [d26]
      have s0 : ∀ {z : Nat}, z ≠ 0 → z < 4 → ¬ Int32.ofNat z = 0 := fun {z} h1 h2 e => by
        have := congrArg Int32.toInt e
        rw [on_ti (by omega)] at this
        simp only [Int32.reduceToInt] at this; omega
      rcases c4n han ha4 with ⟨rfl, rfl⟩ | ⟨rfl, rfl⟩ | ⟨rfl, rfl⟩ | ⟨rfl, rfl⟩
      · simp (decide := true) only [e10, not_false_eq_true, not_true_eq_false, false_implies, forall_const, true_and, and_true, eq_self, imp_self, true_implies]
        exact mfl hkn hk7 16 c K16 _ fin
      · simp (decide := true) only [e10, not_false_eq_true, not_true_eq_false, false_implies, forall_const, true_and, and_true, eq_self, imp_self, true_implies]
        exact mfa hkn hk7 hkn hk7 16 c K16 _ fin
      · simp (decide := true) only [e10, not_false_eq_true, not_true_eq_false, false_implies, forall_const, true_and, and_true, eq_self, imp_self, true_implies]
        exact mhg hkn hk7 16 c K16 _ fin
      · simp (decide := true) only [e10, not_false_eq_true, not_true_eq_false, false_implies, forall_const, true_and, and_true, eq_self, imp_self, true_implies]
        exact mte hkn hk7 hkn hk7 16 c K16 _ fin
    · simp only [L_X9_voice, h.i9 a, within_sp, Int32.reduceToInt, if_pos c1, if_neg c2, e10, not_false_eq_true, not_true_eq_false, false_implies, forall_const, true_and, and_true, eq_self, imp_self, true_implies]
      refine err_end h (by decide) (R := fun Q m => L_X10_voice a b c m Q) fun m Q hm he => ?_
      simp only [L_X10_voice, h.i10 a (m := m) (by rw [hm 77 (by decide)]), isIn_sp, Int64.reduceToInt, if_pos c1, if_neg c2, e10, not_false_eq_true, not_true_eq_false, false_implies, forall_const, true_and, and_true, eq_self, imp_self, true_implies]
      exact he
  · simp only [L_X9_voice, h.i9 a, if_neg c1, e10, not_false_eq_true, not_true_eq_false, false_implies, forall_const, true_and, and_true, eq_self, imp_self, true_implies]
    refine err_end h (by decide) (R := fun Q m => L_X10_voice a b c m Q) fun m Q hm he => ?_
    simp only [L_X10_voice, h.i10 a (m := m) (by rw [hm 77 (by decide)]), if_neg c1, e10, not_false_eq_true, not_true_eq_false, false_implies, forall_const, true_and, and_true, eq_self, imp_self, true_implies]
    exact he
