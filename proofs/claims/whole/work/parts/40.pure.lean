theorem k_push {n : Nat} {a b : Int32} {mem : MMt} (h : Inv n mem) : L_X9_push a b mem (fun r m => L_X10_push a b m (fun r' m' => r = r' ∧ Inv n m')) := by
  by_cases c1 : 0 ≤ a.toInt ∧ a.toInt < (mem 77 6).toInt
  · obtain ⟨g, hg⟩ : ∃ g : Nat, a.toInt = g := ⟨a.toInt.toNat, by omega⟩
    have hgn : (g : Int) < (mem 77 6).toInt := by omega
    have e2 := h.n9.2
    have hg8 : g < 8 := by omega
    have hgw := h.gw hgn
    by_cases c2 : -9 ≤ b.toInt ∧ b.toInt ≤ 9
    · simp only [L_X9_push, L_X9_isPush, h.i9 a, within_sp, Int32.reduceToInt, if_pos c1, if_pos c2, e10, not_false_eq_true, not_true_eq_false, false_implies, forall_const, true_and, and_true, eq_self, imp_self, true_implies, tn_of hg, row3]
      refine ⟨vp_of hg hg8, shove9 _ ⟨vp_of hg hg8, ?_⟩⟩
      rw [up2_eq, h.row hgn (by decide)]
      have hv := hld9 (gd (mem 77) g 3 + b)
      generalize hv0 : hld (gd (mem 77) g 3 + b) (-9) 9 = v at hv ⊢
      generalize hm1 : up2 mem (3 + g) 3 v = m1
      have f1 : m1 77 = mem 77 := by rw [← hm1, up2_ro _ _ _ _ _ (by omega)]
      simp only [L_X10_push, L_X10_isPush, h.i10 a (m := m1) (by rw [f1]), isIn_sp, Int64.reduceToInt, if_pos c1, if_pos c2, e10, not_false_eq_true, not_true_eq_false, false_implies, forall_const, true_and, and_true, eq_self, imp_self, true_implies]
      refine pushed10 hg hg8 _ ?_
      rw [f1, show mem 77 (10 + 5 * g + 3) = gd (mem 77) g 3 from rfl, hv0]
      refine ⟨rfl, Inv_good h hgn (x := fun j => if j = 3 then v else gd (mem 77) g j) ⟨hgw.1, hgw.2.1, hgw.2.2.1, hv, hgw.2.2.2.2⟩ (fun q h1 h2 => by rw [up2_ro _ _ _ _ _ h2, ← hm1, up2_ro _ _ _ _ _ h1]) ?_ ?_ ?_⟩
      · intro j hj
        rw [up2_ro _ _ _ _ _ (by omega), ← hm1, uq, h.row hgn hj]
      · intro j hj
        rw [u77, f1]; rfl
      · intro i hi
        rw [u77o _ _ _ _ (by omega), f1]
    · simp only [L_X9_push, L_X9_isPush, h.i9 a, within_sp, Int32.reduceToInt, if_pos c1, if_neg c2, e10, not_false_eq_true, not_true_eq_false, false_implies, forall_const, true_and, and_true, eq_self, imp_self, true_implies]
      refine err_end h (by decide) (R := fun Q m => L_X10_push a b m Q) fun m Q hm he => ?_
      simp only [L_X10_push, L_X10_isPush, h.i10 a (m := m) (by rw [hm 77 (by decide)]), isIn_sp, Int64.reduceToInt, if_pos c1, if_neg c2, e10, not_false_eq_true, not_true_eq_false, false_implies, forall_const, true_and, and_true, eq_self, imp_self, true_implies]
      exact he
  · simp only [L_X9_push, L_X9_isPush, h.i9 a, within_sp, Int32.reduceToInt, if_neg c1, e10, not_false_eq_true, not_true_eq_false, false_implies, forall_const, true_and, and_true, eq_self, imp_self, true_implies]
    refine err_end h (by decide) (R := fun Q m => L_X10_push a b m Q) fun m Q hm he => ?_
    simp only [L_X10_push, L_X10_isPush, h.i10 a (m := m) (by rw [hm 77 (by decide)]), isIn_sp, Int64.reduceToInt, if_neg c1, e10, not_false_eq_true, not_true_eq_false, false_implies, forall_const, true_and, and_true, eq_self, imp_self, true_implies]
    exact he
theorem km_rg {b : Int32} (h : 0 ≤ b.toInt ∧ b.toInt ≤ 69) : (0 ≤ (b / 10).toInt ∧ (b / 10).toInt ≤ 6) ∧ (0 ≤ (b - b / 10 * 10).toInt ∧ (b - b / 10 * 10).toInt ≤ 9) := by
  have t : (10 : Int32).toInt = 10 := by decide
  have e : (b / 10).toInt = b.toInt / 10 := by rw [dv_p h.1 (by decide), t]
  refine ⟨by rw [e]; omega, ?_⟩
  rw [sb_ti, ml_ti, e, t]
  omega
theorem turn9 {q : Nat} {b : Int32} {mem : MMt} (Q : MMt → Prop) (h : Q (up2 (up2 mem q 0 (b / 10)) q 1 (b - b / 10 * 10))) : L_X1_turnInto q b mem Q := by
  rintro m1 rfl m2 rfl
  exact h
theorem stand9 {q : Nat} {b : Int32} {mem : MMt} (Q : MMt → Prop) (h : Q (up2 (up2 (up2 mem q 2 b) q 4 b) q 3 0)) : L_X1_standAt q b mem Q := by
  rintro m1 rfl m2 rfl m3 rfl
  exact h
theorem k_become {n : Nat} {a b : Int32} {mem : MMt} (h : Inv n mem) : L_X9_become a b mem (fun r m => L_X10_become a b m (fun r' m' => r = r' ∧ Inv n m')) := by
  by_cases c1 : 0 ≤ a.toInt ∧ a.toInt < (mem 77 6).toInt
  · obtain ⟨g, hg⟩ : ∃ g : Nat, a.toInt = g := ⟨a.toInt.toNat, by omega⟩
    have hgn : (g : Int) < (mem 77 6).toInt := by omega
    have e2 := h.n9.2
    have hg8 : g < 8 := by omega
    have hgw := h.gw hgn
    by_cases c2 : 0 ≤ b.toInt ∧ b.toInt ≤ 69
    · simp only [L_X9_become, L_X9_isKm, h.i9 a, within_sp, Int32.reduceToInt, if_pos c1, if_pos c2, e10, not_false_eq_true, not_true_eq_false, false_implies, forall_const, true_and, and_true, eq_self, imp_self, true_implies, tn_of hg, row3]
      refine ⟨vp_of hg hg8, ?_⟩
      rintro v10 rfl
      refine ⟨vp_of hg hg8, turn9 _ ?_⟩
      rw [h.row hgn (by decide)]
      have hk := km_rg c2
      generalize hm1 : up2 (up2 mem (3 + g) 0 (b / 10)) (3 + g) 1 (b - b / 10 * 10) = m1
      have f1 : m1 77 = mem 77 := by rw [← hm1, up2_ro _ _ _ _ _ (by omega), up2_ro _ _ _ _ _ (by omega)]
      simp only [L_X10_become, h.i10 a (m := m1) (by rw [f1]), isIn_sp, Int64.reduceToInt, if_pos c1, if_pos c2, e10, not_false_eq_true, not_true_eq_false, false_implies, forall_const, true_and, and_true, eq_self, imp_self, true_implies]
      refine of10 (j := 0) hg hg8 rfl (by decide) _ _ (sets10 (j := 0) hg hg8 rfl (by decide) _ _ (sets10 (j := 1) hg hg8 rfl (by decide) _ _ ?_))
      rw [f1]
      refine ⟨rfl, Inv_good h hgn (x := fun j => if j = 1 then b - b / 10 * 10 else if j = 0 then b / 10 else gd (mem 77) g j) ⟨hk.1, hk.2, hgw.2.2.1, hgw.2.2.2.1, hgw.2.2.2.2⟩ (fun q h1 h2 => by rw [up2_ro _ _ _ _ _ h2, up2_ro _ _ _ _ _ h2, ← hm1, up2_ro _ _ _ _ _ h1, up2_ro _ _ _ _ _ h1]) ?_ ?_ ?_⟩
      · intro j hj
        rw [up2_ro _ _ _ _ _ (by omega), up2_ro _ _ _ _ _ (by omega), ← hm1, uq, uq, h.row hgn hj]
      · intro j hj
        rw [u77, u77, f1]; rfl
      · intro i hi
        rw [u77o _ _ _ _ (by omega), u77o _ _ _ _ (by omega), f1]
    · simp only [L_X9_become, L_X9_isKm, h.i9 a, within_sp, Int32.reduceToInt, if_pos c1, if_neg c2, e10, not_false_eq_true, not_true_eq_false, false_implies, forall_const, true_and, and_true, eq_self, imp_self, true_implies]
      refine err_end h (by decide) (R := fun Q m => L_X10_become a b m Q) fun m Q hm he => ?_
      simp only [L_X10_become, h.i10 a (m := m) (by rw [hm 77 (by decide)]), isIn_sp, Int64.reduceToInt, if_pos c1, if_neg c2, e10, not_false_eq_true, not_true_eq_false, false_implies, forall_const, true_and, and_true, eq_self, imp_self, true_implies]
      exact he
  · simp only [L_X9_become, L_X9_isKm, h.i9 a, within_sp, Int32.reduceToInt, if_neg c1, e10, not_false_eq_true, not_true_eq_false, false_implies, forall_const, true_and, and_true, eq_self, imp_self, true_implies]
    refine err_end h (by decide) (R := fun Q m => L_X10_become a b m Q) fun m Q hm he => ?_
    simp only [L_X10_become, h.i10 a (m := m) (by rw [hm 77 (by decide)]), isIn_sp, Int64.reduceToInt, if_neg c1, e10, not_false_eq_true, not_true_eq_false, false_implies, forall_const, true_and, and_true, eq_self, imp_self, true_implies]
    exact he
theorem k_place {n : Nat} {a b : Int32} {mem : MMt} (h : Inv n mem) : L_X9_place a b mem (fun r m => L_X10_place a b m (fun r' m' => r = r' ∧ Inv n m')) := by
  by_cases c1 : 0 ≤ a.toInt ∧ a.toInt < (mem 77 6).toInt
  · obtain ⟨g, hg⟩ : ∃ g : Nat, a.toInt = g := ⟨a.toInt.toNat, by omega⟩
    have hgn : (g : Int) < (mem 77 6).toInt := by omega
    have e2 := h.n9.2
    have hg8 : g < 8 := by omega
    have hgw := h.gw hgn
    by_cases c2 : 0 ≤ b.toInt ∧ b.toInt ≤ 40
    · simp only [L_X9_place, L_X9_isFloor, h.i9 a, within_sp, Int32.reduceToInt, if_pos c1, if_pos c2, e10, not_false_eq_true, not_true_eq_false, false_implies, forall_const, true_and, and_true, eq_self, imp_self, true_implies, tn_of hg, row3]
      refine ⟨vp_of hg hg8, ?_⟩
      rintro v10 rfl
      refine ⟨vp_of hg hg8, stand9 _ ?_⟩
      rw [h.row hgn (by decide)]
      generalize hm1 : up2 (up2 (up2 mem (3 + g) 2 b) (3 + g) 4 b) (3 + g) 3 0 = m1
      have f1 : m1 77 = mem 77 := by rw [← hm1, up2_ro _ _ _ _ _ (by omega), up2_ro _ _ _ _ _ (by omega), up2_ro _ _ _ _ _ (by omega)]
      simp only [L_X10_place, h.i10 a (m := m1) (by rw [f1]), isIn_sp, Int64.reduceToInt, if_pos c1, if_pos c2, e10, not_false_eq_true, not_true_eq_false, false_implies, forall_const, true_and, and_true, eq_self, imp_self, true_implies]
      refine of10 (j := 2) hg hg8 rfl (by decide) _ _ (sets10 (j := 2) hg hg8 rfl (by decide) _ _ (sets10 (j := 4) hg hg8 rfl (by decide) _ _ (sets10 (j := 3) hg hg8 rfl (by decide) _ _ ?_)))
      rw [f1]
      refine ⟨rfl, Inv_good h hgn (x := fun j => if j = 3 then 0 else if j = 4 then b else if j = 2 then b else gd (mem 77) g j) ⟨hgw.1, hgw.2.1, c2, (by decide : -9 ≤ (0 : Int32).toInt ∧ (0 : Int32).toInt ≤ 9), c2⟩ (fun q h1 h2 => by rw [up2_ro _ _ _ _ _ h2, up2_ro _ _ _ _ _ h2, up2_ro _ _ _ _ _ h2, ← hm1, up2_ro _ _ _ _ _ h1, up2_ro _ _ _ _ _ h1, up2_ro _ _ _ _ _ h1]) ?_ ?_ ?_⟩
      · intro j hj
        rw [up2_ro _ _ _ _ _ (by omega), up2_ro _ _ _ _ _ (by omega), up2_ro _ _ _ _ _ (by omega), ← hm1, uq, uq, uq, h.row hgn hj]
      · intro j hj
        rw [u77, u77, u77, f1]; rfl
      · intro i hi
        rw [u77o _ _ _ _ (by omega), u77o _ _ _ _ (by omega), u77o _ _ _ _ (by omega), f1]
    · simp only [L_X9_place, L_X9_isFloor, h.i9 a, within_sp, Int32.reduceToInt, if_pos c1, if_neg c2, e10, not_false_eq_true, not_true_eq_false, false_implies, forall_const, true_and, and_true, eq_self, imp_self, true_implies]
      refine err_end h (by decide) (R := fun Q m => L_X10_place a b m Q) fun m Q hm he => ?_
      simp only [L_X10_place, h.i10 a (m := m) (by rw [hm 77 (by decide)]), isIn_sp, Int64.reduceToInt, if_pos c1, if_neg c2, e10, not_false_eq_true, not_true_eq_false, false_implies, forall_const, true_and, and_true, eq_self, imp_self, true_implies]
      exact he
  · simp only [L_X9_place, L_X9_isFloor, h.i9 a, within_sp, Int32.reduceToInt, if_neg c1, e10, not_false_eq_true, not_true_eq_false, false_implies, forall_const, true_and, and_true, eq_self, imp_self, true_implies]
    refine err_end h (by decide) (R := fun Q m => L_X10_place a b m Q) fun m Q hm he => ?_
    simp only [L_X10_place, h.i10 a (m := m) (by rw [hm 77 (by decide)]), isIn_sp, Int64.reduceToInt, if_neg c1, e10, not_false_eq_true, not_true_eq_false, false_implies, forall_const, true_and, and_true, eq_self, imp_self, true_implies]
    exact he
theorem k_as {n : Nat} {a b : Int32} {mem : MMt} (h : Inv n mem) : L_X9_as a b mem (fun r m => L_X10_as a b m (fun r' m' => r = r' ∧ Inv n m')) := by
  by_cases c1 : 0 ≤ a.toInt ∧ a.toInt < (mem 77 6).toInt
  · obtain ⟨g, hg⟩ : ∃ g : Nat, a.toInt = g := ⟨a.toInt.toNat, by omega⟩
    have hgn : (g : Int) < (mem 77 6).toInt := by omega
    have e2 := h.n9.2
    have hg8 : g < 8 := by omega
    have hgw := h.gw hgn
    by_cases c2 : 0 ≤ b.toInt ∧ b.toInt ≤ 6
    · simp only [L_X9_as, h.i9 a, within_sp, Int32.reduceToInt, if_pos c1, if_pos c2, e10, not_false_eq_true, not_true_eq_false, false_implies, forall_const, true_and, and_true, eq_self, imp_self, true_implies, tn_of hg, row3]
      have hr0 := h.row hgn (show 0 < 5 by decide)
      refine ⟨vp_of hg hg8, under9 (by rw [hr0]; exact hgw.1) c2 _ _ (fun c => ?_) (fun c => ?_)⟩
      · rw [hr0] at c
        refine ⟨fun _ => ⟨vp_of hg hg8, ?_⟩, fun d => absurd d (by decide)⟩
        simp only [L_X10_as, h.i10 a (m := mem) rfl, isIn_sp, Int64.reduceToInt, if_pos c1, if_pos c2, e10, not_false_eq_true, not_true_eq_false, false_implies, forall_const, true_and, and_true, eq_self, imp_self, true_implies]
        refine of10 (j := 0) hg hg8 rfl (by decide) _ _ (under10 _ _ (fun _ => ⟨fun d => absurd d (by decide), fun _ => of10 (j := 1) hg hg8 rfl (by decide) _ _ ⟨h.row hgn (by decide), h⟩⟩) (fun d => absurd c d))
      · rw [hr0] at c
        refine ⟨fun d => absurd rfl d, fun _ => ?_⟩
        refine err_end h (by decide) (R := fun Q m => L_X10_as a b m Q) fun m Q hm he => ?_
        simp only [L_X10_as, h.i10 a (m := m) (by rw [hm 77 (by decide)]), isIn_sp, Int64.reduceToInt, if_pos c1, if_pos c2, e10, not_false_eq_true, not_true_eq_false, false_implies, forall_const, true_and, and_true, eq_self, imp_self, true_implies]
        refine of10 (j := 0) hg hg8 rfl (by decide) _ _ (under10 _ _ (fun d => ?_) (fun d => ⟨fun _ => he, fun d => absurd rfl d⟩))
        rw [hm 77 (by decide)] at d
        exact absurd d c
    · simp only [L_X9_as, h.i9 a, within_sp, Int32.reduceToInt, if_pos c1, if_neg c2, e10, not_false_eq_true, not_true_eq_false, false_implies, forall_const, true_and, and_true, eq_self, imp_self, true_implies]
      refine err_end h (by decide) (R := fun Q m => L_X10_as a b m Q) fun m Q hm he => ?_
      simp only [L_X10_as, h.i10 a (m := m) (by rw [hm 77 (by decide)]), isIn_sp, Int64.reduceToInt, if_pos c1, if_neg c2, e10, not_false_eq_true, not_true_eq_false, false_implies, forall_const, true_and, and_true, eq_self, imp_self, true_implies]
      exact he
  · simp only [L_X9_as, h.i9 a, within_sp, Int32.reduceToInt, if_neg c1, e10, not_false_eq_true, not_true_eq_false, false_implies, forall_const, true_and, and_true, eq_self, imp_self, true_implies]
    refine err_end h (by decide) (R := fun Q m => L_X10_as a b m Q) fun m Q hm he => ?_
    simp only [L_X10_as, h.i10 a (m := m) (by rw [hm 77 (by decide)]), isIn_sp, Int64.reduceToInt, if_neg c1, e10, not_false_eq_true, not_true_eq_false, false_implies, forall_const, true_and, and_true, eq_self, imp_self, true_implies]
    exact he
theorem c10 {k : Int32} (h : 0 ≤ k.toInt ∧ k.toInt ≤ 9) : k = 0 ∨ k = 1 ∨ k = 2 ∨ k = 3 ∨ k = 4 ∨ k = 5 ∨ k = 6 ∨ k = 7 ∨ k = 8 ∨ k = 9 := by
  simp only [eq_ti, Int32.reduceToInt]; omega
theorem nosw {X Y Z : Prop} {b : Int32} (h : (b < 0 → X) ∧ ((9 : Int32) < b → X)) (hb : ¬ (0 ≤ b.toInt ∧ b.toInt ≤ 9)) : X := by
  by_cases c : b < 0
  · exact h.1 c
  · refine h.2 ?_
    rw [Int32.lt_iff_toInt_lt] at c ⊢
    simp only [Int32.reduceToInt] at c ⊢
    omega
theorem k_ofGood {n : Nat} {a b : Int32} {mem : MMt} (h : Inv n mem) : L_X9_ofGood a b mem (fun r m => L_X10_ofGood a b m (fun r' m' => r = r' ∧ Inv n m')) := by
  by_cases c1 : 0 ≤ a.toInt ∧ a.toInt < (mem 77 6).toInt
  · obtain ⟨g, hg⟩ : ∃ g : Nat, a.toInt = g := ⟨a.toInt.toNat, by omega⟩
    have hgn : (g : Int) < (mem 77 6).toInt := by omega
    have e2 := h.n9.2
    have hg8 : g < 8 := by omega
    have hgw := h.gw hgn
    by_cases c2 : 0 ≤ b.toInt ∧ b.toInt ≤ 9
    · have hr : ∀ j, j < 5 → mem (3 + g) j = gd (mem 77) g j := fun j hj => h.row hgn hj
      have hgw3 : GW (mem (3 + g)) := GW_ext (fun j hj => (hr j hj).symm) hgw
      simp only [L_X9_ofGood, h.i9 a, within_sp, Int32.reduceToInt, if_pos c1, if_pos c2, e10, not_false_eq_true, not_true_eq_false, false_implies, forall_const, true_and, and_true, eq_self, imp_self, true_implies, tn_of hg, row3]
      refine ⟨vp_of hg hg8, ?_⟩
      have M : ∀ (m : MMt), m 77 6 = mem 77 6 → ∀ Q, (L_X10_ofGood a b m Q ↔ _) := fun m hm Q => by
        simp only [L_X10_ofGood, h.i10 a (m := m) hm, if_pos c1, e10, not_false_eq_true, not_true_eq_false, false_implies, forall_const, true_and, and_true, eq_self, imp_self, true_implies]
        exact Iff.rfl
      have LIT : ∀ j : Nat, j < 5 → ∀ jj : Int32, jj.toInt = j → b = jj → L_X10_ofGood a b mem (fun r' m' => mem (3 + g) j = r' ∧ Inv n m') := by
        intro j hj jj hjj hb
        subst hb
        rw [M mem rfl]
        have q := of10 (w := b) hg hg8 hjj hj mem (fun r' m' => mem (3 + g) j = r' ∧ Inv n m') ⟨hr j hj, h⟩
        have hbb : b.toInt = j := hjj
        refine ⟨fun d => ?_, fun d => ?_, fun _ => q, fun _ => q, fun _ => q, fun _ => q, fun _ => q, fun d => ?_, fun d => ?_, fun d => ?_, fun d => ?_, fun d => ?_⟩ <;>
          (exfalso; simp only [eq_ti, Int32.lt_iff_toInt_lt, Int32.reduceToInt] at d; omega)
      rcases c10 c2 with rfl | rfl | rfl | rfl | rfl | rfl | rfl | rfl | rfl | rfl
      · simp (decide := true) only [e10, not_false_eq_true, not_true_eq_false, false_implies, forall_const, true_and, and_true, eq_self, imp_self, true_implies]; exact LIT 0 (by decide) 0 rfl rfl
      · simp (decide := true) only [e10, not_false_eq_true, not_true_eq_false, false_implies, forall_const, true_and, and_true, eq_self, imp_self, true_implies]; exact LIT 1 (by decide) 1 rfl rfl
      · simp (decide := true) only [e10, not_false_eq_true, not_true_eq_false, false_implies, forall_const, true_and, and_true, eq_self, imp_self, true_implies]; exact LIT 2 (by decide) 2 rfl rfl
      · simp (decide := true) only [e10, not_false_eq_true, not_true_eq_false, false_implies, forall_const, true_and, and_true, eq_self, imp_self, true_implies]; exact LIT 3 (by decide) 3 rfl rfl
      · simp (decide := true) only [e10, not_false_eq_true, not_true_eq_false, false_implies, forall_const, true_and, and_true, eq_self, imp_self, true_implies]; exact LIT 4 (by decide) 4 rfl rfl
      · simp (decide := true) only [e10, not_false_eq_true, not_true_eq_false, false_implies, forall_const, true_and, and_true, eq_self, imp_self, true_implies]
        refine load9 _ _ _ ?_
        rw [M mem rfl]
        simp (decide := true) only [e10, not_false_eq_true, not_true_eq_false, false_implies, forall_const, true_and, and_true, eq_self, imp_self, true_implies]
        refine of10 (j := 0) hg hg8 rfl (by decide) _ _ (of10 (j := 1) hg hg8 rfl (by decide) _ _ (load10 _ _ _ _ ⟨?_, h⟩))
        rw [hr 0 (by decide), hr 1 (by decide)]; rfl
      · simp (decide := true) only [e10, not_false_eq_true, not_true_eq_false, false_implies, forall_const, true_and, and_true, eq_self, imp_self, true_implies]
        refine pullOf9 (s := mem 77) hgw3 h.th.1 h.th.2.1 h.th.2.2.1 h.th.2.2.2 (by omega) (by omega) _ fun m1 h1 h2 => pulled9 _ _ _ _ ?_
        have f1 : m1 77 = mem 77 := h1 77 (by decide) (by decide)
        rw [M m1 (by rw [f1])]
        simp (decide := true) only [e10, not_false_eq_true, not_true_eq_false, false_implies, forall_const, true_and, and_true, eq_self, imp_self, true_implies]
        refine pulledNow10 hg hg8 (by rw [f1]; exact h.wl) _ fun m2 h3 => ⟨?_, ?_⟩
        · rw [h1 (3 + g) (by omega) (by omega), f1, (FV_ext (s := mem 77) hr).2.2.1, hr 0 (by decide)]; rfl
        · refine Inv_sc h (fun a ha => ?_) ?_ (MEM_congr h2 (h3 21 (by decide) (by decide)) fun _ _ => rfl)
          · unfold SC at ha
            rw [h3 a (by omega) (by omega), h1 a (by omega) (by omega)]
          · rw [h3 76 (by decide) (by decide), h1 76 (by decide) (by decide)]; exact ⟨rfl, rfl, rfl⟩
      · simp (decide := true) only [e10, not_false_eq_true, not_true_eq_false, false_implies, forall_const, true_and, and_true, eq_self, imp_self, true_implies]
        refine drag9 _ _ _ ?_
        rw [M mem rfl]
        simp (decide := true) only [e10, not_false_eq_true, not_true_eq_false, false_implies, forall_const, true_and, and_true, eq_self, imp_self, true_implies]
        refine of10 (j := 0) hg hg8 rfl (by decide) _ _ (of10 (j := 1) hg hg8 rfl (by decide) _ _ (drag10 _ _ _ _ ⟨?_, h⟩))
        rw [hr 0 (by decide), hr 1 (by decide)]; rfl
      · simp (decide := true) only [e10, not_false_eq_true, not_true_eq_false, false_implies, forall_const, true_and, and_true, eq_self, imp_self, true_implies]
        refine reach9 _ _ _ ?_
        rw [M mem rfl]
        simp (decide := true) only [e10, not_false_eq_true, not_true_eq_false, false_implies, forall_const, true_and, and_true, eq_self, imp_self, true_implies]
        refine of10 (j := 0) hg hg8 rfl (by decide) _ _ (of10 (j := 1) hg hg8 rfl (by decide) _ _ (reach10 _ _ _ _ ⟨?_, h⟩))
        rw [hr 0 (by decide), hr 1 (by decide)]; rfl
      · simp (decide := true) only [e10, not_false_eq_true, not_true_eq_false, false_implies, forall_const, true_and, and_true, eq_self, imp_self, true_implies]
        have hR := (FV_ext (s := mem 77) hr).2.2.2
        have mod : ∀ (m1 : MMt) (r : Int32), (∀ a, a ≠ 21 → a ≠ 17 → a ≠ 54 → m1 a = mem a) → MEM (mem 77) m1 → (RS (mem 77) (gd (mem 77) g) → r = 1) → (¬ RS (mem 77) (gd (mem 77) g) → r = 0) → L_X10_ofGood a 9 m1 (fun r' m' => r = r' ∧ Inv n m') := by
          intro m1 r g1 g2 r1 r0
          have f1 : m1 77 = mem 77 := g1 77 (by decide) (by decide) (by decide)
          rw [M m1 (by rw [f1])]
          simp (decide := true) only [e10, not_false_eq_true, not_true_eq_false, false_implies, forall_const, true_and, and_true, eq_self, imp_self, true_implies]
          refine isAtRest10 hg hg8 (by rw [f1]; exact h.wl) _ fun m2 h3 h4 h5 h6 => ?_
          have hI : Inv n m2 := by
            refine Inv_sc h (fun a ha => ?_) ?_ (MEM_congr g2 (h3 21 (by decide) (by decide) (by decide)) fun _ _ => rfl)
            · unfold SC at ha
              rw [h3 a (by omega) (by omega) (by omega), g1 a (by omega) (by omega) (by omega)]
            · rw [h4 2 (by decide) (by decide), h4 3 (by decide) (by decide), h4 24 (by decide) (by decide), g1 76 (by decide) (by decide) (by decide)]; exact ⟨rfl, rfl, rfl⟩
          rw [f1]
          exact ⟨fun c => ⟨fun d => absurd d (by decide), fun _ => ⟨r1 c, hI⟩⟩, fun c => ⟨fun _ => ⟨r0 c, hI⟩, fun d => absurd rfl d⟩⟩
        refine stays9 hgw3 h.th (by omega) (by omega) (by omega) _ fun m1 g1 g2 => ⟨fun c => ⟨fun d => absurd d (by decide), fun _ => ?_⟩, fun c => ⟨fun _ => ?_, fun d => absurd rfl d⟩⟩
        · exact mod m1 1 g1 g2 (fun _ => rfl) (fun d => absurd (hR.mp c) d)
        · exact mod m1 0 g1 g2 (fun d => absurd (hR.mpr d) c) (fun _ => rfl)
    · simp only [L_X9_ofGood, h.i9 a, within_sp, Int32.reduceToInt, if_pos c1, if_neg c2, e10, not_false_eq_true, not_true_eq_false, false_implies, forall_const, true_and, and_true, eq_self, imp_self, true_implies]
      refine err_end h (by decide) (R := fun Q m => L_X10_ofGood a b m Q) fun m Q hm he => ?_
      simp only [L_X10_ofGood, h.i10 a (m := m) (by rw [hm 77 (by decide)]), isIn_sp, Int64.reduceToInt, if_pos c1, e10, not_false_eq_true, not_true_eq_false, false_implies, forall_const, true_and, and_true, eq_self, imp_self, true_implies]
      refine ⟨fun _ => he, fun _ => he, fun d => ?_, fun d => ?_, fun d => ?_, fun d => ?_, fun d => ?_, fun d => ?_, fun d => ?_, fun d => ?_, fun d => ?_, fun d => ?_⟩ <;> (subst d; exact absurd (by decide) c2)
  · simp only [L_X9_ofGood, h.i9 a, within_sp, Int32.reduceToInt, if_neg c1, e10, not_false_eq_true, not_true_eq_false, false_implies, forall_const, true_and, and_true, eq_self, imp_self, true_implies]
    refine err_end h (by decide) (R := fun Q m => L_X10_ofGood a b m Q) fun m Q hm he => ?_
    simp only [L_X10_ofGood, h.i10 a (m := m) (by rw [hm 77 (by decide)]), isIn_sp, Int64.reduceToInt, if_neg c1, e10, not_false_eq_true, not_true_eq_false, false_implies, forall_const, true_and, and_true, eq_self, imp_self, true_implies]
    exact he
