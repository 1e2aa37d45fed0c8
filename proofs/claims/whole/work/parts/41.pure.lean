theorem k_off {n : Nat} {a b c : Int32} {mem : MMt} (h : Inv n mem) : L_X9_off a b c mem (fun r m => L_X10_off a b c m (fun r' m' => r = r' ∧ Inv n m')) := by
  by_cases c1 : 0 ≤ a.toInt ∧ a.toInt < (mem 77 6).toInt
  · obtain ⟨g, hg⟩ : ∃ g : Nat, a.toInt = g := ⟨a.toInt.toNat, by omega⟩
    have hgn : (g : Int) < (mem 77 6).toInt := by omega
    have e2 := h.n9.2
    have hg8 : g < 8 := by omega
    have hgw := h.gw hgn
    by_cases c2 : 0 ≤ b.toInt ∧ b.toInt < (mem 77 6).toInt
    · obtain ⟨g2, hg2⟩ : ∃ g2 : Nat, b.toInt = g2 := ⟨b.toInt.toNat, by omega⟩
      have hgn2 : (g2 : Int) < (mem 77 6).toInt := by omega
      have hg28 : g2 < 8 := by omega
      have hgw2 := h.gw hgn2
      by_cases c3 : a = b
      · simp only [L_X9_off, h.i9 a, h.i9 b, if_pos c1, if_pos c2, e10, not_false_eq_true, not_true_eq_false, false_implies, forall_const, true_and, and_true, eq_self, imp_self, true_implies, if_pos c3, c3, not_true_eq_false, false_implies, and_true]
        refine err_end h (by decide) (R := fun Q m => L_X10_off b b c m Q) fun m Q hm he => ?_
        simp only [L_X10_off, h.i10 b (m := m) (by rw [hm 77 (by decide)]), if_pos c2, e10, not_false_eq_true, not_true_eq_false, false_implies, forall_const, true_and, and_true, eq_self, imp_self, true_implies]
        exact he
      · have hgg : g2 ≠ g := by
          intro e; apply c3; rw [eq_ti, hg, hg2, e]
        by_cases c4 : -9 ≤ c.toInt ∧ c.toInt ≤ 9
        · have r2 : ∀ j, j < 5 → mem (3 + g) j = gd (mem 77) g j := fun j hj => h.row hgn hj
          have r3 : ∀ j, j < 5 → mem (3 + g2) j = gd (mem 77) g2 j := fun j hj => h.row hgn2 hj
          by_cases c5 : gd (mem 77) g 2 = gd (mem 77) g2 2
          · simp only [L_X9_off, L_X9_isPush, h.i9 a, h.i9 b, within_sp, Int32.reduceToInt, if_pos c1, if_pos c2, if_pos c4, c3, e10, not_false_eq_true, not_true_eq_false, false_implies, forall_const, true_and, and_true, eq_self, imp_self, true_implies, tn_of hg, tn_of hg2, row3]
            refine ⟨vp_of hg hg8, vp_of hg2 hg28, fun _ => shove9 _ (shove9 _ ?_), fun d => absurd (by rw [r2 2 (by decide), r3 2 (by decide)]; exact c5) d⟩
            rw [up2_ro _ _ _ _ _ (show 3 + g2 ≠ 3 + g by omega), r2 3 (by decide), r3 3 (by decide), up2_ro _ _ _ _ _ (show 3 + g ≠ 3 + g2 by omega), up2_eq]
            have hv := hld9 (gd (mem 77) g 3 + c)
            have hu := hld9 (gd (mem 77) g2 3 + -c)
            generalize hv0 : hld (gd (mem 77) g 3 + c) (-9) 9 = v at hv ⊢
            generalize hu0 : hld (gd (mem 77) g2 3 + -c) (-9) 9 = u at hu ⊢
            generalize hm1 : up2 (up2 mem (3 + g) 3 v) (3 + g2) 3 u = m1
            have f1 : m1 77 = mem 77 := by rw [← hm1, up2_ro _ _ _ _ _ (by omega), up2_ro _ _ _ _ _ (by omega)]
            simp only [L_X10_off, L_X10_isPush, h.i10 a (m := m1) (by rw [f1]), h.i10 b (m := m1) (by rw [f1]), isIn_sp, Int64.reduceToInt, if_pos c1, if_pos c2, if_pos c4, c3, e10, not_false_eq_true, not_true_eq_false, false_implies, forall_const, true_and, and_true, eq_self, imp_self, true_implies]
            refine of10 (j := 2) hg hg8 rfl (by decide) _ _ (of10 (j := 2) hg2 hg28 rfl (by decide) _ _ ⟨fun _ => ?_, fun d => absurd (by rw [f1]; exact c5) d⟩)
            refine pushed10 hg2 hg28 _ (pushed10 hg hg8 _ ?_)
            rw [f1, u77o _ _ _ _ (by omega), f1, show mem 77 (10 + 5 * g + 3) = gd (mem 77) g 3 from rfl, hv0, show mem 77 (10 + 5 * g2 + 3) = gd (mem 77) g2 3 from rfl, hu0]
            refine ⟨rfl, ?_⟩
            have hA : Inv n (up2 (up2 mem (3 + g) 3 v) 77 (10 + 5 * g + 3) v) := by
              refine Inv_good h hgn (x := fun j => if j = 3 then v else gd (mem 77) g j) ⟨hgw.1, hgw.2.1, hgw.2.2.1, hv, hgw.2.2.2.2⟩ (fun q h1 h2 => by rw [up2_ro _ _ _ _ _ h2, up2_ro _ _ _ _ _ h1]) ?_ ?_ ?_
              · intro j hj
                rw [up2_ro _ _ _ _ _ (by omega), uq, r2 j hj]
              · intro j hj
                rw [u77, up2_ro _ _ _ _ _ (by omega)]; rfl
              · intro i hi
                rw [u77o _ _ _ _ (by omega), up2_ro _ _ _ _ _ (by omega)]
            generalize hmA : up2 (up2 mem (3 + g) 3 v) 77 (10 + 5 * g + 3) v = mA at hA
            have e6 : mA 77 6 = mem 77 6 := by rw [← hmA, u77o _ _ _ _ (by omega), up2_ro _ _ _ _ _ (by omega)]
            refine Inv_good hA (g := g2) (by rw [e6]; exact hgn2) (x := fun j => if j = 3 then u else gd (mem 77) g2 j) ⟨hgw2.1, hgw2.2.1, hgw2.2.2.1, hu, hgw2.2.2.2.2⟩ ?_ ?_ ?_ ?_
            · intro q h1 h2
              rw [up2_ro _ _ _ _ _ h2, up2_ro _ _ _ _ _ h2, ← hm1, ← hmA, up2_ro _ _ _ _ _ h1, up2_ro _ _ _ _ _ h2]
            · intro j hj
              rw [up2_ro _ _ _ _ _ (by omega), up2_ro _ _ _ _ _ (by omega), ← hm1, uq, up2_ro _ _ _ _ _ (by omega), r3 j hj]
            · intro j hj
              rw [u77o _ _ _ _ (by omega), u77, f1]; rfl
            · intro i hi
              rw [← hmA, uq, u77o _ _ _ _ (by omega), f1, uq, up2_ro _ _ _ _ _ (show 77 ≠ 3 + g by omega)]
          · simp only [L_X9_off, L_X9_isPush, h.i9 a, h.i9 b, within_sp, Int32.reduceToInt, if_pos c1, if_pos c2, if_pos c4, c3, e10, not_false_eq_true, not_true_eq_false, false_implies, forall_const, true_and, and_true, eq_self, imp_self, true_implies, tn_of hg, tn_of hg2, row3]
            refine ⟨vp_of hg hg8, vp_of hg2 hg28, fun d => absurd (by rw [← r2 2 (by decide), ← r3 2 (by decide)]; exact d) c5, fun _ => ?_⟩
            refine err_end h (by decide) (R := fun Q m => L_X10_off a b c m Q) fun m Q hm he => ?_
            have f1 : m 77 = mem 77 := hm 77 (by decide)
            simp only [L_X10_off, L_X10_isPush, h.i10 a (m := m) (by rw [f1]), h.i10 b (m := m) (by rw [f1]), isIn_sp, Int64.reduceToInt, if_pos c1, if_pos c2, if_pos c4, c3, e10, not_false_eq_true, not_true_eq_false, false_implies, forall_const, true_and, and_true, eq_self, imp_self, true_implies]
            refine of10 (j := 2) hg hg8 rfl (by decide) _ _ (of10 (j := 2) hg2 hg28 rfl (by decide) _ _ ⟨fun d => absurd (by rw [f1] at d; exact d) c5, fun _ => he⟩)
        · simp only [L_X9_off, L_X9_isPush, h.i9 a, h.i9 b, within_sp, Int32.reduceToInt, if_pos c1, if_pos c2, if_neg c4, c3, e10, not_false_eq_true, not_true_eq_false, false_implies, forall_const, true_and, and_true, eq_self, imp_self, true_implies]
          refine err_end h (by decide) (R := fun Q m => L_X10_off a b c m Q) fun m Q hm he => ?_
          simp only [L_X10_off, L_X10_isPush, h.i10 a (m := m) (by rw [hm 77 (by decide)]), h.i10 b (m := m) (by rw [hm 77 (by decide)]), isIn_sp, Int64.reduceToInt, if_pos c1, if_pos c2, if_neg c4, c3, e10, not_false_eq_true, not_true_eq_false, false_implies, forall_const, true_and, and_true, eq_self, imp_self, true_implies]
          exact he
    · simp only [L_X9_off, h.i9 a, h.i9 b, within_sp, Int32.reduceToInt, if_pos c1, if_neg c2, e10, not_false_eq_true, not_true_eq_false, false_implies, forall_const, true_and, and_true, eq_self, imp_self, true_implies]
      refine err_end h (by decide) (R := fun Q m => L_X10_off a b c m Q) fun m Q hm he => ?_
      simp only [L_X10_off, h.i10 a (m := m) (by rw [hm 77 (by decide)]), h.i10 b (m := m) (by rw [hm 77 (by decide)]), isIn_sp, Int64.reduceToInt, if_pos c1, if_neg c2, e10, not_false_eq_true, not_true_eq_false, false_implies, forall_const, true_and, and_true, eq_self, imp_self, true_implies]
      exact he
  · simp only [L_X9_off, h.i9 a, within_sp, Int32.reduceToInt, if_neg c1, e10, not_false_eq_true, not_true_eq_false, false_implies, forall_const, true_and, and_true, eq_self, imp_self, true_implies]
    refine err_end h (by decide) (R := fun Q m => L_X10_off a b c m Q) fun m Q hm he => ?_
    simp only [L_X10_off, h.i10 a (m := m) (by rw [hm 77 (by decide)]), isIn_sp, Int64.reduceToInt, if_neg c1, e10, not_false_eq_true, not_true_eq_false, false_implies, forall_const, true_and, and_true, eq_self, imp_self, true_implies]
    exact he
theorem k_good {n : Nat} {a b : Int32} {mem : MMt} (h : Inv n mem) : L_X9_good a b mem (fun r m => L_X10_good a b m (fun r' m' => r = r' ∧ Inv n m')) := by
  by_cases c1 : 0 ≤ a.toInt ∧ a.toInt ≤ 69
  · by_cases c2 : 0 ≤ b.toInt ∧ b.toInt ≤ 40
    · obtain ⟨e1, e2⟩ := h.n9
      by_cases c3 : (mem 77 6).toInt = 8
      · have c3a : ¬ mem 77 6 < 8 := by rw [Int32.lt_iff_toInt_lt]; simp only [Int32.reduceToInt]; omega
        have c3b : mem 77 6 = 8 := by rw [eq_ti]; simp only [Int32.reduceToInt]; omega
        simp only [L_X9_good, L_X9_isKm, L_X9_isFloor, within_sp, Int32.reduceToInt, if_pos c1, if_pos c2, e10, not_false_eq_true, not_true_eq_false, false_implies, forall_const, true_and, and_true, eq_self, imp_self, true_implies, e1]
        refine ⟨fun d => absurd d c3a, fun _ => ?_⟩
        refine err_end h (by decide) (R := fun Q m => L_X10_good a b m Q) fun m Q hm he => ?_
        simp only [L_X10_good, isIn_sp, Int64.reduceToInt, if_pos c1, if_pos c2, e10, not_false_eq_true, not_true_eq_false, false_implies, forall_const, true_and, and_true, eq_self, imp_self, true_implies, hm 77 (by decide)]
        exact ⟨fun d => absurd c3b d, fun _ => he⟩
      · have c3a : mem 77 6 < 8 := by rw [Int32.lt_iff_toInt_lt]; simp only [Int32.reduceToInt]; omega
        have c3b : ¬ mem 77 6 = 8 := by rw [eq_ti]; simp only [Int32.reduceToInt]; omega
        obtain ⟨g, hg⟩ : ∃ g : Nat, (mem 77 6).toInt = g := ⟨(mem 77 6).toInt.toNat, by omega⟩
        have hg8 : g < 8 := by omega
        have hk := km_rg c1
        simp only [L_X9_good, L_X9_isKm, L_X9_isFloor, within_sp, Int32.reduceToInt, if_pos c1, if_pos c2, e10, not_false_eq_true, not_true_eq_false, false_implies, forall_const, true_and, and_true, eq_self, imp_self, true_implies, e1, tn_of hg, row3]
        refine ⟨fun _ => ⟨vp_of hg hg8, turn9 _ (stand9 _ ?_)⟩, fun d => absurd c3a d⟩
        rintro m13 hm13
        have p13 : ∀ q, q ≠ 3 + g → q ≠ 1 → m13 q = mem q := fun q h1 h2 => by
          rw [hm13, up2_ro _ _ _ _ _ h2, up2_ro _ _ _ _ _ h1, up2_ro _ _ _ _ _ h1, up2_ro _ _ _ _ _ h1, up2_ro _ _ _ _ _ h1, up2_ro _ _ _ _ _ h1]
        have q13 : ∀ j, m13 1 j = if j = 1 then mem 77 6 + 1 else mem 1 j := fun j => by
          rw [hm13, uq]
          simp only [up2_ro _ _ _ _ _ (show 1 ≠ 3 + g by omega), e1]
        have r13 : ∀ j, m13 (3 + g) j = if j = 3 then 0 else if j = 4 then b else if j = 2 then b else if j = 1 then a - a / 10 * 10 else if j = 0 then a / 10 else mem (3 + g) j := fun j => by
          rw [hm13, up2_ro _ _ _ _ _ (show 3 + g ≠ 1 by omega), uq, uq, uq, uq, uq]
        clear hm13
        have f1 : m13 77 = mem 77 := p13 77 (by omega) (by omega)
        rw [q13 1, if_pos rfl, show (mem 77 6 + 1 - 1 : Int32) = mem 77 6 from Int32.add_sub_cancel ..]
        simp only [L_X10_good, isIn_sp, Int64.reduceToInt, if_pos c1, if_pos c2, e10, not_false_eq_true, not_true_eq_false, false_implies, forall_const, true_and, and_true, eq_self, imp_self, true_implies, f1]
        refine ⟨fun _ => ?_, fun d => absurd d c3b⟩
        rintro v10 rfl m2 hm2
        refine sets10 (j := 0) hg hg8 rfl (by decide) _ _ (sets10 (j := 1) hg hg8 rfl (by decide) _ _ (sets10 (j := 2) hg hg8 rfl (by decide) _ _ (sets10 (j := 3) hg hg8 rfl (by decide) _ _ (sets10 (j := 4) hg hg8 rfl (by decide) _ _ ⟨rfl, ?_⟩))))
        generalize hm' : up2 (up2 (up2 (up2 (up2 m2 77 (10 + 5 * g + 0) (a / 10)) 77 (10 + 5 * g + 1) (a - a / 10 * 10)) 77 (10 + 5 * g + 2) b) 77 (10 + 5 * g + 3) 0) 77 (10 + 5 * g + 4) b = m'
        have pm : ∀ q, q ≠ 3 + g → q ≠ 1 → q ≠ 77 → m' q = mem q := fun q h1 h2 h3 => by
          rw [← hm', up2_ro _ _ _ _ _ h3, up2_ro _ _ _ _ _ h3, up2_ro _ _ _ _ _ h3, up2_ro _ _ _ _ _ h3, up2_ro _ _ _ _ _ h3, hm2, up2_ro _ _ _ _ _ h3, p13 q h1 h2]
        have pm1 : ∀ q, q ≠ 77 → m' q = m13 q := fun q h3 => by
          rw [← hm', up2_ro _ _ _ _ _ h3, up2_ro _ _ _ _ _ h3, up2_ro _ _ _ _ _ h3, up2_ro _ _ _ _ _ h3, up2_ro _ _ _ _ _ h3, hm2, up2_ro _ _ _ _ _ h3]
        have s6 : m' 77 6 = mem 77 6 + 1 := by
          rw [← hm', u77o _ _ _ _ (by omega), u77o _ _ _ _ (by omega), u77o _ _ _ _ (by omega), u77o _ _ _ _ (by omega), u77o _ _ _ _ (by omega), hm2, up2_eq]
        have so : ∀ i, i ≠ 6 → (i < 10 + 5 * g ∨ 10 + 5 * g + 5 ≤ i) → m' 77 i = mem 77 i := fun i h1 h2 => by
          rw [← hm', u77o _ _ _ _ (by omega), u77o _ _ _ _ (by omega), u77o _ _ _ _ (by omega), u77o _ _ _ _ (by omega), u77o _ _ _ _ (by omega), hm2, u77o _ _ _ _ h1, f1]
        have sg : ∀ j, j < 5 → m' 77 (10 + 5 * g + j) = if j = 3 then 0 else if j = 4 then b else if j = 2 then b else if j = 1 then a - a / 10 * 10 else a / 10 := fun j hj => by
          rw [← hm', u77, u77, u77, u77, u77]
          rcases j5 hj with rfl | rfl | rfl | rfl | rfl <;> rfl
        clear hm' hm2
        have t6 : (m' 77 6).toInt = (g + 1 : Nat) := by rw [s6]; exact ti_p1 hg (by omega)
        refine Inv_c h (fun q h1 h2 h3 => pm q (by omega) (by omega) h1) (by rw [pm 76 (by omega) (by omega) (by omega)]; exact ⟨rfl, rfl, rfl⟩) ?_ (fun i h1 h2 h3 h4 => so i h2 (by omega)) (MEM_congr h.mem (pm 21 (by omega) (by omega) (by omega)) fun _ _ => rfl)
        refine ⟨⟨?_, ?_, ?_, ?_⟩, ⟨by omega, by omega⟩, ?_⟩
        · rw [pm1 1 (by omega), q13, if_pos rfl, s6]
        · rw [pm1 1 (by omega), q13, if_neg (by omega), so 0 (by omega) (by omega)]; exact h.1.1.2.1
        · rw [pm1 1 (by omega), q13, if_neg (by omega), so 1 (by omega) (by omega)]; exact h.1.1.2.2.1
        · intro g' hg' j hj
          rw [t6] at hg'
          by_cases e : g' = g
          · subst e
            rw [row3, pm1 _ (by omega), r13]
            show _ = m' 77 (10 + 5 * g' + j)
            rw [sg j hj]
            rcases j5 hj with rfl | rfl | rfl | rfl | rfl <;> rfl
          · rw [row3, pm _ (by omega) (by omega) (by omega), h.row (by omega) hj]
            exact (so _ (by omega) (by omega)).symm
        · intro g' hg'
          rw [t6] at hg'
          by_cases e : g' = g
          · subst e
            have : ∀ j, j < 5 → gd (m' 77) g' j = if j = 3 then 0 else if j = 4 then b else if j = 2 then b else if j = 1 then a - a / 10 * 10 else a / 10 := sg
            unfold GW
            rw [this 0 (by decide), this 1 (by decide), this 2 (by decide), this 3 (by decide), this 4 (by decide)]
            exact ⟨hk.1, hk.2, c2, (by decide : -9 ≤ (0 : Int32).toInt ∧ (0 : Int32).toInt ≤ 9), c2⟩
          · refine GW_ext (fun j hj => ?_) (h.gw (g := g') (by omega))
            exact (so _ (by omega) (by omega)).symm
    · simp only [L_X9_good, L_X9_isKm, L_X9_isFloor, within_sp, Int32.reduceToInt, if_pos c1, if_neg c2, e10, not_false_eq_true, not_true_eq_false, false_implies, forall_const, true_and, and_true, eq_self, imp_self, true_implies]
      refine err_end h (by decide) (R := fun Q m => L_X10_good a b m Q) fun m Q hm he => ?_
      simp only [L_X10_good, isIn_sp, Int64.reduceToInt, if_pos c1, if_neg c2, e10, not_false_eq_true, not_true_eq_false, false_implies, forall_const, true_and, and_true, eq_self, imp_self, true_implies]
      exact he
  · simp only [L_X9_good, L_X9_isKm, L_X9_isFloor, within_sp, Int32.reduceToInt, if_neg c1, e10, not_false_eq_true, not_true_eq_false, false_implies, forall_const, true_and, and_true, eq_self, imp_self, true_implies]
    refine err_end h (by decide) (R := fun Q m => L_X10_good a b m Q) fun m Q hm he => ?_
    simp only [L_X10_good, isIn_sp, Int64.reduceToInt, if_neg c1, e10, not_false_eq_true, not_true_eq_false, false_implies, forall_const, true_and, and_true, eq_self, imp_self, true_implies]
    exact he
