theorem fiU_first {P : Nat → Bool} {z : Int32} {v : Nat → Int32} : ∀ {f i K : Nat}, i ≤ K → K < i + f → (∀ q, i ≤ q → q < K → ¬ P q = true) → P K = true → fiU P z v f i = v K
  | 0, i, K, h1, h2, _, _ => absurd h2 (by omega)
  | f + 1, i, K, h1, h2, h3, h4 => by
    unfold fiU
    by_cases e : i = K
    · subst e; rw [if_pos h4]
    · rw [if_neg (h3 i (Nat.le_refl _) (by omega))]
      exact fiU_first (by omega) (by omega) (fun q q1 q2 => h3 q (by omega) q2) h4
theorem fiU_none {P : Nat → Bool} {z : Int32} {v : Nat → Int32} : ∀ {f i : Nat}, (∀ q, i ≤ q → q < i + f → ¬ P q = true) → fiU P z v f i = z
  | 0, _, _ => rfl
  | f + 1, i, h => by
    unfold fiU
    rw [if_neg (h i (Nat.le_refl _) (by omega))]
    exact fiU_none fun q q1 q2 => h q (by omega) (by omega)
theorem btf {b : Bool} (h : ¬ b = true) : b = false := by cases b <;> simp_all
/-- sets() of a field j0 of good g that is PUT -/
theorem setX10 {a w v : Int32} {g j0 : Nat} (ha : a.toInt = g) (hg : g < 8) (hw : w.toInt = j0) (hj : j0 < 5) {s x : Nat → Int32} {m : MMt} (hm : m 77 = PUT s g x) (Q : MMt → Prop)
    (h : ∀ m' : MMt, (∀ q, q ≠ 77 → m' q = m q) → m' 77 = PUT s g (upd x j0 v) → Q m') : L_X10_sets a w v m Q := by
  refine sets10 (j := j0) ha hg hw hj _ _ (h _ (fun q hq => up2_ro _ _ _ _ _ hq) ?_)
  rw [up2_row, hm, PUT_upd _ _ _ hj]
theorem k_rolled {n : Nat} {a b c : Int32} {mem : MMt} (h : Inv n mem) : L_X9_rolled a b c mem (fun r m => L_X10_rolled a b c m (fun r' m' => r = r' ∧ Inv n m')) := by
  by_cases c1 : 0 ≤ a.toInt ∧ a.toInt < (mem 77 6).toInt
  · obtain ⟨g, hg⟩ : ∃ g : Nat, a.toInt = g := ⟨a.toInt.toNat, by omega⟩
    have hgn : (g : Int) < (mem 77 6).toInt := by omega
    have e2 := h.n9.2
    have hg8 : g < 8 := by omega
    have hgw := h.gw hgn
    by_cases c2 : 0 ≤ b.toInt ∧ b.toInt ≤ 3
    · obtain ⟨k, hk⟩ : ∃ k : Nat, b.toInt = k := ⟨b.toInt.toNat, by omega⟩
      have hk4 : k < 4 := by omega
      obtain ⟨g1, g2, g3, g4, g5⟩ := h.sh hk4
      have vb := vp_of hk hk4
      have va := vp_of hg hg8
      obtain ⟨L, hL⟩ : ∃ L : Nat, (mem 87 k).toInt = L := ⟨(mem 87 k).toInt.toNat, by omega⟩
      have hL40 : L ≤ 40 := by omega
      by_cases c3 : 0 ≤ c.toInt ∧ c.toInt ≤ 1
      · by_cases c4 : mem 86 k = 0
        · simp only [L_X9_rolled, h.i9 a, isSheet9, within_sp, Int32.reduceToInt, if_pos c1, if_pos c2, if_pos c3, e10, not_false_eq_true, not_true_eq_false, false_implies, forall_const, true_and, and_true, eq_self, imp_self, true_implies, tn_of hk, miss9, g1, if_pos c4, vb]
          refine err_end h (by decide) (R := fun Q m => L_X10_rolled a b c m Q) fun m Q hm he => ?_
          simp only [L_X10_rolled, h.i10 a (m := m) (by rw [hm 77 (by decide)]), isSheet10, isIn_sp, Int64.reduceToInt, if_pos c1, if_pos c2, if_pos c3, e10, not_false_eq_true, not_true_eq_false, false_implies, forall_const, true_and, and_true, eq_self, imp_self, true_implies, tn_of hk, hm 86 (by decide), c4, vb]
          exact he
        · simp only [L_X9_rolled, h.i9 a, isSheet9, within_sp, Int32.reduceToInt, if_pos c1, if_pos c2, if_pos c3, e10, not_false_eq_true, not_true_eq_false, false_implies, forall_const, true_and, and_true, eq_self, imp_self, true_implies, tn_of hk, miss9, g1, if_neg c4, vb]
          obtain ⟨P, hP⟩ : ∃ P : Nat → Bool, ∀ i, P i = gsF (mem 77) (itm mem k) L (upd (gd (mem 77) g) 3 (spd i)) 0 := ⟨_, fun _ => rfl⟩
          obtain ⟨T, hT⟩ : ∃ T, cnU P 19 0 = T := ⟨_, rfl⟩
          obtain ⟨Lo, hLo⟩ : ∃ Lo, fiU P 0 spd 19 0 = Lo := ⟨_, rfl⟩
          have hT19 : T ≤ 19 := by rw [← hT]; exact cnU_le P 19 0
          have M : ∀ (m : MMt) Q, m 77 = mem 77 → m 86 = mem 86 → m 87 = mem 87 → m 88 = mem 88 → (∀ m' : MMt, FrM m m' → ((¬ T = 0 → ((¬ c = 0 → Q (Int32.ofNat T) m') ∧ (c = 0 → Q Lo m'))) ∧ (T = 0 → L_X10_error (2 : Int32) m' Q))) → L_X10_rolled a b c m Q := by
            intro m Q hm h86 h87 h88 hq
            simp only [L_X10_rolled, h.i10 a (m := m) (by rw [hm]), isSheet10, isIn_sp, Int64.reduceToInt, if_pos c1, if_pos c2, if_pos c3, e10, not_false_eq_true, not_true_eq_false, false_implies, forall_const, true_and, and_true, eq_self, imp_self, true_implies, tn_of hk, h86, c4, vb]
            refine of10 (j := 3) hg hg8 rfl (by decide) _ _ ?_
            rw [hm, show mem 77 (10 + 5 * g + 3) = gd (mem 77) g 3 from rfl]
            unfold B_X10_rolled_64
            refine LOOP_up 19 (fun i z => ∃ j, j + i = 19 ∧ z.2.2.1 = spd j + -1 ∧ z.2.1.toInt = (cnU P (19 - j) j : Nat) ∧ z.1 = fiU P 0 spd (19 - j) j ∧ (∀ q, q ≠ 76 → q ≠ 77 → q ≠ 81 → q ≠ 82 → z.2.2.2 q = m q) ∧ (∀ j, j ≠ 12 → j ≠ 13 → j ≠ 15 → z.2.2.2 76 j = m 76 j) ∧ ∃ v, z.2.2.2 77 = PUT (mem 77) g (upd (gd (mem 77) g) 3 v)) ⟨19, rfl, rfl, rfl, rfl, fun _ _ _ _ _ => rfl, fun _ _ _ _ => rfl, gd (mem 77) g 3, ?_⟩ ?_ ?_
            · show m 77 = _
              rw [hm, ← PUT_upd _ _ _ (by decide), PUT_self]
              funext i; rw [upd_at]
              by_cases e : i = 10 + 5 * g + 3
              · rw [if_pos e, e]; rfl
              · rw [if_neg e]
            · rintro i ⟨x5, x6, x7, z⟩ X hi ⟨j, p0, p1, p2, p3, p4, p5, v, p6⟩ hX
              dsimp only at p1 p2 p3 p4 p5 p6 hX ⊢
              obtain ⟨j', rfl⟩ : ∃ j', j = j' + 1 := ⟨j - 1, by omega⟩
              rw [(spd_1 (i := j') (by omega)).2] at p1
              subst p1
              have e7 := spd_ti (i := j') (by omega)
              refine ⟨fun d => absurd d (by rw [Int32.lt_iff_toInt_lt, e7]; simp only [Int32.reduceToInt]; omega), fun _ => ?_⟩
              refine setX10 (j0 := 3) hg hg8 rfl (by decide) p6 _ fun m7 q1 q2 => ?_
              have u33 : upd (upd (gd (mem 77) g) 3 v) 3 (spd j') = upd (gd (mem 77) g) 3 (spd j') := by
                funext i; unfold upd; split <;> rfl
              rw [u33] at q2
              refine gso10 hg hg8 hk hk4 h.wl q2 (num := itm mem k) (L := L) (by rw [q1 87 (by decide), p4 87 (by decide) (by decide) (by decide) (by decide), h87]; exact hL) hL40 (fun i _ => by rw [q1 88 (by decide), p4 88 (by decide) (by decide) (by decide) (by decide), h88]; rfl) _ fun m' f1 => ?_
              rw [← hP j']
              have F4 : ∀ q, q ≠ 76 → q ≠ 77 → q ≠ 81 → q ≠ 82 → m' q = m q := fun q y1 y2 y3 y4 => by rw [f1.1 q y1 y3 y4, q1 q y2, p4 q y1 y2 y3 y4]
              have F5 : ∀ j, j ≠ 12 → j ≠ 13 → j ≠ 15 → m' 76 j = m 76 j := fun j y1 y2 y3 => by rw [f1.2 j y1 y2 y3, q1 76 (by decide), p5 j y1 y2 y3]
              have F6 : m' 77 = PUT (mem 77) g (upd (gd (mem 77) g) 3 (spd j')) := by rw [f1.1 77 (by decide) (by decide) (by decide)]; exact q2
              have ej : 19 - j' = (19 - (j' + 1)) + 1 := by omega
              refine ⟨fun t => ⟨fun d => absurd d (by decide), fun _ => ?_⟩, fun t => ⟨fun _ => ?_, fun d => absurd rfl d⟩⟩
              · rintro v12 rfl v13 rfl
                refine hX _ ⟨j', by omega, rfl, ?_, ?_, F4, F5, _, F6⟩
                · rw [ej]
                  have cu : cnU P (19 - (j' + 1) + 1) j' = cnU P (19 - (j' + 1)) (j' + 1) + (if P j' = true then 1 else 0) := rfl
                  rw [cu, if_pos t]
                  exact ti_p1 p2 (by have := cnU_le P (19 - (j' + 1)) (j' + 1); omega)
                · rw [ej]
                  have cu : fiU P 0 spd (19 - (j' + 1) + 1) j' = (if P j' = true then spd j' else fiU P 0 spd (19 - (j' + 1)) (j' + 1)) := rfl
                  rw [cu, if_pos t]
              · rintro v11 rfl
                refine hX _ ⟨j', by omega, rfl, ?_, ?_, F4, F5, _, F6⟩
                · rw [ej]
                  have cu : cnU P (19 - (j' + 1) + 1) j' = cnU P (19 - (j' + 1)) (j' + 1) + (if P j' = true then 1 else 0) := rfl
                  rw [cu, if_neg (by rw [t]; decide)]
                  exact p2
                · rw [ej]
                  have cu : fiU P 0 spd (19 - (j' + 1) + 1) j' = (if P j' = true then spd j' else fiU P 0 spd (19 - (j' + 1)) (j' + 1)) := rfl
                  rw [cu, if_neg (by rw [t]; decide)]
                  exact p3
            · rintro ⟨x5, x6, x7, z⟩ X ⟨j, p0, p1, p2, p3, p4, p5, v, p6⟩
              dsimp only at p1 p2 p3 p4 p5 p6 ⊢
              obtain rfl : j = 0 := by omega
              have s10 : spd 0 + -1 < (-9 : Int32) := by decide
              rw [p1]
              refine ⟨fun _ => ?_, fun d => absurd s10 d⟩
              refine setX10 (j0 := 3) hg hg8 rfl (by decide) p6 _ fun m7 q1 q2 => ?_
              have u33 : PUT (mem 77) g (upd (upd (gd (mem 77) g) 3 v) 3 (gd (mem 77) g 3)) = mem 77 := by
                have e9 : PUT (mem 77) g (upd (upd (gd (mem 77) g) 3 v) 3 (gd (mem 77) g 3)) = PUT (mem 77) g (gd (mem 77) g) := PUT_ext fun j hj => by
                  unfold upd
                  by_cases e : j = 3
                  · rw [if_pos e, e]
                  · rw [if_neg e, if_neg e]
                rw [e9, PUT_self]
              have fM : FrM m m7 := ⟨fun q y1 y2 y3 => by
                by_cases e : q = 77
                · subst e; rw [q2, u33, hm]
                · rw [q1 q e, p4 q y1 e y2 y3], fun j y1 y2 y3 => by rw [q1 76 (by decide), p5 j y1 y2 y3]⟩
              rw [show 19 - 0 = 19 from rfl, hT] at p2
              rw [show 19 - 0 = 19 from rfl, hLo] at p3
              obtain ⟨k1, k2⟩ := hq m7 fM
              have eT : Int32.ofNat T = x6 := on_of p2
              rw [eT] at k1
              rw [p3]
              refine ⟨fun d => k1 fun e => d ?_, fun d => k2 ?_⟩
              · rw [eq_ti, p2, e]; rfl
              · rw [d] at p2; simp only [Int32.reduceToInt] at p2; omega
          unfold B_X9_rolled_58
          refine LOOP_up 19 (fun i z => z.2.2.1 = spd i ∧ FrC (mem 77) mem z.2.2.2 ∧ ∃ cN : Nat, z.2.1.toInt = cN ∧ cN + cnU P (19 - i) i = T ∧ ((cN = 0 ∧ z.1 = 0 ∧ fiU P 0 spd (19 - i) i = Lo) ∨ (0 < cN ∧ z.1 = Lo))) ⟨(by decide : (-9 : Int32) = spd 0), ⟨fun _ _ _ _ => rfl, h.mem⟩, 0, rfl, by rw [Nat.zero_add]; exact hT, Or.inl ⟨rfl, rfl, hLo⟩⟩ ?_ ?_
          · rintro i ⟨x4, x5, x6, z⟩ X hi ⟨p1, p2, cN, p3, p4, p5⟩ hX
            dsimp only at p1 p2 p3 p5 hX ⊢
            subst p1
            have e7 := spd_ti (i := i) (by omega)
            obtain ⟨hz, z77⟩ := Inv_frC h p2
            rw [tn_of hg, row3, tn_of hk]
            refine ⟨fun d => absurd d (by rw [Int32.lt_iff_toInt_lt, e7]; simp only [Int32.reduceToInt]; omega), fun _ => ⟨va, vb, ?_⟩⟩
            have rx : ∀ j, j < 5 → z (3 + g) j = gd (mem 77) g j := fun j hj => by rw [← z77]; exact rowX hz (by rw [z77]; exact hgn) j hj
            have th : TH (mem 77) z := by rw [← z77]; exact hz.th
            refine copyX9 (s := mem 77) (by omega) rx th.2.2.2 _ fun m1 f1 x1 => ?_
            rintro m2 rfl
            have f2 := FrC_54 f1.2 3 (spd i)
            have sF := shF h hk4 hL (p2.tr (f1.tr f2))
            refine gso9 (s := mem 77) (by omega) sF.1 hL40 sF.2.2 (upd_row x1 3 (spd i)) (upd3_GW hgw (by rw [e7]; omega)) (TH_frC th (f1.tr f2)) _ fun m' f3 => ?_
            rw [← hP i]
            have fA := p2.tr ((f1.tr f2).tr f3)
            have ej : 19 - i = (19 - (i + 1)) + 1 := by omega
            have cu : cnU P (19 - (i + 1) + 1) i = cnU P (19 - (i + 1)) (i + 1) + (if P i = true then 1 else 0) := rfl
            have fu : fiU P 0 spd (19 - (i + 1) + 1) i = (if P i = true then spd i else fiU P 0 spd (19 - (i + 1)) (i + 1)) := rfl
            rw [ej, cu] at p4
            rw [ej, fu] at p5
            refine ⟨fun t => ⟨fun d => absurd d (by decide), fun _ => ?_⟩, fun t => ⟨fun _ => ?_, fun d => absurd rfl d⟩⟩
            · rw [if_pos t] at p4 p5
              refine ⟨fun d => ?_, fun d => ?_⟩
              · rintro v1 rfl v2 rfl
                refine hX _ ⟨(spd_1 hi).1, fA, cN + 1, ti_p1 p3 (by omega), by omega, Or.inr ⟨by omega, ?_⟩⟩
                rcases p5 with ⟨q0, -, -⟩ | ⟨-, q⟩
                · exact absurd (by rw [eq_ti, p3, q0]; rfl) d
                · exact q
              · rintro v1 rfl v2 rfl
                refine hX _ ⟨(spd_1 hi).1, fA, cN + 1, ti_p1 p3 (by omega), by omega, Or.inr ⟨by omega, ?_⟩⟩
                rcases p5 with ⟨-, -, q⟩ | ⟨q0, -⟩
                · exact q
                · rw [d] at p3; simp only [Int32.reduceToInt] at p3; omega
            · rw [if_neg (by rw [t]; decide)] at p4 p5
              rintro v1 rfl
              exact hX _ ⟨(spd_1 hi).1, fA, cN, p3, by omega, p5⟩
          · rintro ⟨x4, x5, x6, z⟩ X ⟨p1, p2, cN, p3, p4, p5⟩
            dsimp only at p1 p2 p3 p5 ⊢
            subst p1
            obtain ⟨hz, z77⟩ := Inv_frC h p2
            have cT : cN = T := by
              have : cnU P (19 - 19) 19 = 0 := rfl
              omega
            subst cT
            have x4L : x4 = Lo := by
              rcases p5 with ⟨-, q1, q2⟩ | ⟨-, q⟩
              · rw [q1]; exact q2
              · exact q
            have x5T : x5 = Int32.ofNat cN := (on_of p3).symm
            have i0 : x5 = 0 ↔ cN = 0 := ⟨fun e => by rw [e] at p3; simp only [Int32.reduceToInt] at p3; omega, fun e => by rw [eq_ti, p3, e]; rfl⟩
            have R86 : ∀ q, 60 < q → z q = mem q := fun q hq => p2.1 q (by omega) (by omega) (by omega)
            refine ⟨fun _ => ⟨fun d => ⟨fun e => ?_, fun e => ?_⟩, fun d => ?_⟩, fun d => absurd (by decide) d⟩
            · exact M z _ z77 (R86 86 (by decide)) (R86 87 (by decide)) (R86 88 (by decide)) fun m' k1 => ⟨fun _ => ⟨fun _ => ⟨x5T, (Inv_frM hz k1).1⟩, fun q => absurd q e⟩, fun q => absurd (i0.mpr q) d⟩
            · exact M z _ z77 (R86 86 (by decide)) (R86 87 (by decide)) (R86 88 (by decide)) fun m' k1 => ⟨fun _ => ⟨fun q => absurd e q, fun _ => ⟨x4L, (Inv_frM hz k1).1⟩⟩, fun q => absurd (i0.mpr q) d⟩
            · refine err_mid hz (by decide) (R := fun Q m => L_X10_rolled a b c m Q) fun m Q hm he => ?_
              exact M m Q (by rw [hm 77 (by decide), z77]) (by rw [hm 86 (by decide), R86 86 (by decide)]) (by rw [hm 87 (by decide), R86 87 (by decide)]) (by rw [hm 88 (by decide), R86 88 (by decide)]) fun m' k1 => ⟨fun q => absurd (i0.mp d) q, fun _ => he m' k1⟩
      · simp only [L_X9_rolled, h.i9 a, isSheet9, within_sp, Int32.reduceToInt, if_pos c1, if_pos c2, if_neg c3, e10, not_false_eq_true, not_true_eq_false, false_implies, forall_const, true_and, and_true, eq_self, imp_self, true_implies]
        refine err_end h (by decide) (R := fun Q m => L_X10_rolled a b c m Q) fun m Q hm he => ?_
        simp only [L_X10_rolled, h.i10 a (m := m) (by rw [hm 77 (by decide)]), isSheet10, isIn_sp, Int64.reduceToInt, if_pos c1, if_pos c2, if_neg c3, e10, not_false_eq_true, not_true_eq_false, false_implies, forall_const, true_and, and_true, eq_self, imp_self, true_implies]
        exact he
    · simp only [L_X9_rolled, h.i9 a, isSheet9, if_pos c1, if_neg c2, e10, not_false_eq_true, not_true_eq_false, false_implies, forall_const, true_and, and_true, eq_self, imp_self, true_implies]
      refine err_end h (by decide) (R := fun Q m => L_X10_rolled a b c m Q) fun m Q hm he => ?_
      simp only [L_X10_rolled, h.i10 a (m := m) (by rw [hm 77 (by decide)]), isSheet10, if_pos c1, if_neg c2, e10, not_false_eq_true, not_true_eq_false, false_implies, forall_const, true_and, and_true, eq_self, imp_self, true_implies]
      exact he
  · simp only [L_X9_rolled, h.i9 a, if_neg c1, e10, not_false_eq_true, not_true_eq_false, false_implies, forall_const, true_and, and_true, eq_self, imp_self, true_implies]
    refine err_end h (by decide) (R := fun Q m => L_X10_rolled a b c m Q) fun m Q hm he => ?_
    simp only [L_X10_rolled, h.i10 a (m := m) (by rw [hm 77 (by decide)]), if_neg c1, e10, not_false_eq_true, not_true_eq_false, false_implies, forall_const, true_and, and_true, eq_self, imp_self, true_implies]
    exact he
theorem kd_1 (j : Nat) : Int32.ofNat (j + 1) + -1 = Int32.ofNat j := by
  rw [← on_1, Int32.add_assoc]
  exact Int32.add_zero _
theorem k_whose {n : Nat} {a b : Int32} {mem : MMt} (h : Inv n mem) : L_X9_whose a b mem (fun r m => L_X10_whose a b m (fun r' m' => r = r' ∧ Inv n m')) := by
  by_cases c1 : 0 ≤ a.toInt ∧ a.toInt < (mem 77 6).toInt
  · obtain ⟨g, hg⟩ : ∃ g : Nat, a.toInt = g := ⟨a.toInt.toNat, by omega⟩
    have hgn : (g : Int) < (mem 77 6).toInt := by omega
    have e2 := h.n9.2
    have hg8 : g < 8 := by omega
    have hgw := h.gw hgn
    by_cases c2 : 0 ≤ b.toInt ∧ b.toInt ≤ 3
    · obtain ⟨k, hk⟩ : ∃ k : Nat, b.toInt = k := ⟨b.toInt.toNat, by omega⟩
      have hk4 : k < 4 := by omega
      obtain ⟨g1, g2, g3, g4, g5⟩ := h.sh hk4
      have vb := vp_of hk hk4
      have va := vp_of hg hg8
      obtain ⟨L, hL⟩ : ∃ L : Nat, (mem 87 k).toInt = L := ⟨(mem 87 k).toInt.toNat, by omega⟩
      have hL40 : L ≤ 40 := by omega
      by_cases c4 : mem 86 k = 0
      · simp only [L_X9_whose, h.i9 a, isSheet9, if_pos c1, if_pos c2, e10, not_false_eq_true, not_true_eq_false, false_implies, forall_const, true_and, and_true, eq_self, imp_self, true_implies, tn_of hk, miss9, g1, if_pos c4, vb]
        refine err_end h (by decide) (R := fun Q m => L_X10_whose a b m Q) fun m Q hm he => ?_
        simp only [L_X10_whose, h.i10 a (m := m) (by rw [hm 77 (by decide)]), isSheet10, if_pos c1, if_pos c2, e10, not_false_eq_true, not_true_eq_false, false_implies, forall_const, true_and, and_true, eq_self, imp_self, true_implies, tn_of hk, hm 86 (by decide), c4, vb]
        exact he
      · simp only [L_X9_whose, h.i9 a, isSheet9, if_pos c1, if_pos c2, e10, not_false_eq_true, not_true_eq_false, false_implies, forall_const, true_and, and_true, eq_self, imp_self, true_implies, tn_of hk, miss9, g1, if_neg c4, vb]
        obtain ⟨P, hP⟩ : ∃ P : Nat → Bool, ∀ i, P i = gsF (mem 77) (itm mem k) L (upd (gd (mem 77) g) 0 (Int32.ofNat i)) 0 := ⟨_, fun _ => rfl⟩
        have M : ∀ (m : MMt) Q, m 77 = mem 77 → m 86 = mem 86 → m 87 = mem 87 → m 88 = mem 88 → (∀ m' : MMt, FrM m m' → ((0 ≤ fiU P (-1) Int32.ofNat 7 0 → Q (fiU P (-1) Int32.ofNat 7 0) m') ∧ (¬ 0 ≤ fiU P (-1) Int32.ofNat 7 0 → L_X10_error (2 : Int32) m' Q))) → L_X10_whose a b m Q := by
          intro m Q hm h86 h87 h88 hq
          simp only [L_X10_whose, h.i10 a (m := m) (by rw [hm]), isSheet10, if_pos c1, if_pos c2, e10, not_false_eq_true, not_true_eq_false, false_implies, forall_const, true_and, and_true, eq_self, imp_self, true_implies, tn_of hk, h86, c4, vb]
          refine of10 (j := 0) hg hg8 rfl (by decide) _ _ ?_
          rw [hm, show mem 77 (10 + 5 * g + 0) = gd (mem 77) g 0 from rfl]
          unfold B_X10_whose_50
          refine LOOP_up 7 (fun i z => ∃ j, j + i = 7 ∧ z.2.1 = Int32.ofNat j + -1 ∧ z.1 = fiU P (-1) Int32.ofNat (7 - j) j ∧ (∀ q, q ≠ 76 → q ≠ 77 → q ≠ 81 → q ≠ 82 → z.2.2 q = m q) ∧ (∀ j, j ≠ 12 → j ≠ 13 → j ≠ 15 → z.2.2 76 j = m 76 j) ∧ ∃ v, z.2.2 77 = PUT (mem 77) g (upd (gd (mem 77) g) 0 v)) ⟨7, rfl, rfl, rfl, fun _ _ _ _ _ => rfl, fun _ _ _ _ => rfl, gd (mem 77) g 0, ?_⟩ ?_ ?_
          · show m 77 = _
            rw [hm, ← PUT_upd _ _ _ (by decide), PUT_self]
            funext i; rw [upd_at]
            by_cases e : i = 10 + 5 * g + 0
            · rw [if_pos e, e]; rfl
            · rw [if_neg e]
          · rintro i ⟨x4, x5, z⟩ X hi ⟨j, p0, p1, p3, p4, p5, v, p6⟩ hX
            dsimp only at p1 p3 p4 p5 p6 hX ⊢
            obtain ⟨j', rfl⟩ : ∃ j', j = j' + 1 := ⟨j - 1, by omega⟩
            rw [kd_1] at p1
            subst p1
            have e7 : (Int32.ofNat j').toInt = j' := on_ti (by omega)
            refine ⟨fun d => absurd d (by rw [Int32.lt_iff_toInt_lt, e7]; simp only [Int32.reduceToInt]; omega), fun _ => ?_⟩
            refine setX10 (j0 := 0) hg hg8 rfl (by decide) p6 _ fun m7 q1 q2 => ?_
            have u33 : upd (upd (gd (mem 77) g) 0 v) 0 (Int32.ofNat j') = upd (gd (mem 77) g) 0 (Int32.ofNat j') := by
              funext i; unfold upd; split <;> rfl
            rw [u33] at q2
            refine gso10 hg hg8 hk hk4 h.wl q2 (num := itm mem k) (L := L) (by rw [q1 87 (by decide), p4 87 (by decide) (by decide) (by decide) (by decide), h87]; exact hL) hL40 (fun i _ => by rw [q1 88 (by decide), p4 88 (by decide) (by decide) (by decide) (by decide), h88]; rfl) _ fun m' f1 => ?_
            rw [← hP j']
            have F4 : ∀ q, q ≠ 76 → q ≠ 77 → q ≠ 81 → q ≠ 82 → m' q = m q := fun q y1 y2 y3 y4 => by rw [f1.1 q y1 y3 y4, q1 q y2, p4 q y1 y2 y3 y4]
            have F5 : ∀ j, j ≠ 12 → j ≠ 13 → j ≠ 15 → m' 76 j = m 76 j := fun j y1 y2 y3 => by rw [f1.2 j y1 y2 y3, q1 76 (by decide), p5 j y1 y2 y3]
            have F6 : m' 77 = PUT (mem 77) g (upd (gd (mem 77) g) 0 (Int32.ofNat j')) := by rw [f1.1 77 (by decide) (by decide) (by decide)]; exact q2
            have ej : 7 - j' = (7 - (j' + 1)) + 1 := by omega
            have cu : fiU P (-1) Int32.ofNat (7 - (j' + 1) + 1) j' = (if P j' = true then Int32.ofNat j' else fiU P (-1) Int32.ofNat (7 - (j' + 1)) (j' + 1)) := rfl
            refine ⟨fun t => ⟨fun d => absurd d (by decide), fun _ => ?_⟩, fun t => ⟨fun _ => ?_, fun d => absurd rfl d⟩⟩
            · rintro v12 rfl
              exact hX _ ⟨j', by omega, rfl, by rw [ej, cu, if_pos t], F4, F5, _, F6⟩
            · rintro v12 rfl
              exact hX _ ⟨j', by omega, rfl, by rw [ej, cu, if_neg (by rw [t]; decide)]; exact p3, F4, F5, _, F6⟩
          · rintro ⟨x4, x5, z⟩ X ⟨j, p0, p1, p3, p4, p5, v, p6⟩
            dsimp only at p1 p3 p4 p5 p6 ⊢
            obtain rfl : j = 0 := by omega
            have s10 : Int32.ofNat 0 + -1 < (0 : Int32) := by decide
            rw [p1]
            refine ⟨fun _ => ?_, fun d => absurd s10 d⟩
            refine setX10 (j0 := 0) hg hg8 rfl (by decide) p6 _ fun m7 q1 q2 => ?_
            have u33 : PUT (mem 77) g (upd (upd (gd (mem 77) g) 0 v) 0 (gd (mem 77) g 0)) = mem 77 := by
              have e9 : PUT (mem 77) g (upd (upd (gd (mem 77) g) 0 v) 0 (gd (mem 77) g 0)) = PUT (mem 77) g (gd (mem 77) g) := PUT_ext fun j hj => by
                unfold upd
                by_cases e : j = 0
                · rw [if_pos e, e]
                · rw [if_neg e, if_neg e]
              rw [e9, PUT_self]
            have fM : FrM m m7 := ⟨fun q y1 y2 y3 => by
              by_cases e : q = 77
              · subst e; rw [q2, u33, hm]
              · rw [q1 q e, p4 q y1 e y2 y3], fun j y1 y2 y3 => by rw [q1 76 (by decide), p5 j y1 y2 y3]⟩
            rw [show 7 - 0 = 7 from rfl] at p3
            rw [p3]
            exact hq m7 fM
        have R86 : ∀ {z : MMt}, FrC (mem 77) mem z → ∀ q, 60 < q → z q = mem q := fun hz q hq => hz.1 q (by omega) (by omega) (by omega)
        unfold B_X9_whose_41
        refine LOOP_up 7 (fun i z => z.1 = Int32.ofNat i ∧ FrC (mem 77) mem z.2 ∧ ∀ q, q < i → ¬ P q = true) ⟨rfl, ⟨fun _ _ _ _ => rfl, h.mem⟩, fun q hq => absurd hq (by omega)⟩ ?_ ?_
        · rintro i ⟨x3, z⟩ X hi ⟨p1, p2, p3⟩ hX
          dsimp only at p1 p2 p3 hX ⊢
          subst p1
          have e7 : TI (Int32.ofNat i) i := on_ti (by omega)
          obtain ⟨hz, z77⟩ := Inv_frC h p2
          rw [tn_of hg, row3, tn_of hk]
          refine ⟨fun d => absurd d (nle_of (n := 7) rfl e7 hi), fun _ => ⟨va, vb, ?_⟩⟩
          have rx : ∀ j, j < 5 → z (3 + g) j = gd (mem 77) g j := fun j hj => by rw [← z77]; exact rowX hz (by rw [z77]; exact hgn) j hj
          have th : TH (mem 77) z := by rw [← z77]; exact hz.th
          refine copyX9 (s := mem 77) (by omega) rx th.2.2.2 _ fun m1 f1 x1 => ?_
          rintro m2 rfl
          have f2 := FrC_54 f1.2 0 (Int32.ofNat i)
          have sF := shF h hk4 hL (p2.tr (f1.tr f2))
          refine gso9 (s := mem 77) (by omega) sF.1 hL40 sF.2.2 (upd_row x1 0 (Int32.ofNat i)) (upd0_GW hgw (by rw [show (Int32.ofNat i).toInt = i from e7]; omega)) (TH_frC th (f1.tr f2)) _ fun m' f3 => ?_
          rw [← hP i]
          have fA := p2.tr ((f1.tr f2).tr f3)
          obtain ⟨hm', m77⟩ := Inv_frC h fA
          refine ⟨fun t => ⟨fun d => absurd d (by decide), fun _ => ?_⟩, fun t => ⟨fun _ => ?_, fun d => absurd rfl d⟩⟩
          · have fi : fiU P (-1) Int32.ofNat 7 0 = Int32.ofNat i := fiU_first (by omega) (by omega) (fun q _ q2 => p3 q q2) t
            refine M m' _ m77 (R86 fA 86 (by decide)) (R86 fA 87 (by decide)) (R86 fA 88 (by decide)) fun m9 k1 => ?_
            rw [fi]
            exact ⟨fun _ => ⟨rfl, (Inv_frM hm' k1).1⟩, fun d => absurd (by rw [Int32.le_iff_toInt_le, show (Int32.ofNat i).toInt = i from e7]; simp only [Int32.reduceToInt]; omega) d⟩
          · rintro v rfl
            exact hX _ ⟨on_1 i, fA, dec3 i p3 (by rw [t]; decide)⟩
        · rintro ⟨x3, z⟩ X ⟨p1, p2, p3⟩
          dsimp only at p1 p2 p3 ⊢
          subst p1
          obtain ⟨hz, z77⟩ := Inv_frC h p2
          refine ⟨fun _ => ?_, fun d => absurd (by decide) d⟩
          have fi : fiU P (-1) Int32.ofNat 7 0 = -1 := fiU_none fun q _ q2 => p3 q (by omega)
          refine err_mid hz (by decide) (R := fun Q m => L_X10_whose a b m Q) fun m Q hm he => ?_
          refine M m Q (by rw [hm 77 (by decide), z77]) (by rw [hm 86 (by decide), R86 p2 86 (by decide)]) (by rw [hm 87 (by decide), R86 p2 87 (by decide)]) (by rw [hm 88 (by decide), R86 p2 88 (by decide)]) fun m' k1 => ?_
          rw [fi]
          exact ⟨fun d => absurd d (by decide), fun _ => he m' k1⟩
    · simp only [L_X9_whose, h.i9 a, isSheet9, if_pos c1, if_neg c2, e10, not_false_eq_true, not_true_eq_false, false_implies, forall_const, true_and, and_true, eq_self, imp_self, true_implies]
      refine err_end h (by decide) (R := fun Q m => L_X10_whose a b m Q) fun m Q hm he => ?_
      simp only [L_X10_whose, h.i10 a (m := m) (by rw [hm 77 (by decide)]), isSheet10, if_pos c1, if_neg c2, e10, not_false_eq_true, not_true_eq_false, false_implies, forall_const, true_and, and_true, eq_self, imp_self, true_implies]
      exact he
  · simp only [L_X9_whose, h.i9 a, if_neg c1, e10, not_false_eq_true, not_true_eq_false, false_implies, forall_const, true_and, and_true, eq_self, imp_self, true_implies]
    refine err_end h (by decide) (R := fun Q m => L_X10_whose a b m Q) fun m Q hm he => ?_
    simp only [L_X10_whose, h.i10 a (m := m) (by rw [hm 77 (by decide)]), if_neg c1, e10, not_false_eq_true, not_true_eq_false, false_implies, forall_const, true_and, and_true, eq_self, imp_self, true_implies]
    exact he
