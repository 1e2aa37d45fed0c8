theorem WFL_new {s : Nat → Int32} {v : Nat} {o : List (Int32 × Int32)} (h1 : 1 ≤ o.length) (h2 : o.length ≤ 50) (hw : WV o) (hl : (s v).toInt = o.length) (hc : ∀ k, k < o.length → s (v + 1 + 2 * k) = (o.getD k (0, 0)).1 ∧ s (v + 2 + 2 * k) = (o.getD k (0, 0)).2) : WFL s v := by
  obtain ⟨dep, d1, d2, d3⟩ := RUN_dep (hw 0)
  have e : (s v).toInt.toNat = o.length := by omega
  refine Or.inr ⟨by omega, by omega, dep, d1, by rw [e]; exact d2, fun k hk => ?_⟩
  rw [e] at hk
  rw [(hc k hk).1, (hc k hk).2]
  exact d3 k hk
theorem LWR_new {s : Nat → Int32} {v lq : Nat} {m : MMt} {o : List (Int32 × Int32)} (h1 : 1 ≤ o.length) (h2 : o.length ≤ 50) (hl : (s v).toInt = o.length) (hc : ∀ k, k < o.length → s (v + 1 + 2 * k) = (o.getD k (0, 0)).1 ∧ s (v + 2 + 2 * k) = (o.getD k (0, 0)).2) (hm : (m lq 2).toInt = o.length) (hw : ∀ k, k < o.length → m (lq + 1) k = encw (o.getD k (0, 0)).1 (o.getD k (0, 0)).2) : LWR lq s v m := by
  have e : (s v).toInt.toNat = o.length := by omega
  refine Or.inr ⟨by omega, by omega, by rw [eq_ti, hm, hl], fun k hk => ?_⟩
  rw [e] at hk
  rw [hw k hk, (hc k hk).1, (hc k hk).2]
theorem k_text {n : Nat} {a : Int32} {mem : MMt} (h : Inv n mem) : L_X9_text a mem (fun r m => L_X10_text a m (fun r' m' => r = r' ∧ Inv n m')) := by
  obtain ⟨⟨⟨a1, a2, a3, a4, a5, a6⟩, b1, b2, b3, b4, b5⟩, w1, w2, w3, w4⟩ := h.2.1
  by_cases c1 : 0 ≤ a.toInt ∧ a.toInt ≤ 1
  · have u01 : a = 0 ∨ a = 1 := by
      simp only [eq_ti, Int32.reduceToInt]; omega
    obtain ⟨N, hN⟩ : ∃ N : Nat, (mem 77 7).toInt = N := ⟨(mem 77 7).toInt.toNat, by omega⟩
    simp only [L_X9_text, L_X9_isUse, within_sp, Int32.reduceToInt, if_pos c1]
    refine ⟨fun _ => fault9 h u01 hN _ (fun m' at1 v r1 hv hF => ?_) (fun m' o r1 o1 o2 hwv hc hcode hok => ?_), fun q => absurd q (by decide)⟩
    · rintro m6 hm6
      have v0 : ¬ v < 0 := by rw [Int32.lt_iff_toInt_lt, hv]; simp only [Int32.reduceToInt]; omega
      refine ⟨fun q => absurd q v0, fun _ => ?_⟩
      have r6 : ∀ q, q ≠ 11 → q ≠ 55 → q ≠ 56 → m6 q = mem q := fun q q1 q2 q3 => by rw [hm6, up2_ro _ _ _ _ _ q1, r1 q q2 q3]
      refine flt10 u01 hN hF (by rw [r6 77 (by decide) (by decide) (by decide)]) _ fun M v' t1 t2 t3 t4 t5 => ⟨by rw [show v = v' from by rw [eq_ti, hv, t5]], ?_⟩
      have R : ∀ q, q ≠ 11 → q ≠ 55 → q ≠ 56 → q ≠ 76 → q ≠ 77 → q ≠ 80 → M q = mem q := fun q q1 q2 q3 q4 q5 q6 => by rw [t1 q q4 q5 q6, r6 q q1 q2 q3]
      have R76 : ∀ j, j ≠ 5 → j ≠ 6 → j ≠ 7 → j ≠ 8 → M 76 j = mem 76 j := fun j j1 j2 j3 j4 => by rw [t2 j j1 j2 j3 j4, r6 76 (by decide) (by decide) (by decide)]
      have R11 : ∀ j, M 11 j = if j = 4 then 0 else mem 11 j := fun j => by rw [t1 11 (by decide) (by decide) (by decide), hm6, uq, r1 11 (by decide) (by decide)]
      obtain ⟨mS, hS⟩ : ∃ mS : MMt, ∀ q, mS q = if q = 11 ∨ q = 77 then mem q else M q := ⟨_, fun _ => rfl⟩
      have S1 : ∀ q, q = 11 ∨ q = 77 → mS q = mem q := fun q hq => by rw [hS, if_pos hq]
      have S2 : ∀ q, q ≠ 11 → q ≠ 77 → mS q = M q := fun q q1 q2 => by rw [hS, if_neg (by omega)]
      have hIS : Inv n mS := by
        refine Inv_sc h (fun q hq => ?_) ?_ (MEM_congr h.mem (by rw [S2 21 (by decide) (by decide), R 21 (by decide) (by decide) (by decide) (by decide) (by decide) (by decide)]) fun _ _ => rfl)
        · unfold SC at hq
          by_cases e : q = 11 ∨ q = 77
          · exact S1 q e
          · rw [S2 q (by omega) (by omega), R q (by omega) (by omega) (by omega) (by omega) (by omega) (by omega)]
        · rw [S2 76 (by decide) (by decide)]
          exact ⟨R76 2 (by decide) (by decide) (by decide) (by decide), R76 3 (by decide) (by decide) (by decide) (by decide), R76 24 (by decide) (by decide) (by decide) (by decide)⟩
      have R13 : M 13 = mem 13 := R 13 (by decide) (by decide) (by decide) (by decide) (by decide) (by decide)
      have R14 : M 14 = mem 14 := R 14 (by decide) (by decide) (by decide) (by decide) (by decide) (by decide)
      have e8 : M 77 8 = mem 77 8 := t3 8 (by decide)
      refine Inv_w hIS (fun q q1 q2 q3 q4 => (S2 q q1 q4).symm) (fun j j4 j6 => by rw [R11, if_neg j4, S1 11 (Or.inl rfl)]) (by rw [R11, if_pos rfl, t4]) (by rw [R11, if_neg (by decide), e8]; exact a6) (by rw [t4]; decide) (by rw [e8]; exact w3) (fun i hi => ?_) (by rw [R13]; exact b2) (fun i hi => ?_) (fun i i7 i8 _ => by rw [t3 i i7, S1 77 (Or.inr rfl)])
      · rw [t4] at hi; exact absurd hi (by simp only [Int32.reduceToInt]; omega)
      · rw [e8] at hi; rw [R14, t3 _ (by omega)]; exact b3 i hi
    · have ho50 : o.length ≤ 50 := by omega
      rintro m6 hm6
      refine ⟨fun _ => ?_, fun q => absurd (by decide) q⟩
      have r6 : ∀ q, q ≠ 11 → q ≠ 55 → q ≠ 56 → m6 q = mem q := fun q q1 q2 q3 => by rw [hm6, up2_ro _ _ _ _ _ q1, r1 q q2 q3]
      have r55 : m6 55 = m' 55 := by rw [hm6, up2_ro _ _ _ _ _ (by decide)]
      have r56 : m6 56 = m' 56 := by rw [hm6, up2_ro _ _ _ _ _ (by decide)]
      have r11 : ∀ j, m6 11 j = if j = 4 then 0 else mem 11 j := fun j => by rw [hm6, uq, r1 11 (by decide) (by decide)]
      have main : ∀ (b : Nat), (a = 0 ∧ b = 0 ∨ a = 1 ∧ b = 1) → L_X2_hold (15 + 3 * b) 56 (m6 55 1) m6 (fun m10 => L_X5_forgetPulls 11 m10 (fun m11 => L_X10_text a m11 (fun r' m' => (1 : Int32) = r' ∧ Inv n m'))) := by
        intro b hab
        have hb2 : b < 2 := by omega
        refine hold9 (L := o.length) (by rw [r55]; exact hc) ho50 (by omega) (by omega) _ fun m10 p1 p2 p3 p4 => ?_
        refine fillB_spec (by decide) _ ?_
        have e100 : (100 : Int32).toInt8.toInt32 = 100 := by decide
        rw [e100]
        generalize hm11 : fil m10 (11 + 10) 410 100 = m11
        have F : ∀ q, q ≠ 21 → m11 q = m10 q := fun q hq => by rw [← hm11]; funext j; unfold fil; rw [if_neg (by omega)]
        have F21 : ∀ i, i < 410 → m11 21 i = 100 := fun i hi => by rw [← hm11]; unfold fil; rw [if_pos ⟨rfl, hi⟩]
        clear hm11
        have r77 : m11 77 = mem 77 := by rw [F 77 (by decide), p1 77 (by omega) (by omega), r6 77 (by decide) (by decide) (by decide)]
        refine tak10 hab hN (by omega) o2 hok r77 _ fun M t1 t2 t3 t4 t5 t6 => ⟨rfl, ?_⟩
        have R : ∀ q, q ≠ 11 → q ≠ 55 → q ≠ 56 → q ≠ 76 → q ≠ 77 → q ≠ 80 → q ≠ 21 → q ≠ 15 + 3 * b → q ≠ 15 + 3 * b + 1 → M q = mem q := fun q q1 q2 q3 q4 q5 q6 q7 q8 q9 => by rw [t1 q q4 q5 q6, F q q7, p1 q q8 q9, r6 q q1 q2 q3]
        have R76 : ∀ j, j ≠ 5 → j ≠ 6 → j ≠ 7 → j ≠ 8 → M 76 j = mem 76 j := fun j j1 j2 j3 j4 => by rw [t2 j j1 j2 j3 j4, F 76 (by decide), p1 76 (by omega) (by omega), r6 76 (by decide) (by decide) (by decide)]
        have R11 : ∀ j, M 11 j = if j = 4 then 0 else mem 11 j := fun j => by rw [t1 11 (by decide) (by decide) (by decide), F 11 (by decide), p1 11 (by omega) (by omega), r11]
        have R21 : ∀ i, i < 410 → M 21 i = 100 := fun i hi => by rw [t1 21 (by decide) (by decide) (by decide)]; exact F21 i hi
        have Rl : ∀ j, j ≠ 2 → M (15 + 3 * b) j = mem (15 + 3 * b) j := fun j hj => by rw [t1 _ (by omega) (by omega) (by omega), F _ (by omega), p2 j hj, r6 _ (by omega) (by omega) (by omega)]
        have Rl2 : (M (15 + 3 * b) 2).toInt = o.length := by rw [t1 _ (by omega) (by omega) (by omega), F _ (by omega), p3, r55, hc]
        have Rlw : ∀ k, k < o.length → M (15 + 3 * b + 1) k = encw (o.getD k (0, 0)).1 (o.getD k (0, 0)).2 := fun k hk => by rw [t1 _ (by omega) (by omega) (by omega), F _ (by omega), p4 k hk, r56, hcode k hk]
        have nW : WFL (M 77) (120 + 101 * b) := WFL_new o1 ho50 hwv t5 t6
        have nL : LWR (15 + 3 * b) (M 77) (120 + 101 * b) M := LWR_new o1 ho50 t5 t6 Rl2 Rlw
        have R15 : M 15 0 = mem 15 0 := by
          by_cases e : b = 0
          · have := Rl 0 (by decide); rw [e] at this; exact this
          · rw [R 15 (by decide) (by decide) (by decide) (by decide) (by decide) (by decide) (by decide) (by omega) (by omega)]
        have R18 : M 18 0 = mem 18 0 := by
          by_cases e : b = 1
          · have := Rl 0 (by decide); rw [e] at this; exact this
          · rw [R 18 (by decide) (by decide) (by decide) (by decide) (by decide) (by decide) (by decide) (by omega) (by omega)]
        have lo : ∀ i, i ≠ 7 → i < 120 → M 77 i = mem 77 i := fun i i1 i2 => t3 i i1 (Or.inl (by omega))
        have e8 : M 77 8 = mem 77 8 := lo 8 (by decide) (by decide)
        have R12 : M 12 = mem 12 := R 12 (by decide) (by decide) (by decide) (by decide) (by decide) (by decide) (by decide) (by omega) (by omega)
        have R13 : M 13 = mem 13 := R 13 (by decide) (by decide) (by decide) (by decide) (by decide) (by decide) (by decide) (by omega) (by omega)
        have R14 : M 14 = mem 14 := R 14 (by decide) (by decide) (by decide) (by decide) (by decide) (by decide) (by decide) (by omega) (by omega)
        obtain ⟨c1, c2, c3, c4, c5, c6, c7⟩ := h
        have r : ∀ q, (q = 0 ∨ q = 1 ∨ (3 ≤ q ∧ q ≤ 10) ∨ (22 ≤ q ∧ q ≤ 40) ∨ (64 ≤ q ∧ q ≤ 75) ∨ q = 78 ∨ q = 79 ∨ (86 ≤ q)) → M q = mem q := fun q hq => R q (by omega) (by omega) (by omega) (by omega) (by omega) (by omega) (by omega) (by omega) (by omega)
        have hb01 : b = 0 ∨ b = 1 := by omega
        have laws : LWR (11 + 4) (M 77) 120 M ∧ LWR (11 + 7) (M 77) 221 M ∧ WL (M 77) := by
          rcases hb01 with rfl | rfl
          · refine ⟨nL, ?_, nW, ?_⟩
            · exact LWR_congr b5 (fun i i1 i2 => t3 i (by omega) (Or.inr (by omega))) (by rw [R 18 (by decide) (by decide) (by decide) (by decide) (by decide) (by decide) (by decide) (by decide) (by decide)]) (R 19 (by decide) (by decide) (by decide) (by decide) (by decide) (by decide) (by decide) (by decide) (by decide))
            · exact WFL_congr w4.2 (fun i i1 i2 => t3 i (by omega) (Or.inr (by omega)))
          · refine ⟨?_, nL, ?_, nW⟩
            · exact LWR_congr b4 (fun i i1 i2 => t3 i (by omega) (Or.inl (by omega))) (by rw [R 15 (by decide) (by decide) (by decide) (by decide) (by decide) (by decide) (by decide) (by decide) (by decide)]) (R 16 (by decide) (by decide) (by decide) (by decide) (by decide) (by decide) (by decide) (by decide) (by decide))
            · exact WFL_congr w4.1 (fun i i1 i2 => t3 i (by omega) (Or.inl (by omega)))
        refine ⟨?_, ⟨⟨⟨?_, ?_, ?_, ?_, ?_, ?_⟩, ?_, ?_, ?_, laws.1, laws.2.1⟩, ?_, ?_, ?_, laws.2.2⟩, ⟨R15.trans c3.1, R18.trans c3.2.1, fun i hi => Or.inl (R21 i hi)⟩, IK_fr c4 (by rw [r 0 (by omega)]) (R76 2 (by decide) (by decide) (by decide) (by decide)) (R76 3 (by decide) (by decide) (by decide) (by decide)) (fun q hq => r q (by omega)), IE_fr c5 (r _ (by omega)) (r _ (by omega)), IV_fr c6 (r _ (by omega)) (r _ (by omega)) (r _ (by omega)) (R76 24 (by decide) (by decide) (by decide) (by decide)), ISh_fr c7 (fun q hq => r q (by omega))⟩
        · obtain ⟨⟨g1, g2, g3, g4⟩, g5, g6⟩ := c1
          have e6 := lo 6 (by decide) (by decide)
          refine ⟨⟨?_, ?_, ?_, ?_⟩, ?_, ?_⟩
          · rw [r 1 (by omega), e6]; exact g1
          · rw [r 1 (by omega), lo 0 (by decide) (by decide)]; exact g2
          · rw [r 1 (by omega), lo 1 (by decide) (by decide)]; exact g3
          · intro g hg j hj
            rw [e6] at hg
            rw [r _ (by omega)]
            unfold gd
            rw [lo _ (by omega) (by omega)]
            exact g4 g hg j hj
          · rw [e6]; exact g5
          · intro g hg
            rw [e6] at hg
            exact GW_ext (fun j hj => (lo _ (by omega) (by omega)).symm) (g6 g hg)
        · rw [R11, if_neg (by decide), lo 2 (by decide) (by decide)]; exact a1
        · rw [R12, lo 3 (by decide) (by decide)]; exact a2
        · rw [R12, lo 4 (by decide) (by decide)]; exact a3
        · rw [R11, if_neg (by decide), lo 5 (by decide) (by decide)]; exact a4
        · rw [R11, if_pos rfl, t4]
        · rw [R11, if_neg (by decide), e8]; exact a6
        · intro i hi
          rw [t4] at hi; exact absurd hi (by simp only [Int32.reduceToInt]; omega)
        · rw [R13]; exact b2
        · intro i hi
          rw [e8] at hi
          rw [R14, lo _ (by omega) (by omega)]; exact b3 i hi
        · rw [lo 2 (by decide) (by decide)]; exact w1
        · rw [t4]; decide
        · rw [e8]; exact w3
      rcases u01 with rfl | rfl
      · exact ⟨fun q => absurd rfl q, fun _ => main 0 (Or.inl ⟨rfl, rfl⟩)⟩
      · exact ⟨fun _ => main 1 (Or.inr ⟨rfl, rfl⟩), fun q => absurd q (by decide)⟩
  · simp only [L_X9_text, L_X9_isUse, within_sp, Int32.reduceToInt, if_neg c1]
    refine ⟨fun q => absurd trivial q, fun _ => err_end h (by decide) (R := fun Q m => L_X10_text a m Q) fun m Q hm he => ?_⟩
    simp only [L_X10_text, isIn_sp, Int64.reduceToInt, if_neg c1]
    exact ⟨fun q => absurd trivial q, fun _ => he⟩
