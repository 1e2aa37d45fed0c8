/-- all goods become X g on both sides -/
theorem IC_all {mem m' : MMt} (h : IC mem) {X : Nat → Nat → Int32} (hX : ∀ g : Nat, (g : Int) < (mem 77 6).toInt → GW (X g)) (h1 : ∀ j, 1 ≤ j → j ≤ 3 → m' 1 j = mem 1 j) (hs : m' 77 0 = mem 77 0 ∧ m' 77 1 = mem 77 1 ∧ m' 77 6 = mem 77 6)
    (hc : ∀ g : Nat, (g : Int) < (mem 77 6).toInt → ∀ j, j < 5 → m' (3 + g) j = X g j) (hm : ∀ g : Nat, (g : Int) < (mem 77 6).toInt → ∀ j, j < 5 → m' 77 (10 + 5 * g + j) = X g j) : IC m' := by
  obtain ⟨⟨a1, a2, a3, a4⟩, b1, b2⟩ := h
  obtain ⟨s0, s1, s6⟩ := hs
  refine ⟨⟨by rw [h1 1 (by decide) (by decide), s6]; exact a1, by rw [h1 2 (by decide) (by decide), s0]; exact a2, by rw [h1 3 (by decide) (by decide), s1]; exact a3, ?_⟩, by rw [s6]; exact b1, ?_⟩
  · intro g hg j hj
    rw [s6] at hg
    rw [row3, hc g hg j hj]
    exact (hm g hg j hj).symm
  · intro g hg
    rw [s6] at hg
    exact GW_ext (fun j hj => (hm g hg j hj).symm) (hX g hg)
theorem dec3 {P : Nat → Prop} (k : Nat) (h : ∀ q, q < k → P q) (hk : P k) : ∀ q, q < k + 1 → P q := fun q hq => by
  by_cases e : q = k
  · subst e; exact hk
  · exact h q (by omega)
theorem isPush9 (a : Int32) (mem : MMt) (Q : Int32 → MMt → Prop) : L_X9_isPush a mem Q ↔ if -9 ≤ a.toInt ∧ a.toInt ≤ 9 then Q 1 mem else Q 0 mem := by
  unfold L_X9_isPush; rw [within_sp]; simp only [Int32.reduceToInt]
theorem isPush10 (a : Int32) (mem : MMt) (Q : Int32 → MMt → Prop) : L_X10_isPush a mem Q ↔ if -9 ≤ a.toInt ∧ a.toInt ≤ 9 then Q 1 mem else Q 0 mem := by
  unfold L_X10_isPush; rw [isIn_sp]; simp only [Int64.reduceToInt]
theorem min_ti {x y : Int32} {k l : Nat} (hx : x.toInt = k) (hy : y.toInt = l) : (if y < x then y else x).toInt = (min k l : Nat) := by
  split
  · rename_i c; rw [Int32.lt_iff_toInt_lt] at c; omega
  · rename_i c; rw [Int32.lt_iff_toInt_lt] at c; omega
/-- number i of SHEET k -/
def itm (mem : MMt) (k i : Nat) : Int32 := mem 88 (40 * k + i)
def ok9 (v : Int32) : Prop := -9 ≤ v.toInt ∧ v.toInt ≤ 9
theorem k_pushes {n : Nat} {a : Int32} {mem : MMt} (h : Inv n mem) : L_X9_pushes a mem (fun r m => L_X10_pushes a m (fun r' m' => r = r' ∧ Inv n m')) := by
  by_cases c1 : 0 ≤ a.toInt ∧ a.toInt ≤ 3
  · obtain ⟨k, hk⟩ : ∃ k : Nat, a.toInt = k := ⟨a.toInt.toNat, by omega⟩
    have hk4 : k < 4 := by omega
    obtain ⟨g1, g2, g3, g4, g5⟩ := h.sh hk4
    have va := vp_of hk hk4
    obtain ⟨e1, e2⟩ := h.n9
    obtain ⟨N, hN⟩ : ∃ N : Nat, (mem 77 6).toInt = N := ⟨(mem 77 6).toInt.toNat, by omega⟩
    obtain ⟨L, hL⟩ : ∃ L : Nat, (mem 87 k).toInt = L := ⟨(mem 87 k).toInt.toNat, by omega⟩
    by_cases c2 : mem 86 k = 0
    · simp only [L_X9_pushes, isSheet9, if_pos c1, e10, not_false_eq_true, not_true_eq_false, false_implies, forall_const, true_and, and_true, eq_self, imp_self, true_implies, tn_of hk, miss9, g1, if_pos c2, va]
      refine err_end h (by decide) (R := fun Q m => L_X10_pushes a m Q) fun m Q hm he => ?_
      simp only [L_X10_pushes, L_X10_noSheet, isSheet10, if_pos c1, e10, not_false_eq_true, not_true_eq_false, false_implies, forall_const, true_and, and_true, eq_self, imp_self, true_implies, tn_of hk, va, hm 86 (by decide), c2]
      rw [err10 (by decide)] at he ⊢
      exact ⟨fun d => absurd d (by decide), fun _ => he⟩
    · simp only [L_X9_pushes, isSheet9, if_pos c1, e10, not_false_eq_true, not_true_eq_false, false_implies, forall_const, true_and, and_true, eq_self, imp_self, true_implies, tn_of hk, miss9, g1, if_neg c2, va, min_sp, g3, e1]
      have hmn := min_ti hL hN
      generalize (if mem 77 6 < mem 87 k then mem 77 6 else mem 87 k) = mn at hmn ⊢
      have sp : ∀ g : Nat, Int32 := fun g => hld (gd (mem 77) g 3 + itm mem k g) (-9) 9
      have fin : ∀ (K : Nat) (m : MMt), K ≤ min L N → (∀ q, q < K → ok9 (itm mem k q)) → (K = min L N ∨ ¬ ok9 (itm mem k K)) → (∀ q, (q < 3 ∨ 10 < q) → m q = mem q) →
          (∀ g, g < 8 → m (3 + g) = if g < K then upd (mem (3 + g)) 3 (hld (gd (mem 77) g 3 + itm mem k g) (-9) 9) else mem (3 + g)) → L_X10_pushes a m (fun r' m' => Int32.ofNat K = r' ∧ Inv n m') := by
        intro K m hK hok hend hfr hrow
        have f77 := hfr 77 (by omega)
        have f86 := hfr 86 (by omega)
        have f87 := hfr 87 (by omega)
        have f88 := hfr 88 (by omega)
        simp only [L_X10_pushes, L_X10_noSheet, isSheet10, if_pos c1, e10, not_false_eq_true, not_true_eq_false, false_implies, forall_const, true_and, and_true, eq_self, imp_self, true_implies, tn_of hk, va, f86, c2]
        unfold B_X10_pushes_14
        refine LOOP_up K (fun i z => z.1 = Int32.ofNat i ∧ (∀ q, q ≠ 77 → z.2 q = m q) ∧ (∀ x, (x < 10 ∨ 50 ≤ x) → z.2 77 x = mem 77 x) ∧ ∀ g j, j < 5 → z.2 77 (10 + 5 * g + j) = if g < i ∧ j = 3 then hld (gd (mem 77) g 3 + itm mem k g) (-9) 9 else mem 77 (10 + 5 * g + j)) ⟨rfl, fun _ _ => rfl, fun x _ => by show m 77 x = _; rw [f77], fun g j _ => by show m 77 _ = _; rw [if_neg (by omega), f77]⟩ ?_ ?_
        · rintro i ⟨x, m2⟩ X hi ⟨q1, q2, q3, q4⟩ hX
          dsimp only at q1 q2 q3 q4 hX ⊢
          subst q1
          have hi2 : TI (Int32.ofNat i) i := on_ti (by omega)
          have eI : TI (((40 : Int32) * a) + Int32.ofNat i) (40 * k + i) := TI.add (TI.mul (rfl : TI 40 40) hk (by omega)) hi2 (by omega)
          rw [tn_of hk, eI.tn, q2 87 (by omega), f87, q3 6 (by omega), q2 88 (by omega), f88]
          refine ⟨va, fun d => absurd d (nle_of hL hi2 (by omega)), fun _ => ⟨fun d => absurd d (nle_of hN hi2 (by omega)), fun _ => ⟨eI.vp (by omega), ?_⟩⟩⟩
          have hoi : -9 ≤ (mem 88 (40 * k + i)).toInt ∧ (mem 88 (40 * k + i)).toInt ≤ 9 := hok i hi
          rw [isPush10, if_pos hoi]
          refine ⟨fun d => absurd d (by decide), fun _ => ⟨eI.vp (by omega), ?_⟩⟩
          rw [q2 88 (by omega), f88]
          refine pushed10 hi2 (by omega) _ ?_
          rintro v11 rfl
          have e3 : m2 77 (10 + 5 * i + 3) = gd (mem 77) i 3 := by rw [q4 i 3 (by decide), if_neg (by omega)]; rfl
          rw [e3]
          refine hX _ ⟨on_1 i, fun q hq => ?_, fun x hx => ?_, fun g j hj => ?_⟩
          · show up2 m2 77 _ _ q = _
            rw [up2_ro _ _ _ _ _ hq, q2 q hq]
          · show up2 m2 77 _ _ 77 x = _
            rw [u77o _ _ _ _ (by omega), q3 x hx]
          · show up2 m2 77 _ _ 77 _ = _
            rw [uq]
            by_cases e : g = i ∧ j = 3
            · obtain ⟨rfl, rfl⟩ := e
              rw [if_pos rfl, if_pos ⟨by omega, rfl⟩]; rfl
            · rw [if_neg (by omega), q4 g j hj]
              by_cases e4 : g < i ∧ j = 3
              · rw [if_pos e4, if_pos ⟨by omega, e4.2⟩]
              · rw [if_neg e4, if_neg (by omega)]
        · rintro ⟨x, m2⟩ X ⟨q1, q2, q3, q4⟩
          dsimp only at q1 q2 q3 q4 ⊢
          subst q1
          have hi2 : TI (Int32.ofNat K) K := on_ti (by omega)
          have hI : Inv n m2 := by
            refine Inv_c h (fun q h1 h2 h3 => by rw [q2 q h1, hfr q (by omega)]) (by rw [q2 76 (by omega), hfr 76 (by omega)]; exact ⟨rfl, rfl, rfl⟩) ?_ (fun i h1 h2 h3 h4 => q3 i h3) (MEM_congr h.mem (by rw [q2 21 (by omega), hfr 21 (by omega)]) fun _ _ => rfl)
            refine IC_all h.1 (X := fun g j => if g < K ∧ j = 3 then hld (gd (mem 77) g 3 + itm mem k g) (-9) 9 else mem 77 (10 + 5 * g + j)) ?_ (fun j _ _ => by rw [q2 1 (by omega), hfr 1 (by omega)]) ⟨q3 0 (by omega), q3 1 (by omega), q3 6 (by omega)⟩ ?_ (fun g hg j hj => q4 g j hj)
            · intro g hg
              obtain ⟨w0, w1, w2, w3, w4⟩ := h.gw hg
              unfold GW
              dsimp only
              refine ⟨by rw [if_neg (by omega)]; exact w0, by rw [if_neg (by omega)]; exact w1, by rw [if_neg (by omega)]; exact w2, ?_, by rw [if_neg (by omega)]; exact w4⟩
              split
              · exact hld9 _
              · exact w3
            · intro g hg j hj
              rw [q2 _ (by omega), hrow g (by omega)]
              by_cases e : g < K
              · rw [if_pos e, upd_at]
                by_cases e4 : j = 3
                · rw [if_pos e4, if_pos ⟨e, e4⟩]
                · rw [if_neg e4, if_neg (by omega), h.row hg hj]; rfl
              · rw [if_neg e, if_neg (by omega), h.row hg hj]; rfl
          have eI : TI (((40 : Int32) * a) + Int32.ofNat K) (40 * k + K) := TI.add (TI.mul (rfl : TI 40 40) hk (by omega)) hi2 (by omega)
          rw [tn_of hk, q2 87 (by omega), f87, q3 6 (by omega)]
          refine ⟨va, fun _ => ⟨rfl, hI⟩, fun d => ⟨fun _ => ⟨rfl, hI⟩, fun e => ⟨eI.vp ?_, ?_⟩⟩⟩
          · have := g4.2; omega
          · rw [eI.tn, q2 88 (by omega), f88, isPush10]
            have hKlt : K < min L N := by
              have d1 : K < L := by
                rcases Nat.lt_or_ge K L with z | z
                · exact z
                · exact absurd (le_of hL hi2 z) d
              have d2 : K < N := by
                rcases Nat.lt_or_ge K N with z | z
                · exact z
                · exact absurd (le_of hN hi2 z) e
              omega
            have hno : ¬ ok9 (itm mem k K) := hend.resolve_left (by omega)
            rw [if_neg (show ¬ (-9 ≤ (mem 88 (40 * k + K)).toInt ∧ (mem 88 (40 * k + K)).toInt ≤ 9) from hno)]
            exact ⟨fun _ => ⟨rfl, hI⟩, fun d => absurd rfl d⟩
      unfold B_X9_pushes_51
      refine LOOP_up (min L N) (fun i z => z.1 = Int32.ofNat i ∧ (∀ q, q < i → ok9 (itm mem k q)) ∧ (∀ q, (q < 3 ∨ 10 < q) → z.2 q = mem q) ∧ ∀ g, g < 8 → z.2 (3 + g) = if g < i then upd (mem (3 + g)) 3 (hld (gd (mem 77) g 3 + itm mem k g) (-9) 9) else mem (3 + g)) ⟨rfl, fun q hq => absurd hq (by omega), fun _ _ => rfl, fun g _ => by rw [if_neg (by omega)]⟩ ?_ ?_
      · rintro i ⟨x, m⟩ X hi ⟨q1, q2, q3, q4⟩ hX
        dsimp only at q1 q2 q3 q4 hX ⊢
        subst q1
        have hi2 : TI (Int32.ofNat i) i := on_ti (by omega)
        rw [hi2.tn, q3 _ (by omega), g5 i (by omega), row3]
        refine ⟨fun d => absurd d (nle_of hmn hi2 hi), fun _ => ⟨hi2.vp (by omega), ?_⟩⟩
        rw [isPush9]
        by_cases c : ok9 (itm mem k i)
        · rw [if_pos (show (-9 ≤ (mem 88 (40 * k + i)).toInt ∧ (mem 88 (40 * k + i)).toInt ≤ 9) from c)]
          refine ⟨fun _ => ⟨hi2.vp (by omega), hi2.vp (by omega), ?_⟩, fun d => absurd d (by decide)⟩
          rw [q3 (68 + 2 * k + 1) (by omega), g5 i (by omega)]
          refine shove9 _ ?_
          rintro v9 rfl
          have e3 : m (3 + i) 3 = gd (mem 77) i 3 := by rw [q4 i (by omega), if_neg (by omega)]; exact h.row (by omega) (by decide)
          rw [e3]
          refine hX _ ⟨on_1 i, dec3 i q2 c, fun q hq => ?_, fun g hg => ?_⟩
          · show up2 m _ _ _ q = _
            rw [up2_ro _ _ _ _ _ (by omega), q3 q hq]
          · show up2 m _ _ _ (3 + g) = _
            by_cases e : g = i
            · subst e
              rw [up2_row, q4 g hg, if_neg (by omega), if_pos (by omega)]; rfl
            · rw [up2_ro _ _ _ _ _ (by omega), q4 g hg]
              by_cases e4 : g < i
              · rw [if_pos e4, if_pos (by omega)]
              · rw [if_neg e4, if_neg (by omega)]
        · rw [if_neg (show ¬ (-9 ≤ (mem 88 (40 * k + i)).toInt ∧ (mem 88 (40 * k + i)).toInt ≤ 9) from c)]
          exact ⟨fun d => absurd rfl d, fun _ => fin i m (by omega) q2 (Or.inr c) q3 q4⟩
      · rintro ⟨x, m⟩ X ⟨q1, q2, q3, q4⟩
        dsimp only at q1 q2 q3 q4 ⊢
        subst q1
        refine ⟨fun _ => ?_, fun d => absurd (le_of hmn (on_ti (by omega)) (Nat.le_refl _)) d⟩
        have := fin (min L N) m (Nat.le_refl _) q2 (Or.inl rfl) q3 q4
        rwa [on_of hmn] at this
  · simp only [L_X9_pushes, isSheet9, if_neg c1, e10, not_false_eq_true, not_true_eq_false, false_implies, forall_const, true_and, and_true, eq_self, imp_self, true_implies]
    refine err_end h (by decide) (R := fun Q m => L_X10_pushes a m Q) fun m Q hm he => ?_
    simp only [L_X10_pushes, L_X10_noSheet, isSheet10, if_neg c1, e10, not_false_eq_true, not_true_eq_false, false_implies, forall_const, true_and, and_true, eq_self, imp_self, true_implies]
    rw [err10 (by decide)] at he ⊢
    exact ⟨fun d => absurd d (by decide), fun _ => he⟩
theorem k_judge {n : Nat} {a : Int32} {mem : MMt} (h : Inv n mem) : L_X9_judge a mem (fun r m => L_X10_judge a m (fun r' m' => r = r' ∧ Inv n m')) := by
  by_cases c1 : 0 ≤ a.toInt ∧ a.toInt ≤ 3
  · obtain ⟨k, hk⟩ : ∃ k : Nat, a.toInt = k := ⟨a.toInt.toNat, by omega⟩
    have hk4 : k < 4 := by omega
    obtain ⟨g1, g2, g3, g4, g5⟩ := h.sh hk4
    have va := vp_of hk hk4
    obtain ⟨e1, e2⟩ := h.n9
    obtain ⟨N, hN⟩ : ∃ N : Nat, (mem 77 6).toInt = N := ⟨(mem 77 6).toInt.toNat, by omega⟩
    obtain ⟨L, hL⟩ : ∃ L : Nat, (mem 87 k).toInt = L := ⟨(mem 87 k).toInt.toNat, by omega⟩
    by_cases c2 : mem 86 k = 0
    · simp only [L_X9_judge, isSheet9, if_pos c1, e10, not_false_eq_true, not_true_eq_false, false_implies, forall_const, true_and, and_true, eq_self, imp_self, true_implies, tn_of hk, miss9, g1, if_pos c2, va]
      refine err_end h (by decide) (R := fun Q m => L_X10_judge a m Q) fun m Q hm he => ?_
      simp only [L_X10_judge, L_X10_noSheet, isSheet10, if_pos c1, e10, not_false_eq_true, not_true_eq_false, false_implies, forall_const, true_and, and_true, eq_self, imp_self, true_implies, tn_of hk, va, hm 86 (by decide), c2]
      rw [err10 (by decide)] at he ⊢
      exact ⟨fun d => absurd d (by decide), fun _ => he⟩
    · simp only [L_X9_judge, isSheet9, if_pos c1, e10, not_false_eq_true, not_true_eq_false, false_implies, forall_const, true_and, and_true, eq_self, imp_self, true_implies, tn_of hk, miss9, g1, if_neg c2, va, min_sp, g3, e1]
      have hmn := min_ti hL hN
      generalize (if mem 77 6 < mem 87 k then mem 77 6 else mem 87 k) = mn at hmn ⊢
      have fin : ∀ (K : Nat) (r : Int32), K ≤ min L N → (∀ q, q < K → itm mem k q = gd (mem 77) q 2) → (K = min L N ∨ ¬ itm mem k K = gd (mem 77) K 2) → (r = if K = L ∧ K = N then -1 else Int32.ofNat K) → L_X10_judge a mem (fun r' m' => r = r' ∧ Inv n m') := by
        intro K r hK hok hend hr
        simp only [L_X10_judge, L_X10_noSheet, isSheet10, if_pos c1, e10, not_false_eq_true, not_true_eq_false, false_implies, forall_const, true_and, and_true, eq_self, imp_self, true_implies, tn_of hk, va, c2]
        have hK2 : TI (Int32.ofNat K) K := on_ti (by omega)
        have X61 : B_X10_judge_61 a (Int32.ofNat K) mem (fun r' m' => r = r' ∧ Inv n m') := by
          refine ⟨va, ?_⟩
          rw [tn_of hk]
          have i1 : Int32.ofNat K = mem 87 k ↔ K = L := ⟨fun e => by have := congrArg Int32.toInt e; rw [show (Int32.ofNat K).toInt = K from hK2, hL] at this; omega, fun e => by subst e; exact on_of hL⟩
          have i2 : Int32.ofNat K = mem 77 6 ↔ K = N := ⟨fun e => by have := congrArg Int32.toInt e; rw [show (Int32.ofNat K).toInt = K from hK2, hN] at this; omega, fun e => by subst e; exact on_of hN⟩
          rw [i1, i2]
          refine ⟨fun d => ⟨by rw [hr, if_neg (fun z => d z.1)], h⟩, fun d => ⟨fun e => ⟨by rw [hr, if_neg (fun z => e z.2)], h⟩, fun e => ⟨by rw [hr, if_pos ⟨d, e⟩], h⟩⟩⟩
        unfold B_X10_judge_14
        refine LOOP_up K (fun i z => z.1 = Int32.ofNat i ∧ z.2 = mem) ⟨rfl, rfl⟩ ?_ ?_
        · rintro i ⟨x, m2⟩ X hi ⟨q1, q2⟩ hX
          dsimp only at q1 q2 hX ⊢
          subst q1; subst q2
          have hi2 : TI (Int32.ofNat i) i := on_ti (by omega)
          have eI : TI (((40 : Int32) * a) + Int32.ofNat i) (40 * k + i) := TI.add (TI.mul (rfl : TI 40 40) hk (by omega)) hi2 (by omega)
          rw [tn_of hk, eI.tn]
          refine ⟨va, fun d => absurd d (nle_of hL hi2 (by omega)), fun _ => ⟨fun d => absurd d (nle_of hN hi2 (by omega)), fun _ => ⟨eI.vp (by omega), ?_⟩⟩⟩
          refine of10 (j := 2) hi2 (by omega) rfl (by decide) _ _ ⟨fun d => absurd (hok i hi) d, fun _ => ?_⟩
          rintro v8 rfl
          exact hX _ ⟨on_1 i, rfl⟩
        · rintro ⟨x, m2⟩ X ⟨q1, q2⟩
          dsimp only at q1 q2 ⊢
          subst q1; subst q2
          have eI : TI (((40 : Int32) * a) + Int32.ofNat K) (40 * k + K) := TI.add (TI.mul (rfl : TI 40 40) hk (by omega)) hK2 (by omega)
          rw [tn_of hk]
          refine ⟨va, fun _ => X61, fun d => ⟨fun _ => X61, fun e => ⟨eI.vp ?_, ?_⟩⟩⟩
          · have := g4.2; omega
          · have d1 : K < L := by
              rcases Nat.lt_or_ge K L with z | z
              · exact z
              · exact absurd (le_of hL hK2 z) d
            have d2 : K < N := by
              rcases Nat.lt_or_ge K N with z | z
              · exact z
              · exact absurd (le_of hN hK2 z) e
            have hno := hend.resolve_left (by omega)
            rw [eI.tn]
            exact of10 (j := 2) hK2 (by omega) rfl (by decide) _ _ ⟨fun _ => X61, fun z => absurd z hno⟩
      unfold B_X9_judge_51
      refine LOOP_up (min L N) (fun i z => z.1 = Int32.ofNat i ∧ (∀ q, q < i → itm mem k q = gd (mem 77) q 2) ∧ z.2 = mem) ⟨rfl, fun q hq => absurd hq (by omega), rfl⟩ ?_ ?_
      · rintro i ⟨x, m⟩ X hi ⟨q1, q2, q3⟩ hX
        dsimp only at q1 q2 q3 hX ⊢
        subst q1; subst q3
        have hi2 : TI (Int32.ofNat i) i := on_ti (by omega)
        rw [hi2.tn, g5 i (by omega), row3, h.row (by omega) (by decide)]
        refine ⟨fun d => absurd d (nle_of hmn hi2 hi), fun _ => ⟨hi2.vp (by omega), hi2.vp (by omega), fun c => ?_, fun c => ?_⟩⟩
        · rintro v6 rfl
          exact hX _ ⟨on_1 i, dec3 i q2 c, rfl⟩
        · exact fin i _ (by omega) q2 (Or.inr c) (by rw [if_neg (by omega)])
      · rintro ⟨x, m⟩ X ⟨q1, q2, q3⟩
        dsimp only at q1 q2 q3 ⊢
        subst q1; subst q3
        refine ⟨fun _ => ?_, fun d => absurd (le_of hmn (on_ti (by omega)) (Nat.le_refl _)) d⟩
        rw [g3, e1]
        have i1 : m 87 k = m 77 6 ↔ L = N := ⟨fun e => by have := congrArg Int32.toInt e; omega, fun e => by rw [eq_ti, hL, hN, e]⟩
        rw [i1]
        refine ⟨fun d => fin (min L N) _ (Nat.le_refl _) q2 (Or.inl rfl) ?_, fun d => fin (min L N) _ (Nat.le_refl _) q2 (Or.inl rfl) ?_⟩
        · rw [if_neg (by omega), on_of hmn]
        · rw [if_pos (by omega)]
  · simp only [L_X9_judge, isSheet9, if_neg c1, e10, not_false_eq_true, not_true_eq_false, false_implies, forall_const, true_and, and_true, eq_self, imp_self, true_implies]
    refine err_end h (by decide) (R := fun Q m => L_X10_judge a m Q) fun m Q hm he => ?_
    simp only [L_X10_judge, L_X10_noSheet, isSheet10, if_neg c1, e10, not_false_eq_true, not_true_eq_false, false_implies, forall_const, true_and, and_true, eq_self, imp_self, true_implies]
    rw [err10 (by decide)] at he ⊢
    exact ⟨fun d => absurd d (by decide), fun _ => he⟩
