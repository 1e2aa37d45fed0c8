/-- the place of a DOOR -/
def dpl (ring v : Int32) : Int32 := if 0 ≤ v - v / ring * ring then v - v / ring * ring else v - v / ring * ring + ring
theorem floorMod9 {v ring : Int32} (hr : 0 < ring.toInt) (mem : MMt) (Q : Int32 → MMt → Prop) (h : Q (dpl ring v) mem) : L_J9_floorMod_7cf53 v ring mem Q := by
  have hg := rm_rg (a := v) hr
  unfold dpl at h
  refine ⟨fun c => ?_, ?_⟩
  · rw [c] at hr; exact absurd hr (by decide)
  · rintro v1 rfl
    have ge : (0 ≤ v - v / ring * ring) ↔ 0 ≤ (v - v / ring * ring).toInt := by rw [Int32.le_iff_toInt_le]; simp only [Int32.reduceToInt]
    refine ⟨fun c => ?_, fun c => ?_⟩
    · rw [xor_sg _ _ hr] at c
      rwa [if_pos (ge.mpr (hg.1 c).1)] at h
    · rw [xor_sg _ _ hr] at c
      have h2 := hg.2 (by omega)
      refine ⟨fun d => ?_, fun d => ?_⟩
      · rwa [if_pos (ge.mpr (by rw [d]; decide))] at h
      · rwa [if_neg (fun q => d (by rw [eq_ti]; have := ge.mp q; simp only [Int32.reduceToInt]; omega))] at h
def dpo (s : Nat → Int32) (side : Nat) (i t : Int32) : Int32 := dpl (s 2) (i + s (3 + side) * t)
theorem doorPlace9 {n : Nat} {mem : MMt} (h : Inv n mem) {a : Int32} {sd : Nat} (ha : a.toInt = sd) (hs : sd < 2) (i t : Int32) (Q : Int32 → MMt → Prop) (hQ : Q (dpo (mem 77) sd i t) mem) : L_X5_doorPlace a i t mem Q := by
  obtain ⟨⟨⟨a1, a2, a3, a4, a5, a6⟩, -⟩, w1, -⟩ := h.2.1
  refine ⟨vp_of ha hs, ?_⟩
  rw [tn_of ha, a1]
  refine floorMod9 (by omega) _ _ ?_
  have : mem 12 sd = mem 77 (3 + sd) := by
    have : sd = 0 ∨ sd = 1 := by omega
    rcases this with rfl | rfl
    · exact a2
    · exact a3
  rw [this]
  exact hQ
theorem stands10 {mem : MMt} (hr : 0 < (mem 77 2).toInt) {a : Int32} {sd : Nat} (ha : a.toInt = sd) (hs : sd < 2) (i t : Int32) (Q : Int32 → MMt → Prop) (hQ : Q (dpo (mem 77) sd i t) mem) : L_X10_stands a i t mem Q := by
  have e : ((3 : Int32) + a).toInt = (3 + sd : Nat) := by rw [ad_ti, ha]; simp only [Int32.reduceToInt]; omega
  refine ⟨vp_of e (by omega), fun c => ?_, ?_⟩
  · rw [c] at hr; exact absurd hr (by decide)
  · rw [tn_of e]
    unfold dpo dpl at hQ
    rintro v2 rfl
    refine ⟨fun c => ?_, fun c => ?_⟩
    · rwa [if_pos c] at hQ
    · rwa [if_neg c] at hQ
theorem isDoor9 {n : Nat} {mem : MMt} (h : Inv n mem) (a : Int32) (Q : Int32 → MMt → Prop) : L_X9_isDoor a mem Q ↔ if 0 ≤ a.toInt ∧ a.toInt < (mem 77 2).toInt then Q 1 mem else Q 0 mem := by
  obtain ⟨⟨⟨a1, a2, a3, a4, a5, a6⟩, -⟩, w1, -⟩ := h.2.1
  unfold L_X9_isDoor
  rw [within_sp, a1]
  have e : ((mem 77 2) - (1 : Int32)).toInt = (mem 77 2).toInt - 1 := by rw [sb_ti]; simp only [Int32.reduceToInt]; omega
  rw [e]
  simp only [Int32.reduceToInt]
  have e2 : (0 ≤ a.toInt ∧ a.toInt ≤ (mem 77 2).toInt - 1) ↔ (0 ≤ a.toInt ∧ a.toInt < (mem 77 2).toInt) := by omega
  simp only [e2]
theorem isDoor10 {n : Nat} {mem : MMt} (h : Inv n mem) (a : Int32) {m : MMt} (hm : m 77 2 = mem 77 2) (Q : Int32 → MMt → Prop) : L_X10_isDoor a m Q ↔ if 0 ≤ a.toInt ∧ a.toInt < (mem 77 2).toInt then Q 1 m else Q 0 m := by
  obtain ⟨-, w1, -⟩ := h.2.1
  unfold L_X10_isDoor
  rw [isIn_sp, hm]
  have e : ((mem 77 2) - (1 : Int32)).toInt64.toInt = (mem 77 2).toInt - 1 := by rw [Int32.toInt_toInt64, sb_ti]; simp only [Int32.reduceToInt]; omega
  rw [e]
  simp only [Int64.reduceToInt]
  have e2 : (0 ≤ a.toInt ∧ a.toInt ≤ (mem 77 2).toInt - 1) ↔ (0 ≤ a.toInt ∧ a.toInt < (mem 77 2).toInt) := by omega
  simp only [e2]
theorem k_door {n : Nat} {a b : Int32} {mem : MMt} (h : Inv n mem) : L_X9_door a b mem (fun r m => L_X10_door a b m (fun r' m' => r = r' ∧ Inv n m')) := by
  have hr : 0 < (mem 77 2).toInt := by have := h.2.1.2.1.1; omega
  by_cases c1 : 0 ≤ a.toInt ∧ a.toInt ≤ 1
  · obtain ⟨sd, hsd⟩ : ∃ sd : Nat, a.toInt = sd := ⟨a.toInt.toNat, by omega⟩
    by_cases c2 : 0 ≤ b.toInt ∧ b.toInt < (mem 77 2).toInt
    · simp only [L_X9_door, L_X9_isSide, within_sp, isDoor9 h, Int32.reduceToInt, if_pos c1, if_pos c2, e10, not_false_eq_true, not_true_eq_false, false_implies, forall_const, true_and, and_true, eq_self, imp_self, true_implies]
      refine doorPlace9 h hsd (by omega) _ _ _ ?_
      simp only [L_X10_door, L_X10_isSide, isIn_sp, isDoor10 h b (m := mem) rfl, Int64.reduceToInt, if_pos c1, if_pos c2, e10, not_false_eq_true, not_true_eq_false, false_implies, forall_const, true_and, and_true, eq_self, imp_self, true_implies]
      refine stands10 hr hsd (by omega) _ _ _ ⟨?_, h⟩
      rw [h.1.1.2.1]
    · simp only [L_X9_door, L_X9_isSide, within_sp, isDoor9 h, Int32.reduceToInt, if_pos c1, if_neg c2, e10, not_false_eq_true, not_true_eq_false, false_implies, forall_const, true_and, and_true, eq_self, imp_self, true_implies]
      refine err_end h (by decide) (R := fun Q m => L_X10_door a b m Q) fun m Q hm he => ?_
      simp only [L_X10_door, L_X10_isSide, isIn_sp, isDoor10 h b (m := m) (by rw [hm 77 (by decide)]), Int64.reduceToInt, if_pos c1, if_neg c2, e10, not_false_eq_true, not_true_eq_false, false_implies, forall_const, true_and, and_true, eq_self, imp_self, true_implies]
      exact he
  · simp only [L_X9_door, L_X9_isSide, within_sp, Int32.reduceToInt, if_neg c1, e10, not_false_eq_true, not_true_eq_false, false_implies, forall_const, true_and, and_true, eq_self, imp_self, true_implies]
    refine err_end h (by decide) (R := fun Q m => L_X10_door a b m Q) fun m Q hm he => ?_
    simp only [L_X10_door, L_X10_isSide, isIn_sp, Int64.reduceToInt, if_neg c1, e10, not_false_eq_true, not_true_eq_false, false_implies, forall_const, true_and, and_true, eq_self, imp_self, true_implies]
    exact he
/-- DOORS i and j are at one place behind k STEPS -/
def LUp (s : Nat → Int32) (i j : Int32) (k : Nat) : Prop := dpo s 0 i (s 0 + Int32.ofNat k) = dpo s 1 j (s 0 + Int32.ofNat k)
theorem on_1 (k : Nat) : Int32.ofNat k + 1 = Int32.ofNat (k + 1) := by
  rw [Int32.ofNat_add]; rfl
theorem lineUp9 {n : Nat} {mem : MMt} (h : Inv n mem) (i j : Int32) (Q : Int32 → MMt → Prop) (h1 : ∀ K : Nat, (K : Int) < (mem 77 2).toInt → (∀ k, k < K → ¬ LUp (mem 77) i j k) → LUp (mem 77) i j K → Q (Int32.ofNat K) mem)
    (h0 : (∀ k : Nat, (k : Int) < (mem 77 2).toInt → ¬ LUp (mem 77) i j k) → L_X9_error 2 mem Q) : B_X9_lineUp_24 i j 0 mem Q := by
  have a1 : mem 11 0 = mem 77 2 := h.2.1.1.1.1
  have w := h.2.1.2.1
  obtain ⟨R, hR⟩ : ∃ R : Nat, (mem 77 2).toInt = R := ⟨(mem 77 2).toInt.toNat, by omega⟩
  unfold B_X9_lineUp_24
  refine LOOP_up R (fun k z => z.1 = Int32.ofNat k ∧ z.2 = mem ∧ ∀ q, q < k → ¬ LUp (mem 77) i j q) ⟨rfl, rfl, fun q hq => absurd hq (by omega)⟩ ?_ ?_
  · rintro k ⟨x, m⟩ X hk ⟨e1, e2, hq⟩ hX
    dsimp only at e1 e2 hX hq ⊢
    subst e1; subst e2
    refine ⟨fun c => absurd c (by rw [Int32.le_iff_toInt_le, on_ti (by omega), a1]; omega), fun _ => ?_⟩
    rintro v4 rfl
    refine doorPlace9 h (sd := 0) rfl (by decide) _ _ _ (doorPlace9 h (sd := 1) rfl (by decide) _ _ _ ?_)
    rw [h.1.1.2.1]
    refine ⟨fun c => ?_, fun c => h1 k (by omega) hq c⟩
    rintro v rfl
    refine hX _ ⟨on_1 k, rfl, fun q hq2 => ?_⟩
    by_cases e : q = k
    · subst e; exact c
    · exact hq q (by omega)
  · rintro ⟨x, m⟩ X ⟨e1, e2, hq⟩
    dsimp only at e1 e2 hq ⊢
    subst e1; subst e2
    refine ⟨fun c => h0 fun k hk => hq k (by omega), fun c => absurd ?_ c⟩
    rw [Int32.le_iff_toInt_le, on_ti (by omega), a1]; omega
theorem lineUp10 {mem : MMt} (w : 2 ≤ (mem 77 2).toInt ∧ (mem 77 2).toInt ≤ 24) (i j : Int32) (Q : Int32 → MMt → Prop) (h1 : ∀ K : Nat, (K : Int) < (mem 77 2).toInt → (∀ k, k < K → ¬ LUp (mem 77) i j k) → LUp (mem 77) i j K → Q (Int32.ofNat K) mem)
    (h0 : (∀ k : Nat, (k : Int) < (mem 77 2).toInt → ¬ LUp (mem 77) i j k) → L_X10_error 2 mem Q) : B_X10_lineUp_24 i j 0 mem Q := by
  obtain ⟨R, hR⟩ : ∃ R : Nat, (mem 77 2).toInt = R := ⟨(mem 77 2).toInt.toNat, by omega⟩
  unfold B_X10_lineUp_24
  refine LOOP_up R (fun k z => z.1 = Int32.ofNat k ∧ z.2 = mem ∧ ∀ q, q < k → ¬ LUp (mem 77) i j q) ⟨rfl, rfl, fun q hq => absurd hq (by omega)⟩ ?_ ?_
  · rintro k ⟨x, m⟩ X hk ⟨e1, e2, hq⟩ hX
    dsimp only at e1 e2 hX hq ⊢
    subst e1; subst e2
    refine ⟨fun c => absurd c (by rw [Int32.le_iff_toInt_le, on_ti (by omega)]; omega), fun _ => ?_⟩
    refine stands10 (by omega) (sd := 0) rfl (by decide) _ _ _ (stands10 (by omega) (sd := 1) rfl (by decide) _ _ _ ?_)
    refine ⟨fun c => ?_, fun c => h1 k (by omega) hq c⟩
    rintro v rfl
    refine hX _ ⟨on_1 k, rfl, fun q hq2 => ?_⟩
    by_cases e : q = k
    · subst e; exact c
    · exact hq q (by omega)
  · rintro ⟨x, m⟩ X ⟨e1, e2, hq⟩
    dsimp only at e1 e2 hq ⊢
    subst e1; subst e2
    refine ⟨fun c => h0 fun k hk => hq k (by omega), fun c => absurd ?_ c⟩
    rw [Int32.le_iff_toInt_le, on_ti (by omega)]; omega
/-- the first is one -/
theorem first_eq {P : Nat → Prop} {a b : Nat} (ha : ∀ k, k < a → ¬ P k) (hPa : P a) (hb : ∀ k, k < b → ¬ P k) (hPb : P b) : a = b := by
  rcases Nat.lt_trichotomy a b with q | q | q
  · exact absurd hPa (hb a q)
  · exact q
  · exact absurd hPb (ha b q)
theorem k_lineUp {n : Nat} {a b : Int32} {mem : MMt} (h : Inv n mem) : L_X9_lineUp a b mem (fun r m => L_X10_lineUp a b m (fun r' m' => r = r' ∧ Inv n m')) := by
  have w := h.2.1.2.1
  by_cases c1 : 0 ≤ a.toInt ∧ a.toInt < (mem 77 2).toInt
  · by_cases c2 : 0 ≤ b.toInt ∧ b.toInt < (mem 77 2).toInt
    · simp only [L_X9_lineUp, isDoor9 h, if_pos c1, if_pos c2, e10, not_false_eq_true, not_true_eq_false, false_implies, forall_const, true_and, and_true, eq_self, imp_self, true_implies]
      refine lineUp9 h _ _ _ (fun K hK k1 k2 => ?_) (fun k1 => ?_)
      · simp only [L_X10_lineUp, isDoor10 h a (m := mem) rfl, isDoor10 h b (m := mem) rfl, if_pos c1, if_pos c2, e10, not_false_eq_true, not_true_eq_false, false_implies, forall_const, true_and, and_true, eq_self, imp_self, true_implies]
        exact lineUp10 w _ _ _ (fun K' hK' k3 k4 => ⟨by rw [first_eq k1 k2 k3 k4], h⟩) (fun k3 => absurd k2 (k3 K hK))
      · refine err_end h (by decide) (R := fun Q m => L_X10_lineUp a b m Q) fun m Q hm he => ?_
        have f1 : m 77 = mem 77 := hm 77 (by decide)
        simp only [L_X10_lineUp, isDoor10 h a (m := m) (by rw [f1]), isDoor10 h b (m := m) (by rw [f1]), if_pos c1, if_pos c2, e10, not_false_eq_true, not_true_eq_false, false_implies, forall_const, true_and, and_true, eq_self, imp_self, true_implies]
        refine lineUp10 (by rw [f1]; exact w) _ _ _ (fun K' hK' k3 k4 => absurd k4 ?_) (fun _ => he)
        rw [f1] at hK' ⊢
        exact k1 K' hK'
    · simp only [L_X9_lineUp, isDoor9 h, if_pos c1, if_neg c2, e10, not_false_eq_true, not_true_eq_false, false_implies, forall_const, true_and, and_true, eq_self, imp_self, true_implies]
      refine err_end h (by decide) (R := fun Q m => L_X10_lineUp a b m Q) fun m Q hm he => ?_
      have f1 : m 77 = mem 77 := hm 77 (by decide)
      simp only [L_X10_lineUp, isDoor10 h a (m := m) (by rw [f1]), isDoor10 h b (m := m) (by rw [f1]), if_pos c1, if_neg c2, e10, not_false_eq_true, not_true_eq_false, false_implies, forall_const, true_and, and_true, eq_self, imp_self, true_implies]
      exact he
  · simp only [L_X9_lineUp, isDoor9 h, if_neg c1, e10, not_false_eq_true, not_true_eq_false, false_implies, forall_const, true_and, and_true, eq_self, imp_self, true_implies]
    refine err_end h (by decide) (R := fun Q m => L_X10_lineUp a b m Q) fun m Q hm he => ?_
    simp only [L_X10_lineUp, isDoor10 h a (m := m) (by rw [hm 77 (by decide)]), if_neg c1, e10, not_false_eq_true, not_true_eq_false, false_implies, forall_const, true_and, and_true, eq_self, imp_self, true_implies]
    exact he
/-- tape and numbers that wait -/
theorem Inv_w {n : Nat} {mem m' : MMt} (h : Inv n mem) (hr : ∀ q, q ≠ 11 → q ≠ 13 → q ≠ 14 → q ≠ 77 → m' q = mem q) (h11 : ∀ j, j ≠ 4 → j ≠ 6 → m' 11 j = mem 11 j) (e7 : m' 11 4 = m' 77 7) (e8 : m' 11 6 = m' 77 8) (w7 : 0 ≤ (m' 77 7).toInt ∧ (m' 77 7).toInt ≤ 50) (w8 : 0 ≤ (m' 77 8).toInt ∧ (m' 77 8).toInt ≤ 20)
    (ht : ∀ i : Nat, (i : Int) < (m' 77 7).toInt → m' 77 (50 + i) = m' 13 i &&& 255) (hb : ∀ i, i < 50 → -128 ≤ (m' 13 i).toInt ∧ (m' 13 i).toInt ≤ 127) (hw : ∀ i : Nat, (i : Int) < (m' 77 8).toInt → m' 14 i = m' 77 (100 + i))
    (hs : ∀ i, i ≠ 7 → i ≠ 8 → (i < 50 ∨ 120 ≤ i) → m' 77 i = mem 77 i) : Inv n m' := by
  obtain ⟨⟨⟨a1, a2, a3, a4, a5, a6⟩, b1, b2, b3, b4, b5⟩, w1, w2, w3, w4⟩ := h.2.1
  refine Inv_ct h (fun q h1 h2 h3 => hr q (by omega) (by omega) (by omega) h1) (by rw [hr 76 (by decide) (by decide) (by decide) (by decide)]; exact ⟨rfl, rfl, rfl⟩) ?_ ?_ (fun i i1 _ => hs i (by omega) (by omega) (by omega)) (MEM_congr h.mem (hr 21 (by decide) (by decide) (by decide) (by decide)) fun _ _ => rfl)
  · obtain ⟨⟨a1, a2, a3, a4⟩, b⟩ := h.1
    have r1 := hr 1 (by decide) (by decide) (by decide) (by decide)
    have s6 := hs 6 (by decide) (by decide) (by decide)
    refine ⟨⟨by rw [r1, s6]; exact a1, by rw [r1, hs 0 (by decide) (by decide) (by decide)]; exact a2, by rw [r1, hs 1 (by decide) (by decide) (by decide)]; exact a3, ?_⟩, ⟨by rw [s6]; exact b.1, fun g hg => ?_⟩⟩
    · intro g hg j hj
      rw [s6] at hg
      have := b.1.2
      rw [hr _ (by omega) (by omega) (by omega) (by omega)]
      unfold gd
      rw [hs _ (by omega) (by omega) (by omega)]
      exact a4 g hg j hj
    · rw [s6] at hg
      have := b.1.2
      exact GW_ext (fun j hj => (hs _ (by omega) (by omega) (by omega)).symm) (b.2 g hg)
  · have r12 := hr 12 (by decide) (by decide) (by decide) (by decide)
    refine ⟨⟨⟨?_, ?_, ?_, ?_, e7, e8⟩, ht, hb, hw, ?_, ?_⟩, ?_, w7, w8, ?_, ?_⟩
    · rw [h11 0 (by decide) (by decide), hs 2 (by decide) (by decide) (by decide)]; exact a1
    · rw [r12, hs 3 (by decide) (by decide) (by decide)]; exact a2
    · rw [r12, hs 4 (by decide) (by decide) (by decide)]; exact a3
    · rw [h11 2 (by decide) (by decide), hs 5 (by decide) (by decide) (by decide)]; exact a4
    · exact LWR_congr b4 (fun i h1 h2 => hs i (by omega) (by omega) (by omega)) (by rw [hr 15 (by decide) (by decide) (by decide) (by decide)]) (hr 16 (by decide) (by decide) (by decide) (by decide))
    · exact LWR_congr b5 (fun i h1 h2 => hs i (by omega) (by omega) (by omega)) (by rw [hr 18 (by decide) (by decide) (by decide) (by decide)]) (hr 19 (by decide) (by decide) (by decide) (by decide))
    · rw [hs 2 (by decide) (by decide) (by decide)]; exact w1
    · exact WFL_congr w4.1 fun i a b => hs i (by omega) (by omega) (by omega)
    · exact WFL_congr w4.2 fun i a b => hs i (by omega) (by omega) (by omega)
theorem k_tell {n : Nat} {a : Int32} {mem : MMt} (h : Inv n mem) : L_X9_tell a mem (fun r m => L_X10_tell a m (fun r' m' => r = r' ∧ Inv n m')) := by
  obtain ⟨⟨⟨a1, a2, a3, a4, a5, a6⟩, b1, b2, b3, b4, b5⟩, w1, w2, w3, w4⟩ := h.2.1
  obtain ⟨k, hk⟩ : ∃ k : Nat, (mem 77 8).toInt = k := ⟨(mem 77 8).toInt.toNat, by omega⟩
  have hk20 : k ≤ 20 := by omega
  by_cases c : k = 20
  · have c1 : ¬ mem 77 8 < 20 := by rw [Int32.lt_iff_toInt_lt, hk]; simp only [Int32.reduceToInt]; omega
    have c2 : mem 77 8 = 20 := by rw [eq_ti, hk]; simp only [Int32.reduceToInt]; omega
    unfold L_X9_tell
    rw [a6]
    refine ⟨fun d => absurd d c1, fun _ => ?_⟩
    refine err_end h (by decide) (R := fun Q m => L_X10_tell a m Q) fun m Q hm he => ?_
    unfold L_X10_tell
    rw [hm 77 (by decide)]
    exact ⟨fun d => absurd c2 d, fun _ => he⟩
  · have c1 : mem 77 8 < 20 := by rw [Int32.lt_iff_toInt_lt, hk]; simp only [Int32.reduceToInt]; omega
    have c2 : ¬ mem 77 8 = 20 := by rw [eq_ti, hk]; simp only [Int32.reduceToInt]; omega
    have e : ((100 : Int32) + mem 77 8).toInt = (100 + k : Nat) := by rw [ad_ti, hk]; simp only [Int32.reduceToInt]; omega
    unfold L_X9_tell
    rw [a6, tn_of hk]
    refine ⟨fun _ => ⟨vp_of hk (by omega), ?_⟩, fun d => absurd c1 d⟩
    rintro m2 hm2 m4 hm4
    have f4 : m4 77 = mem 77 := by rw [hm4, up2_ro _ _ _ _ _ (by decide), hm2, up2_ro _ _ _ _ _ (by decide)]
    unfold L_X10_tell
    rw [f4, tn_of e]
    refine ⟨fun _ => ⟨vp_of e (by omega), ?_⟩, fun d => absurd d c2⟩
    rintro m5 hm5 m6 hm6
    have g1 : m6 77 8 = mem 77 8 + 1 := by rw [hm6, up2_eq, hm5, u77o _ _ _ _ (by omega), f4]
    have g2 : m4 11 6 = mem 77 8 + 1 := by rw [hm4, up2_eq, hm2, up2_ro _ _ _ _ _ (by decide), a6]
    have t8 : (m6 77 8).toInt = (k + 1 : Nat) := by rw [g1]; exact ti_p1 hk (by omega)
    have r6 : ∀ q, q ≠ 77 → m6 q = m4 q := fun q hq => by rw [hm6, up2_ro _ _ _ _ _ hq, hm5, up2_ro _ _ _ _ _ hq]
    have s6 : ∀ i, i ≠ 8 → i ≠ 100 + k → m6 77 i = mem 77 i := fun i h1 h2 => by rw [hm6, u77o _ _ _ _ h1, hm5, u77o _ _ _ _ h2, f4]
    have r13 : m6 13 = mem 13 := by rw [r6 13 (by decide), hm4, up2_ro _ _ _ _ _ (by decide), hm2, up2_ro _ _ _ _ _ (by decide)]
    refine ⟨g2.trans g1.symm, Inv_w h (fun q h1 h2 h3 h4 => by rw [r6 q h4, hm4, up2_ro _ _ _ _ _ h1, hm2, up2_ro _ _ _ _ _ h3]) (fun j h1 h2 => ?_) ?_ ?_ ?_ ⟨by omega, by omega⟩ ?_ ?_ ?_ (fun i h1 h2 h3 => s6 i h2 (by omega))⟩
    · rw [r6 11 (by decide), hm4, uq, if_neg h2, hm2, up2_ro _ _ _ _ _ (by decide)]
    · rw [r6 11 (by decide), hm4, uq, if_neg (by decide), hm2, up2_ro _ _ _ _ _ (by decide), s6 7 (by decide) (by omega)]; exact a5
    · rw [r6 11 (by decide), g2, g1]
    · rw [s6 7 (by decide) (by omega)]; exact w2
    · intro i hi
      rw [s6 7 (by decide) (by omega)] at hi
      rw [r13, s6 _ (by omega) (by omega)]; exact b1 i hi
    · rw [r13]; exact b2
    · intro i hi
      rw [t8] at hi
      rw [r6 14 (by decide), hm4, up2_ro _ _ _ _ _ (by decide), hm2, uq]
      by_cases e3 : i = k
      · subst e3
        rw [if_pos rfl, hm6, u77o _ _ _ _ (by omega), hm5, up2_eq]
      · rw [if_neg e3, s6 _ (by omega) (by omega)]
        exact b3 i (by omega)
