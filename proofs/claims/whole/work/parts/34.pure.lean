theorem enc_0 {v : Int32} : encw 0 v = v := rfl
theorem enc_1 {v : Int32} : encw 1 v = 10000 + v := rfl
theorem enc_2 {v : Int32} : encw 2 v = 20000 + v := rfl
theorem enc_3 {v : Int32} : encw 3 v = 20033 := rfl
theorem leaf9 {w a b c r : Int32} (mem : MMt) (Q : Int32 → MMt → Prop) (hr : (w.toInt < 10000 ∧ r = w) ∨ (w.toInt = 10000 ∧ r = a) ∨ (w.toInt = 10001 ∧ r = b) ∨ (w.toInt = 10002 ∧ r = c)) (h0 : 0 ≤ w.toInt) (h : Q r mem) : L_X2_leaf w a b c mem Q := by
  intro v1 e1
  have hv : v1.toInt = w.toInt - 10000 := by
    rw [e1, sb_ti]; simp only [Int32.reduceToInt]; omega
  clear e1
  refine ⟨fun d => ?_, fun d => ?_, fun d => ?_, fun d => ?_, fun d => ?_⟩ <;>
  · simp only [eq_ti, Int32.lt_iff_toInt_lt, Int32.reduceToInt] at d
    rcases hr with ⟨q, rfl⟩ | ⟨q, rfl⟩ | ⟨q, rfl⟩ | ⟨q, rfl⟩
    all_goals first
      | exact h
      | (exfalso; omega)
theorem sgn_rg {v : Int32} (h : sgnc v) : 37 ≤ v.toInt ∧ v.toInt ≤ 124 := by
  rcases h with rfl | rfl | rfl | rfl | rfl | rfl | rfl | rfl | rfl | rfl <;> decide
theorem sgn_20 {v : Int32} : (20000 + v) - 20000 = v := by
  rw [Int32.add_comm, Int32.add_sub_cancel]
theorem worked9 {mem : MMt} {lq o n : Nat} {s : Nat → Int32} {a b c : Int32} (hl2 : (mem lq 2).toInt = n) (hn : 1 ≤ n) (hn50 : n ≤ 50)
    (hw : ∀ k, k < n → mem (lq + 1) k = encw (s (o + 1 + 2 * k)) (s (o + 2 + 2 * k))) {dep : Nat → Nat} (hd : WFD s o n dep) (Q : Int32 → MMt → Prop)
    (h : ∀ m' : MMt, (∀ q, q ≠ lq + 2 → m' q = mem q) → Q ((evs s o (nm3 a b c) n).headD 0) m') : L_X2_worked lq a b c mem Q := by
  unfold L_X2_worked B_X2_worked_6
  refine LOOP_up n (fun k z => z.2.1.toInt = k ∧ z.1.toInt = (evs s o (nm3 a b c) k).length ∧ STK (z.2.2 (lq + 2)) (evs s o (nm3 a b c) k) ∧ ∀ q, q ≠ lq + 2 → z.2.2 q = mem q) ⟨rfl, rfl, trivial, fun _ _ => rfl⟩ ?_ ?_
  · rintro k ⟨x4, x5, m⟩ X hk ⟨e1, e2, e3, e4⟩ hX
    dsimp only at e1 e2 e3 e4 ⊢
    have hl := evs_len (nm := nm3 a b c) hd k (by omega)
    have hst := hd.2.2 k hk
    have hwk := hw k hk
    rw [e4 lq (by omega), e4 (lq + 1) (by omega), tn_of e1, hwk]
    refine ⟨fun c => absurd c (nle_of hl2 e1 hk), fun _ => ⟨vp_of e1 (by omega), ?_⟩⟩
    have hs : evs s o (nm3 a b c) (k + 1) = estp (nm3 a b c) (s (o + 1 + 2 * k)) (s (o + 2 + 2 * k)) (evs s o (nm3 a b c) k) := rfl
    have p1 := ti_p1 e1 (by omega)
    rw [hs] at hX
    clear hs hwk
    revert e2 e3 hl hX hst
    generalize evs s o (nm3 a b c) k = st
    generalize s (o + 1 + 2 * k) = w
    generalize s (o + 2 + 2 * k) = v
    intro e2 e3 hX hl hst
    have hl1 := hl.1
    have hlk := hl.2
    have hk50 : k < 50 := by omega
    have hsl : st.length < 50 := by omega
    clear hl
    have push : ∀ r : Int32, estp (nm3 a b c) w v st = r :: st → vp_in x4 50 ∧ ∀ m8 : MMt, m8 = up2 m (lq + 2) x4.toNatClampNeg r → (∀ v10 : Int32, v10 = x4 + (1 : Int32) → (∀ v11 : Int32, v11 = x5 + (1 : Int32) → X (v10, v11, m8))) := by
      intro r hr
      rw [hr] at hX
      refine ⟨vp_of e2 hsl, fun m1 hm1 v3 hv3 v4 hv4 => hX _ ⟨?_, ?_, ?_, ?_⟩⟩
      · dsimp only; rw [hv4]; exact p1
      · dsimp only; rw [hv3]; exact ti_p1 e2 (by omega)
      · dsimp only; rw [hm1, tn_of e2, up2_row]; exact STK_push e3
      · intro q hq; dsimp only; rw [hm1, up2_ro _ _ _ _ _ hq]; exact e4 q hq
    rintro _ rfl
    rcases hst with ⟨rfl, w1, w2, e⟩ | ⟨rfl, w1, w2, e⟩ | ⟨rfl, w1, e⟩ | ⟨rfl, w1, w2, e⟩
    · rw [enc_0]
      refine ⟨fun c => absurd c (by rw [Int32.le_iff_toInt_le]; simp only [Int32.reduceToInt]; omega), fun _ => ⟨fun c => absurd c (by rw [Int32.le_iff_toInt_le, e2]; simp only [Int32.reduceToInt]; omega), fun _ => ?_⟩⟩
      exact leaf9 (r := v) _ _ (Or.inl ⟨by omega, rfl⟩) w1 (push v rfl)
    · have ew : (10000 + v).toInt = 10000 + v.toInt := by rw [ad_ti]; simp only [Int32.reduceToInt]; omega
      rw [enc_1]
      refine ⟨fun c => absurd c (by rw [Int32.le_iff_toInt_le, ew]; simp only [Int32.reduceToInt]; omega), fun _ => ⟨fun c => absurd c (by rw [Int32.le_iff_toInt_le, e2]; simp only [Int32.reduceToInt]; omega), fun _ => ?_⟩⟩
      refine leaf9 (r := nm3 a b c v.toInt.toNat) _ _ ?_ (by rw [ew]; omega) (push _ rfl)
      rw [ew]
      have : v.toInt = 0 ∨ v.toInt = 1 ∨ v.toInt = 2 := by omega
      rcases this with q | q | q <;> rw [q]
      · exact Or.inr (Or.inl ⟨rfl, rfl⟩)
      · exact Or.inr (Or.inr (Or.inl ⟨rfl, rfl⟩))
      · exact Or.inr (Or.inr (Or.inr ⟨rfl, rfl⟩))
    · rw [enc_3]
      cases st with
      | nil => simp at hl1; omega
      | cons x r =>
        have hr : r.length < 50 := by simp at hsl; omega
        have hx0 : ¬ x4 ≤ 0 := by rw [Int32.le_iff_toInt_le, e2]; simp only [Int32.reduceToInt, List.length_cons]; omega
        have q1 : (x4 - 1).toInt = r.length := ti_s1 e2 (by omega)
        refine ⟨fun _ => ⟨fun c => absurd rfl c, fun _ => ⟨fun c => absurd c hx0, fun _ => ⟨vp_of q1 hr, ?_⟩⟩⟩, fun c => absurd (by decide) c⟩
        rw [tn_of q1, e3.1]
        have key : ∀ y : Int32, y = (if x = 0 then 1 else 0) → B_X2_worked_98 lq X lq a b c x4 x5 y (x4 - 1) m Q := by
          intro y hy
          refine ⟨vp_of q1 hr, fun m1 hm1 v3 hv3 => hX _ ⟨?_, ?_, ?_, ?_⟩⟩
          · dsimp only; rw [hv3]; exact p1
          · exact e2
          · dsimp only; rw [hm1, tn_of q1, up2_row, hy]; exact STK_push e3.2
          · intro q hq; dsimp only; rw [hm1, up2_ro _ _ _ _ _ hq]; exact e4 q hq
        exact ⟨fun c => key 0 (by rw [if_neg c]), fun c => key 1 (by rw [if_pos c])⟩
    · rw [enc_2]
      have hg := sgn_rg w1
      cases st with
      | nil => simp at hl1; omega
      | cons y r =>
        cases r with
        | nil => simp at hl1; omega
        | cons x r =>
          have hr : r.length + 1 < 50 := by simp at hsl; omega
          have hr2 : r.length < 50 := by omega
          have hr3 : r.length + 1 < 2147483647 := by omega
          have hr4 : r.length < 2147483647 := by omega
          have hx1 : ¬ x4 ≤ 1 := by rw [Int32.le_iff_toInt_le, e2]; simp only [Int32.reduceToInt, List.length_cons]; omega
          have ew : (20000 + v).toInt = 20000 + v.toInt := by rw [ad_ti]; simp only [Int32.reduceToInt]; omega
          have n33 : ¬ (20000 + v : Int32) = 20033 := by rw [eq_ti, ew]; simp only [Int32.reduceToInt]; omega
          have n20 : (20000 : Int32) ≤ 20000 + v := by rw [Int32.le_iff_toInt_le, ew]; simp only [Int32.reduceToInt]; omega
          clear ew
          have q1 : (x4 + -1).toInt = (r.length + 1 : Nat) := ti_m1 e2 hr3
          have q2 : (x4 + -1 - 1).toInt = r.length := ti_s1 q1 hr4
          refine ⟨fun _ => ⟨fun _ => ⟨fun c => absurd c hx1, fun _ => ?_⟩, fun c => absurd c n33⟩, fun c => absurd n20 c⟩
          rintro v9 rfl
          refine ⟨vp_of q2 hr2, vp_of q1 hr, ?_⟩
          rw [tn_of q2, tn_of q1, e3.2.1, sgn_20]
          have e3a : m (lq + 2) (r.length + 1) = y := e3.1
          rw [e3a]
          refine joined9 w1 _ _ ⟨vp_of q2 hr2, fun m1 hm1 v3 hv3 => hX _ ⟨?_, ?_, ?_, ?_⟩⟩
          · dsimp only; rw [hv3]; exact p1
          · exact q1
          · dsimp only; rw [hm1, up2_row]; exact STK_push e3.2.2
          · intro q hq; dsimp only; rw [hm1, up2_ro _ _ _ _ _ hq]; exact e4 q hq
  · rintro ⟨x4, x5, m⟩ X ⟨e1, e2, e3, e4⟩
    dsimp only at e1 e2 e3 e4 ⊢
    rw [e4 lq (by omega)]
    refine ⟨fun _ => ?_, fun cc => absurd (le_of hl2 e1 (Nat.le_refl _)) cc⟩
    have hl := evs_len (nm := nm3 a b c) hd n (Nat.le_refl _)
    have h8 := h m e4
    revert h8 e3 hl
    generalize evs s o (nm3 a b c) n = st
    intro e3 hl h8
    rw [hd.2.1] at hl
    match st, hl.1 with
    | [x], _ => rw [show m (lq + 2) 0 = x from e3.1]; exact h8
