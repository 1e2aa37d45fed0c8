/-- the rank of a sign -/
def lv (c : Int32) : Int32 := if c = 124 then 0 else if c = 38 then 1 else if c = 60 ∨ c = 61 ∨ c = 62 then 2 else if c = 43 ∨ c = 45 then 3 else if c = 42 ∨ c = 47 ∨ c = 37 then 4 else -1
theorem lv_m1 : lv (-1) = -1 := by decide
theorem lv_cases (c : Int32) : (sgnc c ∧ 0 ≤ (lv c).toInt ∧ (lv c).toInt ≤ 4) ∨ (lv c = -1 ∧ ¬ sgnc c) := by
  by_cases h : sgnc c
  · left
    refine ⟨h, ?_⟩
    rcases h with rfl | rfl | rfl | rfl | rfl | rfl | rfl | rfl | rfl | rfl <;> decide
  · right
    refine ⟨?_, h⟩
    unfold sgnc at h
    unfold lv
    rw [if_neg fun e => h (by simp [e]), if_neg fun e => h (by simp [e]), if_neg fun e => h (by rcases e with e | e | e <;> simp [e]), if_neg fun e => h (by rcases e with e | e <;> simp [e]), if_neg fun e => h (by rcases e with e | e | e <;> simp [e])]
theorem levelOf9 {v c : Int32} (h : BT v c) (m : MMt) (Q : Int32 → MMt → Prop) (hQ : Q (lv c) m) : L_X4_levelOf v m Q := by
  have L : ∀ l : Int32, 0 ≤ l.toInt ∧ l.toInt ≤ 127 → v = l → c = l := fun l hl => (h.lit hl).mp
  have N : ∀ l : Int32, 0 ≤ l.toInt ∧ l.toInt ≤ 127 → ¬ v = l → ¬ c = l := fun l hl hn e => hn ((h.lit hl).mpr e)
  refine ⟨fun e => ?_, fun e => ?_, fun e => ?_, fun e => ?_, fun e => ?_, fun e => ?_, fun e => ?_, fun e => ?_, fun e => ?_, fun e => ?_, fun e0 e1 e2 e3 e4 e5 e6 e7 e8 e9 => ?_⟩
  · rw [L 37 (by decide) e] at hQ; exact hQ
  · rw [L 38 (by decide) e] at hQ; exact hQ
  · rw [L 42 (by decide) e] at hQ; exact hQ
  · rw [L 43 (by decide) e] at hQ; exact hQ
  · rw [L 45 (by decide) e] at hQ; exact hQ
  · rw [L 47 (by decide) e] at hQ; exact hQ
  · rw [L 60 (by decide) e] at hQ; exact hQ
  · rw [L 61 (by decide) e] at hQ; exact hQ
  · rw [L 62 (by decide) e] at hQ; exact hQ
  · rw [L 124 (by decide) e] at hQ; exact hQ
  · rcases lv_cases c with ⟨w, -⟩ | ⟨w, -⟩
    · exfalso
      rcases w with w | w | w | w | w | w | w | w | w | w
      · exact N 37 (by decide) e0 w
      · exact N 38 (by decide) e1 w
      · exact N 42 (by decide) e2 w
      · exact N 43 (by decide) e3 w
      · exact N 45 (by decide) e4 w
      · exact N 47 (by decide) e5 w
      · exact N 60 (by decide) e6 w
      · exact N 61 (by decide) e7 w
      · exact N 62 (by decide) e8 w
      · exact N 124 (by decide) e9 w
    · rw [w] at hQ; exact hQ
theorem c5n {l : Int32} (h : 0 ≤ l.toInt ∧ l.toInt ≤ 4) : l = 0 ∨ l = 1 ∨ l = 2 ∨ l = 3 ∨ l = 4 := by
  simp only [eq_ti, Int32.reduceToInt]; omega
theorem lv_inv {x l : Int32} (h : lv x = l) (hl : 0 ≤ l.toInt) : (l = 0 ∧ x = 124) ∨ (l = 1 ∧ x = 38) ∨ (l = 2 ∧ (x = 60 ∨ x = 61 ∨ x = 62)) ∨ (l = 3 ∧ (x = 43 ∨ x = 45)) ∨ (l = 4 ∧ (x = 42 ∨ x = 47 ∨ x = 37)) := by
  subst h
  rcases lv_cases x with ⟨w, -⟩ | ⟨w, -⟩
  · rcases w with rfl | rfl | rfl | rfl | rfl | rfl | rfl | rfl | rfl | rfl <;> decide
  · rw [w] at hl; exact absurd hl (by decide)
theorem isSign10 {s : Nat → Int32} {u : Int32} {n at_ op c : Nat} {M : MMt} (h : MSt s u at_ op c M) (hn : (s 7).toInt = n) (hn50 : n ≤ 50) {l : Int32} (hl : 0 ≤ l.toInt ∧ l.toInt ≤ 4) (Q : Int32 → MMt → Prop) (h1 : lv (hre s n at_) = l → Q 1 M) (h0 : ¬ lv (hre s n at_) = l → Q 0 M) : L_X10_isSign l M Q := by
  refine here10 h hn hn50 _ ?_
  generalize hre s n at_ = x at h1 h0
  have lvs : ∀ y : Int32, x = y → lv x = lv y := fun y e => by rw [e]
  have inv := fun e : lv x = l => lv_inv e hl.1
  rcases c5n hl with rfl | rfl | rfl | rfl | rfl
  · simp (decide := true) only [e10, not_false_eq_true, not_true_eq_false, false_implies, forall_const, true_and, and_true, eq_self, imp_self, true_implies]
    refine ⟨fun e => h0 fun q => ?_, fun e => h1 (by rw [lvs _ e]; decide)⟩
    have := inv q
    simp (decide := true) only [e10, not_false_eq_true, not_true_eq_false, false_implies, forall_const, true_and, and_true, eq_self, imp_self, true_implies, false_and, or_false, false_or] at this
    exact e this
  · simp (decide := true) only [e10, not_false_eq_true, not_true_eq_false, false_implies, forall_const, true_and, and_true, eq_self, imp_self, true_implies]
    refine ⟨fun e => h0 fun q => ?_, fun e => h1 (by rw [lvs _ e]; decide)⟩
    have := inv q
    simp (decide := true) only [e10, not_false_eq_true, not_true_eq_false, false_implies, forall_const, true_and, and_true, eq_self, imp_self, true_implies, false_and, or_false, false_or] at this
    exact e this
  · simp (decide := true) only [e10, not_false_eq_true, not_true_eq_false, false_implies, forall_const, true_and, and_true, eq_self, imp_self, true_implies]
    refine ⟨fun e => h1 (by rw [lvs _ e]; decide), fun e => ⟨fun e2 => h1 (by rw [lvs _ e2]; decide), fun e2 => ⟨fun e3 => h0 fun q => ?_, fun e3 => h1 (by rw [lvs _ e3]; decide)⟩⟩⟩
    have := inv q
    simp (decide := true) only [e10, not_false_eq_true, not_true_eq_false, false_implies, forall_const, true_and, and_true, eq_self, imp_self, true_implies, false_and, or_false, false_or] at this
    rcases this with w | w | w <;> contradiction
  · simp (decide := true) only [e10, not_false_eq_true, not_true_eq_false, false_implies, forall_const, true_and, and_true, eq_self, imp_self, true_implies]
    refine ⟨fun e => h1 (by rw [lvs _ e]; decide), fun e => ⟨fun e2 => h0 fun q => ?_, fun e2 => h1 (by rw [lvs _ e2]; decide)⟩⟩
    have := inv q
    simp (decide := true) only [e10, not_false_eq_true, not_true_eq_false, false_implies, forall_const, true_and, and_true, eq_self, imp_self, true_implies, false_and, or_false, false_or] at this
    rcases this with w | w <;> contradiction
  · simp (decide := true) only [e10, not_false_eq_true, not_true_eq_false, false_implies, forall_const, true_and, and_true, eq_self, imp_self, true_implies]
    refine ⟨fun e => h1 (by rw [lvs _ e]; decide), fun e => ⟨fun e2 => h1 (by rw [lvs _ e2]; decide), fun e2 => ⟨fun e3 => h0 fun q => ?_, fun e3 => h1 (by rw [lvs _ e3]; decide)⟩⟩⟩
    have := inv q
    simp (decide := true) only [e10, not_false_eq_true, not_true_eq_false, false_implies, forall_const, true_and, and_true, eq_self, imp_self, true_implies, false_and, or_false, false_or] at this
    rcases this with w | w | w <;> contradiction
