/-- LOAD, PULLED, DRAG, REACH of a KIND and m -/
def ld (k m : Int32) : Int32 := if k = 1 then 3 * (m + 1) else if k = 3 then 0 else if k = 4 then m + 6 else if k = 5 then m else if k = 6 then 3 * (m + 1) + 20 else m + 1
def pl (k v : Int32) : Int32 := if k = 3 ∨ k = 5 then -(v / 2) else if k = 6 then 2 * v else v
def dg (k m : Int32) : Int32 := if k = 1 ∨ k = 6 then 0 else if k = 3 then 2 else if k = 5 then 1 else m - m / 2 * 2
def rc (k m : Int32) : Int32 := if k = 2 then m + 2 else if k = 4 then (m + 2) / 2 else 40
theorem k_cases (k : Int32) : (k < 1 ∨ 6 < k) ∨ k = 1 ∨ k = 2 ∨ k = 3 ∨ k = 4 ∨ k = 5 ∨ k = 6 := by
  (try simp only [eq_ti, Int32.lt_iff_toInt_lt, Int32.le_iff_toInt_le, ad_ti, sb_ti, ng_ti, ml_ti, tn_ti, Int32.reduceToInt] at *) <;> omega
theorem load9 (q0 : Nat) (mem : MMt) (Q : Int32 → MMt → Prop) (h : Q (ld (mem q0 0) (mem q0 1)) mem) : L_X1_load q0 mem Q := by
  intro v1 e1
  subst e1
  revert h
  generalize mem q0 0 = k
  generalize mem q0 1 = m
  intro h
  unfold ld at h
  have a6 : m + 1 + 5 = m + 6 := by rw [Int32.add_assoc]; rfl
  refine ⟨fun c => ?_, fun c => ?_, fun c => ?_, fun c => ?_, fun c => ?_, fun c => ?_, fun c => ?_, fun c => ?_⟩
  · rwa [if_neg (by (try simp only [eq_ti, Int32.lt_iff_toInt_lt, Int32.le_iff_toInt_le, ad_ti, sb_ti, ng_ti, ml_ti, tn_ti, Int32.reduceToInt] at *) <;> omega), if_neg (by (try simp only [eq_ti, Int32.lt_iff_toInt_lt, Int32.le_iff_toInt_le, ad_ti, sb_ti, ng_ti, ml_ti, tn_ti, Int32.reduceToInt] at *) <;> omega), if_neg (by (try simp only [eq_ti, Int32.lt_iff_toInt_lt, Int32.le_iff_toInt_le, ad_ti, sb_ti, ng_ti, ml_ti, tn_ti, Int32.reduceToInt] at *) <;> omega), if_neg (by (try simp only [eq_ti, Int32.lt_iff_toInt_lt, Int32.le_iff_toInt_le, ad_ti, sb_ti, ng_ti, ml_ti, tn_ti, Int32.reduceToInt] at *) <;> omega), if_neg (by (try simp only [eq_ti, Int32.lt_iff_toInt_lt, Int32.le_iff_toInt_le, ad_ti, sb_ti, ng_ti, ml_ti, tn_ti, Int32.reduceToInt] at *) <;> omega)] at h
  · rwa [if_neg (by (try simp only [eq_ti, Int32.lt_iff_toInt_lt, Int32.le_iff_toInt_le, ad_ti, sb_ti, ng_ti, ml_ti, tn_ti, Int32.reduceToInt] at *) <;> omega), if_neg (by (try simp only [eq_ti, Int32.lt_iff_toInt_lt, Int32.le_iff_toInt_le, ad_ti, sb_ti, ng_ti, ml_ti, tn_ti, Int32.reduceToInt] at *) <;> omega), if_neg (by (try simp only [eq_ti, Int32.lt_iff_toInt_lt, Int32.le_iff_toInt_le, ad_ti, sb_ti, ng_ti, ml_ti, tn_ti, Int32.reduceToInt] at *) <;> omega), if_neg (by (try simp only [eq_ti, Int32.lt_iff_toInt_lt, Int32.le_iff_toInt_le, ad_ti, sb_ti, ng_ti, ml_ti, tn_ti, Int32.reduceToInt] at *) <;> omega), if_neg (by (try simp only [eq_ti, Int32.lt_iff_toInt_lt, Int32.le_iff_toInt_le, ad_ti, sb_ti, ng_ti, ml_ti, tn_ti, Int32.reduceToInt] at *) <;> omega)] at h
  · subst c; exact h
  · subst c; exact h
  · subst c; exact h
  · subst c; rw [a6]; exact h
  · subst c; exact h
  · subst c; exact h
theorem load10 (k m : Int32) (mem : MMt) (Q : Int32 → MMt → Prop) (h : Q (ld k m) mem) : L_X10_load k m mem Q := by
  unfold ld at h
  refine ⟨fun c => ?_, fun c => ?_, fun c => ?_, fun c => ?_, fun c => ?_, fun c => ?_, fun c => ?_, fun c => ?_⟩
  · rwa [if_neg (by (try simp only [eq_ti, Int32.lt_iff_toInt_lt, Int32.le_iff_toInt_le, ad_ti, sb_ti, ng_ti, ml_ti, tn_ti, Int32.reduceToInt] at *) <;> omega), if_neg (by (try simp only [eq_ti, Int32.lt_iff_toInt_lt, Int32.le_iff_toInt_le, ad_ti, sb_ti, ng_ti, ml_ti, tn_ti, Int32.reduceToInt] at *) <;> omega), if_neg (by (try simp only [eq_ti, Int32.lt_iff_toInt_lt, Int32.le_iff_toInt_le, ad_ti, sb_ti, ng_ti, ml_ti, tn_ti, Int32.reduceToInt] at *) <;> omega), if_neg (by (try simp only [eq_ti, Int32.lt_iff_toInt_lt, Int32.le_iff_toInt_le, ad_ti, sb_ti, ng_ti, ml_ti, tn_ti, Int32.reduceToInt] at *) <;> omega), if_neg (by (try simp only [eq_ti, Int32.lt_iff_toInt_lt, Int32.le_iff_toInt_le, ad_ti, sb_ti, ng_ti, ml_ti, tn_ti, Int32.reduceToInt] at *) <;> omega)] at h
  · rwa [if_neg (by (try simp only [eq_ti, Int32.lt_iff_toInt_lt, Int32.le_iff_toInt_le, ad_ti, sb_ti, ng_ti, ml_ti, tn_ti, Int32.reduceToInt] at *) <;> omega), if_neg (by (try simp only [eq_ti, Int32.lt_iff_toInt_lt, Int32.le_iff_toInt_le, ad_ti, sb_ti, ng_ti, ml_ti, tn_ti, Int32.reduceToInt] at *) <;> omega), if_neg (by (try simp only [eq_ti, Int32.lt_iff_toInt_lt, Int32.le_iff_toInt_le, ad_ti, sb_ti, ng_ti, ml_ti, tn_ti, Int32.reduceToInt] at *) <;> omega), if_neg (by (try simp only [eq_ti, Int32.lt_iff_toInt_lt, Int32.le_iff_toInt_le, ad_ti, sb_ti, ng_ti, ml_ti, tn_ti, Int32.reduceToInt] at *) <;> omega), if_neg (by (try simp only [eq_ti, Int32.lt_iff_toInt_lt, Int32.le_iff_toInt_le, ad_ti, sb_ti, ng_ti, ml_ti, tn_ti, Int32.reduceToInt] at *) <;> omega)] at h
  all_goals (subst c; exact h)
theorem pulled9 (q0 : Nat) (v : Int32) (mem : MMt) (Q : Int32 → MMt → Prop) (h : Q (pl (mem q0 0) v) mem) : L_X1_pulled q0 v mem Q := by
  intro v1 e1
  subst e1
  revert h
  generalize mem q0 0 = k
  intro h
  unfold pl at h
  refine ⟨fun c => ?_, fun c => ?_, fun c => ?_, fun c => ?_, fun c => ?_, fun c => ?_⟩
  · rwa [if_neg (by (try simp only [eq_ti, Int32.lt_iff_toInt_lt, Int32.le_iff_toInt_le, ad_ti, sb_ti, ng_ti, ml_ti, tn_ti, Int32.reduceToInt] at *) <;> omega), if_neg (by (try simp only [eq_ti, Int32.lt_iff_toInt_lt, Int32.le_iff_toInt_le, ad_ti, sb_ti, ng_ti, ml_ti, tn_ti, Int32.reduceToInt] at *) <;> omega)] at h
  · rwa [if_neg (by (try simp only [eq_ti, Int32.lt_iff_toInt_lt, Int32.le_iff_toInt_le, ad_ti, sb_ti, ng_ti, ml_ti, tn_ti, Int32.reduceToInt] at *) <;> omega), if_neg (by (try simp only [eq_ti, Int32.lt_iff_toInt_lt, Int32.le_iff_toInt_le, ad_ti, sb_ti, ng_ti, ml_ti, tn_ti, Int32.reduceToInt] at *) <;> omega)] at h
  · subst c; rw [Int32.zero_sub]; exact h
  · subst c; exact h
  · subst c; rw [Int32.zero_sub]; exact h
  · subst c; exact h
theorem pulled10 (k v : Int32) (mem : MMt) (Q : Int32 → MMt → Prop) (h : Q (pl k v) mem) : L_X10_pulled k v mem Q := by
  unfold pl at h
  unfold L_X10_pulled
  by_cases c3 : k = 3
  · subst c3; simpa using h
  · by_cases c5 : k = 5
    · subst c5; simpa using h
    · by_cases c6 : k = 6
      · subst c6; simpa using h
      · simpa [c3, c5, c6] using h
theorem drag9 (q0 : Nat) (mem : MMt) (Q : Int32 → MMt → Prop) (h : Q (dg (mem q0 0) (mem q0 1)) mem) : L_X1_drag q0 mem Q := by
  intro v1 e1
  subst e1
  revert h
  generalize mem q0 0 = k
  generalize mem q0 1 = m
  intro h
  unfold dg at h
  refine ⟨fun c => ?_, fun c => ?_, fun c => ?_, fun c => ?_, fun c => ?_, fun c => ?_, fun c => ?_, fun c => ?_⟩
  · rwa [if_neg (by (try simp only [eq_ti, Int32.lt_iff_toInt_lt, Int32.le_iff_toInt_le, ad_ti, sb_ti, ng_ti, ml_ti, tn_ti, Int32.reduceToInt] at *) <;> omega), if_neg (by (try simp only [eq_ti, Int32.lt_iff_toInt_lt, Int32.le_iff_toInt_le, ad_ti, sb_ti, ng_ti, ml_ti, tn_ti, Int32.reduceToInt] at *) <;> omega), if_neg (by (try simp only [eq_ti, Int32.lt_iff_toInt_lt, Int32.le_iff_toInt_le, ad_ti, sb_ti, ng_ti, ml_ti, tn_ti, Int32.reduceToInt] at *) <;> omega)] at h
  · rwa [if_neg (by (try simp only [eq_ti, Int32.lt_iff_toInt_lt, Int32.le_iff_toInt_le, ad_ti, sb_ti, ng_ti, ml_ti, tn_ti, Int32.reduceToInt] at *) <;> omega), if_neg (by (try simp only [eq_ti, Int32.lt_iff_toInt_lt, Int32.le_iff_toInt_le, ad_ti, sb_ti, ng_ti, ml_ti, tn_ti, Int32.reduceToInt] at *) <;> omega), if_neg (by (try simp only [eq_ti, Int32.lt_iff_toInt_lt, Int32.le_iff_toInt_le, ad_ti, sb_ti, ng_ti, ml_ti, tn_ti, Int32.reduceToInt] at *) <;> omega)] at h
  all_goals (subst c; exact h)
theorem drag10 (k m : Int32) (mem : MMt) (Q : Int32 → MMt → Prop) (h : Q (dg k m) mem) : L_X10_drag k m mem Q := by
  unfold dg at h
  unfold L_X10_drag
  by_cases c1 : k = 1
  · subst c1; simpa using h
  · by_cases c6 : k = 6
    · subst c6; simpa using h
    · by_cases c3 : k = 3
      · subst c3; simpa using h
      · by_cases c5 : k = 5
        · subst c5; simpa using h
        · simpa [c3, c5, c6, c1] using h
theorem reach9 (q0 : Nat) (mem : MMt) (Q : Int32 → MMt → Prop) (h : Q (rc (mem q0 0) (mem q0 1)) mem) : L_X1_reach q0 mem Q := by
  intro v1 e1
  subst e1
  unfold rc at h
  refine ⟨fun c => ?_, fun c => ?_, fun c d => ?_⟩
  · rwa [if_pos c] at h
  · rwa [if_neg (by rw [c]; decide), if_pos c] at h
  · rwa [if_neg c, if_neg d] at h
theorem reach10 (k m : Int32) (mem : MMt) (Q : Int32 → MMt → Prop) (h : Q (rc k m) mem) : L_X10_reach k m mem Q := by
  unfold rc at h
  unfold L_X10_reach
  by_cases c1 : k = 2
  · subst c1; simpa using h
  · by_cases c6 : k = 4
    · subst c6; simpa using h
    · simpa [c6, c1] using h
/-- a good's fields in range: kind 0..6, m 0..9, floor 0..40, speed -9..9, home 0..40 -/
def GW (x : Nat → Int32) : Prop := (0 ≤ (x 0).toInt ∧ (x 0).toInt ≤ 6) ∧ (0 ≤ (x 1).toInt ∧ (x 1).toInt ≤ 9) ∧ (0 ≤ (x 2).toInt ∧ (x 2).toInt ≤ 40) ∧ (-9 ≤ (x 3).toInt ∧ (x 3).toInt ≤ 9) ∧ (0 ≤ (x 4).toInt ∧ (x 4).toInt ≤ 40)
/-- the SPEED behind PULL and DRAG -/
def slo (k m v p : Int32) : Int32 := let dr := v + pl k p; hld (if dr ≤ 0 then (if -dr ≤ dg k m then dr + -dr else dr + dg k m) else (if dr ≤ dg k m then dr - dr else dr - dg k m)) (-9) 9
/-- FLOOR and SPEED behind a STEP under a PULL p -/
def nF (p : Int32) (x : Nat → Int32) : Int32 := hld (hld (x 2 + slo (x 0) (x 1) (x 3) p) 0 40) (x 4 - rc (x 0) (x 1)) (x 4 + rc (x 0) (x 1))
def nV (p : Int32) (x : Nat → Int32) : Int32 := if nF p x = x 2 + slo (x 0) (x 1) (x 3) p then slo (x 0) (x 1) (x 3) p else 0
theorem pl_rg {k p : Int32} (h : -9 ≤ p.toInt ∧ p.toInt ≤ 9) : -18 ≤ (pl k p).toInt ∧ (pl k p).toInt ≤ 18 := by
  unfold pl
  have t2 : (2 : Int32).toInt = 2 := by decide
  have e : -9 ≤ (p / 2).toInt ∧ (p / 2).toInt ≤ 9 := by
    by_cases c : 0 ≤ p.toInt
    · rw [dv_p c (by decide), t2]; omega
    · rw [dv_n (by omega) (by decide), t2]; omega
  split
  · rw [ng_ti]; omega
  · split
    · rw [ml_ti, t2]; omega
    · omega
theorem dg_rg {k m : Int32} (h : 0 ≤ m.toInt ∧ m.toInt ≤ 9) : 0 ≤ (dg k m).toInt ∧ (dg k m).toInt ≤ 2 := by
  unfold dg
  split
  · decide
  · split
    · decide
    · split
      · decide
      · have t2 : (2 : Int32).toInt = 2 := by decide
        have e := dv_p (a := m) (b := 2) h.1 (by decide)
        rw [sb_ti, ml_ti, e, t2]; omega
theorem rc_rg {k m : Int32} (h : 0 ≤ m.toInt ∧ m.toInt ≤ 9) : 0 ≤ (rc k m).toInt ∧ (rc k m).toInt ≤ 40 := by
  unfold rc
  have t2 : (2 : Int32).toInt = 2 := by decide
  have a2 : (m + 2).toInt = m.toInt + 2 := by rw [ad_ti, t2]; omega
  split
  · omega
  · split
    · rw [dv_p (by omega) (by decide), a2, t2]; omega
    · decide
theorem hld9 (v : Int32) : -9 ≤ (hld v (-9) 9).toInt ∧ (hld v (-9) 9).toInt ≤ 9 := by
  have := hld_rg (v := v) (lo := -9) (hi := 9) (by decide)
  simp only [Int32.le_iff_toInt_le, Int32.reduceToInt] at this
  exact this
theorem slo_rg (k m v p : Int32) : -9 ≤ (slo k m v p).toInt ∧ (slo k m v p).toInt ≤ 9 := by
  unfold slo
  exact hld9 _
theorem nF_rg {p : Int32} {x : Nat → Int32} (h : GW x) : 0 ≤ (nF p x).toInt ∧ (nF p x).toInt ≤ 40 := by
  have hr := rc_rg (k := x 0) h.2.1
  unfold nF
  obtain ⟨-, -, h2, -, h4⟩ := h
  have a1 := hld_rg (v := x 2 + slo (x 0) (x 1) (x 3) p) (lo := 0) (hi := 40) (by decide)
  generalize hld (x 2 + slo (x 0) (x 1) (x 3) p) 0 40 = w at a1
  generalize rc (x 0) (x 1) = r at hr
  unfold hld
  split
  · (try simp only [eq_ti, Int32.lt_iff_toInt_lt, Int32.le_iff_toInt_le, ad_ti, sb_ti, ng_ti, ml_ti, tn_ti, Int32.reduceToInt] at *) <;> omega
  · split <;> (try simp only [eq_ti, Int32.lt_iff_toInt_lt, Int32.le_iff_toInt_le, ad_ti, sb_ti, ng_ti, ml_ti, tn_ti, Int32.reduceToInt] at *) <;> omega
theorem nV_rg (p : Int32) (x : Nat → Int32) : -9 ≤ (nV p x).toInt ∧ (nV p x).toInt ≤ 9 := by
  unfold nV
  split
  · exact slo_rg ..
  · decide
