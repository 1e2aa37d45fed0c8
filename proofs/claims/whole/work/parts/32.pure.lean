/-- what a sign makes of two -/
def wkd (v x y : Int32) : Int32 :=
  if v = 38 then (if x = 0 then 0 else if y = 0 then 0 else 1) else if v = 42 then x * y else if v = 43 then x + y else if v = 45 then x - y
  else if v = 47 then (if y = 0 then 0 else x / y) else if v = 60 then (if x < y then 1 else 0) else if v = 61 then (if x = y then 1 else 0)
  else if v = 62 then (if y < x then 1 else 0) else if v = 124 then (if x = 0 then (if y = 0 then 0 else 1) else 1) else (if y = 0 then 0 else x - x / y * y)
def sgnc (v : Int32) : Prop := v = 37 ∨ v = 38 ∨ v = 42 ∨ v = 43 ∨ v = 45 ∨ v = 47 ∨ v = 60 ∨ v = 61 ∨ v = 62 ∨ v = 124
theorem dv_m1 (x : Int32) : x / (-1) = -x := by
  apply Int32.toInt_inj.mp
  rw [Int32.toInt_div, Int32.toInt_neg x]
  have t : (-1 : Int32).toInt = -1 := by decide
  rw [t, Int.tdiv_neg, Int.tdiv_one]
theorem joined9 {v x y : Int32} (hv : sgnc v) (mem : MMt) (Q : Int32 → MMt → Prop) (h : Q (wkd v x y) mem) : L_X2_joined v x y mem Q := by
  unfold sgnc at hv
  unfold L_X2_joined
  have l1 : x < y ↔ ¬ y ≤ x := by (try simp only [eq_ti, Int32.lt_iff_toInt_lt, Int32.le_iff_toInt_le, ad_ti, sb_ti, ng_ti, ml_ti, tn_ti, Int32.reduceToInt] at *) <;> omega
  have l2 : y < x ↔ ¬ x ≤ y := by (try simp only [eq_ti, Int32.lt_iff_toInt_lt, Int32.le_iff_toInt_le, ad_ti, sb_ti, ng_ti, ml_ti, tn_ti, Int32.reduceToInt] at *) <;> omega
  rcases hv with rfl | rfl | rfl | rfl | rfl | rfl | rfl | rfl | rfl | rfl <;> simp [wkd, Int32.lt_iff_toInt_lt] at h l1 l2 ⊢
  all_goals first
    | exact h
    | (split at h <;> simp_all [Int32.le_iff_toInt_le] <;> done)
    | (split at h <;> simp_all [Int32.le_iff_toInt_le] <;> omega)
    | (by_cases c0 : x = 0 <;> by_cases c1 : y = 0 <;> simp_all <;> done)
theorem worked10 {v x y : Int32} (hv : sgnc v) (mem : MMt) (Q : Int32 → MMt → Prop) (h : Q (wkd v x y) mem) : L_X10_worked v x y mem Q := by
  unfold sgnc at hv
  unfold L_X10_worked
  have d1 := dv_m1 x
  have d2 : x - x / -1 * -1 = 0 := by rw [d1]; apply Int32.toInt_inj.mp; rw [sb_ti, ml_ti, ng_ti]; simp only [Int32.reduceToInt]; have := rg_ti x; omega
  have l1 : x < y ↔ ¬ y ≤ x := by (try simp only [eq_ti, Int32.lt_iff_toInt_lt, Int32.le_iff_toInt_le, ad_ti, sb_ti, ng_ti, ml_ti, tn_ti, Int32.reduceToInt] at *) <;> omega
  have l2 : y < x ↔ ¬ x ≤ y := by (try simp only [eq_ti, Int32.lt_iff_toInt_lt, Int32.le_iff_toInt_le, ad_ti, sb_ti, ng_ti, ml_ti, tn_ti, Int32.reduceToInt] at *) <;> omega
  rcases hv with rfl | rfl | rfl | rfl | rfl | rfl | rfl | rfl | rfl | rfl <;> simp [wkd, Int32.lt_iff_toInt_lt] at h l1 l2 ⊢
  all_goals first
    | exact h
    | (by_cases c1 : y = -1 <;> by_cases c0 : y = 0 <;> simp_all <;> done)
    | (split at h <;> simp_all [Int32.le_iff_toInt_le] <;> done)
    | (split at h <;> simp_all [Int32.le_iff_toInt_le] <;> omega)
    | (by_cases c0 : x = 0 <;> by_cases c1 : y = 0 <;> simp_all <;> done)
