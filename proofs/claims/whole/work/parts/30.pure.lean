theorem eq_ti {a b : Int32} : a = b ↔ a.toInt = b.toInt := Int32.toInt_inj.symm
theorem bm_ti (x : Int) : x.bmod (2 ^ 32) = (x + 2147483648) % 4294967296 - 2147483648 := by
  rw [Int.bmod_def]
  split <;> omega
theorem ad_ti (a b : Int32) : (a + b).toInt = (a.toInt + b.toInt + 2147483648) % 4294967296 - 2147483648 := by rw [Int32.toInt_add, bm_ti]
theorem sb_ti (a b : Int32) : (a - b).toInt = (a.toInt - b.toInt + 2147483648) % 4294967296 - 2147483648 := by rw [Int32.toInt_sub, bm_ti]
theorem ml_ti (a b : Int32) : (a * b).toInt = (a.toInt * b.toInt + 2147483648) % 4294967296 - 2147483648 := by rw [Int32.toInt_mul, bm_ti]
theorem ng_ti (a : Int32) : (-a).toInt = (-a.toInt + 2147483648) % 4294967296 - 2147483648 := by rw [Int32.toInt_neg, bm_ti]
theorem tn_ti (x : Int32) : x.toNatClampNeg = x.toInt.toNat := (Int32.toNat_toInt x).symm
theorem rg_ti (x : Int32) : -2147483648 ≤ x.toInt ∧ x.toInt < 2147483648 := ⟨Int32.le_toInt x, Int32.toInt_lt x⟩
theorem td_p {x c : Int} (h : 0 ≤ x) : x.tdiv c = x / c := Int.tdiv_eq_ediv_of_nonneg h
theorem dv_p {a b : Int32} (ha : 0 ≤ a.toInt) (hb : 0 < b.toInt) : (a / b).toInt = a.toInt / b.toInt := by
  rw [Int32.toInt_div, td_p ha, bm_ti]
  have h1 := rg_ti a
  have h2 : a.toInt / b.toInt ≤ a.toInt := Int.ediv_le_self _ ha
  have h3 : 0 ≤ a.toInt / b.toInt := Int.ediv_nonneg ha (by omega)
  omega
theorem dv_n {a b : Int32} (ha : a.toInt ≤ 0) (hb : 0 < b.toInt) : (a / b).toInt = -((-a.toInt) / b.toInt) := by
  have e : a.toInt.tdiv b.toInt = -((-a.toInt) / b.toInt) := by
    have h0 : a.toInt = -(-a.toInt) := by omega
    rw [h0, Int.neg_tdiv, td_p (by omega)]; simp
  rw [Int32.toInt_div, e, bm_ti]
  have h1 := rg_ti a
  have h2 : (-a.toInt) / b.toInt ≤ (-a.toInt) := Int.ediv_le_self _ (by omega)
  have h3 : 0 ≤ (-a.toInt) / b.toInt := Int.ediv_nonneg (by omega) (by omega)
  omega
theorem vp_ti {i : Int32} {n : Nat} : vp_in i n ↔ (0 ≤ i.toInt ∧ i.toInt < n) := by
  unfold vp_in
  rw [Int32.lt_iff_toInt_lt, tn_ti]
  simp only [Int32.reduceToInt]
  omega
theorem on_ti {n : Nat} (h : n < 2147483648) : (Int32.ofNat n).toInt = n := by
  rw [Int32.toInt_ofNat', bm_ti]
  omega
theorem up2_at (m : MMt) (k j : Nat) (v : Int32) (a b : Nat) : up2 m k j v a b = if a = k ∧ b = j then v else m a b := rfl
theorem up2_ro (m : MMt) (k j : Nat) (v : Int32) (a : Nat) (h : a ≠ k) : up2 m k j v a = m a := by funext b; exact up2_ne h
theorem up2_eq (m : MMt) (k j : Nat) (v : Int32) : up2 m k j v k j = v := if_pos ⟨rfl, rfl⟩
theorem upd_at (f : Nat → Int32) (k : Nat) (x : Int32) (j : Nat) : upd f k x j = if j = k then x else f j := rfl
theorem upd_eq (f : Nat → Int32) (k : Nat) (x : Int32) : upd f k x k = x := if_pos rfl
theorem upd_ne {f : Nat → Int32} {k j : Nat} {x : Int32} (h : j ≠ k) : upd f k x j = f j := if_neg h
/-- a loop that counts up to N -/
theorem LOOP_up {σ : Type} {body : (σ → Prop) → σ → Prop} {s0 : σ} (N : Nat) (J : Nat → σ → Prop) (h0 : J 0 s0)
    (hs : ∀ k s X, k < N → J k s → (∀ s', J (k + 1) s' → X s') → body X s) (he : ∀ s X, J N s → body X s) : LOOP body s0 := by
  refine ⟨fun n s => ∃ k, k + n = N ∧ J k s, ⟨N, 0, by omega, h0⟩, ?_⟩
  rintro n s ⟨k, hk, hJ⟩
  by_cases e : k = N
  · subst e; exact he s _ hJ
  · exact hs k s _ (by omega) hJ fun s' h' => ⟨n - 1, by omega, k + 1, by omega, h'⟩
/-- a loop with a number that falls -/
theorem LOOP_dn {σ : Type} {body : (σ → Prop) → σ → Prop} {s0 : σ} (J : Nat → σ → Prop) {n0 : Nat} (h0 : J n0 s0)
    (hs : ∀ n s X, J n s → (∀ m s', m < n → J m s' → X s') → body X s) : LOOP body s0 :=
  ⟨J, ⟨n0, h0⟩, fun n s hJ => hs n s _ hJ fun m s' hm h' => ⟨m, hm, h'⟩⟩
def hld (v lo hi : Int32) : Int32 := if v < lo then lo else if hi < v then hi else v
theorem hld_rg {v lo hi : Int32} (h : lo ≤ hi) : lo ≤ hld v lo hi ∧ hld v lo hi ≤ hi := by
  unfold hld; split
  · exact ⟨by (try simp only [eq_ti, Int32.lt_iff_toInt_lt, Int32.le_iff_toInt_le, ad_ti, sb_ti, ng_ti, ml_ti, tn_ti, Int32.reduceToInt] at *) <;> omega, h⟩
  · split
    · exact ⟨h, by (try simp only [eq_ti, Int32.lt_iff_toInt_lt, Int32.le_iff_toInt_le, ad_ti, sb_ti, ng_ti, ml_ti, tn_ti, Int32.reduceToInt] at *) <;> omega⟩
    · constructor <;> (try simp only [eq_ti, Int32.lt_iff_toInt_lt, Int32.le_iff_toInt_le, ad_ti, sb_ti, ng_ti, ml_ti, tn_ti, Int32.reduceToInt] at *) <;> omega
/-- one of 1 and 0 -/
theorem within_sp (a lo hi : Int32) (mem : MMt) (Q : Int32 → MMt → Prop) : L_X9_within a lo hi mem Q ↔ if lo.toInt ≤ a.toInt ∧ a.toInt ≤ hi.toInt then Q 1 mem else Q 0 mem := by
  unfold L_X9_within
  simp only [Int32.lt_iff_toInt_lt]
  constructor
  · rintro ⟨h1, h2⟩; split
    · exact (h2 (by omega)).2 (by omega)
    · by_cases c : a.toInt < lo.toInt
      · exact h1 c
      · exact (h2 c).1 (by omega)
  · intro h; refine ⟨fun c => ?_, fun c => ⟨fun d => ?_, fun d => ?_⟩⟩
    · rwa [if_neg (by omega)] at h
    · rwa [if_neg (by omega)] at h
    · rwa [if_pos (by omega)] at h
theorem lgc (x y : Int64) : (lg_cmp x y < 0 ↔ x.toInt < y.toInt) ∧ (0 < lg_cmp x y ↔ y.toInt < x.toInt) := by
  unfold lg_cmp
  simp only [GT.gt, Int64.lt_iff_toInt_lt, ← Int64.toInt_inj]
  by_cases c1 : y.toInt < x.toInt
  · simp only [if_pos c1]
    exact ⟨⟨fun q => absurd q (by decide), fun q => by omega⟩, ⟨fun _ => c1, fun _ => by decide⟩⟩
  · simp only [if_neg c1]
    by_cases c2 : x.toInt = y.toInt
    · simp only [if_pos c2]
      exact ⟨⟨fun q => absurd q (by decide), fun q => by omega⟩, ⟨fun q => absurd q (by decide), fun q => by omega⟩⟩
    · simp only [if_neg c2]
      exact ⟨⟨fun _ => by omega, fun q => by decide⟩, ⟨fun q => absurd q (by decide), fun q => by omega⟩⟩
theorem isIn_sp (a : Int32) (lo hi : Int64) (mem : MMt) (Q : Int32 → MMt → Prop) : L_X10_isIn a.toInt64 lo hi mem Q ↔ if lo.toInt ≤ a.toInt ∧ a.toInt ≤ hi.toInt then Q 1 mem else Q 0 mem := by
  unfold L_X10_isIn
  simp only [(lgc _ _).1, (lgc _ _).2, Int32.toInt_toInt64]
  constructor
  · rintro ⟨h1, h2⟩; split
    · exact (h2 (by omega)).2 (by omega)
    · by_cases c : a.toInt < lo.toInt
      · exact h1 c
      · exact (h2 c).1 (by omega)
  · intro h; refine ⟨fun c => ?_, fun c => ⟨fun d => ?_, fun d => ?_⟩⟩
    · rwa [if_neg (by omega)] at h
    · rwa [if_neg (by omega)] at h
    · rwa [if_pos (by omega)] at h
theorem min_sp (a b : Int32) (mem : MMt) (Q : Int32 → MMt → Prop) : L_J9_min_7cf53 a b mem Q ↔ Q (if b < a then b else a) mem := by
  unfold L_J9_min_7cf53; split <;> simp [*]
theorem max_sp (a b : Int32) (mem : MMt) (Q : Int32 → MMt → Prop) : L_J9_max_7cf53 a b mem Q ↔ Q (if a < b then b else a) mem := by
  unfold L_J9_max_7cf53; split <;> simp [*]
theorem held_sp {a lo hi : Int32} (h : lo ≤ hi) (mem : MMt) (Q : Int32 → MMt → Prop) : L_X9_held a lo hi mem Q ↔ Q (hld a lo hi) mem := by
  unfold L_X9_held
  rw [min_sp, max_sp]
  have e : (if lo < (if a < hi then a else hi) then (if a < hi then a else hi) else lo) = hld a lo hi := by
    unfold hld; split <;> split <;> split <;> (try split) <;> (try simp only [eq_ti, Int32.lt_iff_toInt_lt, Int32.le_iff_toInt_le, ad_ti, sb_ti, ng_ti, ml_ti, tn_ti, Int32.reduceToInt] at *) <;> omega
  rw [e]
theorem with_sp (a lo hi : Int32) (mem : MMt) (Q : Int32 → MMt → Prop) : L_X10_within a lo hi mem Q ↔ Q (hld a lo hi) mem := by
  unfold L_X10_within hld
  by_cases c : a < lo
  · have c1 : ¬ lo ≤ a := by (try simp only [eq_ti, Int32.lt_iff_toInt_lt, Int32.le_iff_toInt_le, ad_ti, sb_ti, ng_ti, ml_ti, tn_ti, Int32.reduceToInt] at *) <;> omega
    simp [c, c1]
  · have c1 : lo ≤ a := by (try simp only [eq_ti, Int32.lt_iff_toInt_lt, Int32.le_iff_toInt_le, ad_ti, sb_ti, ng_ti, ml_ti, tn_ti, Int32.reduceToInt] at *) <;> omega
    by_cases d : hi < a
    · have d1 : ¬ a ≤ hi := by (try simp only [eq_ti, Int32.lt_iff_toInt_lt, Int32.le_iff_toInt_le, ad_ti, sb_ti, ng_ti, ml_ti, tn_ti, Int32.reduceToInt] at *) <;> omega
      simp [c, c1, d, d1]
    · have d1 : a ≤ hi := by (try simp only [eq_ti, Int32.lt_iff_toInt_lt, Int32.le_iff_toInt_le, ad_ti, sb_ti, ng_ti, ml_ti, tn_ti, Int32.reduceToInt] at *) <;> omega
      simp [c, c1, d, d1]
theorem err9 {k : Int32} (h : 0 ≤ k.toInt ∧ k.toInt < 6) (mem : MMt) (Q : Int32 → MMt → Prop) : L_X9_error k mem Q ↔ Q ((-1000000000 : Int32) - k) (up2 mem 67 k.toNatClampNeg (mem 67 k.toNatClampNeg + 1)) := by
  unfold L_X9_error
  have : vp_in k 6 := vp_ti.mpr h
  simp [this]
theorem err10 {k : Int32} (h : 0 ≤ k.toInt ∧ k.toInt < 6) (mem : MMt) (Q : Int32 → MMt → Prop) : L_X10_error k mem Q ↔ Q ((-1000000000 : Int32) - k) (up2 mem 79 k.toNatClampNeg (mem 79 k.toNatClampNeg + 1)) := by
  unfold L_X10_error
  have : vp_in k 6 := vp_ti.mpr h
  simp [this]
