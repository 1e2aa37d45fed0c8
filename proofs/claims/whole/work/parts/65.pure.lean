theorem by255n (v : Int32) : (v &&& 255).toBitVec.toNat = v.toBitVec.toNat % 256 := by
  show (v.toBitVec &&& 255#32).toNat = _
  rw [BitVec.toNat_and]
  exact Nat.and_two_pow_sub_one_eq_mod _ 8
theorem by255 {v : Int32} (hv : -128 ≤ v.toInt ∧ v.toInt ≤ 127) : (v &&& 255).toInt = if 0 ≤ v.toInt then v.toInt else v.toInt + 256 := by
  have h := by255n v
  have e1 : (v &&& 255).toInt = (v &&& 255).toBitVec.toInt := rfl
  have e2 : v.toInt = v.toBitVec.toInt := rfl
  rw [BitVec.toInt_eq_toNat_cond] at e1 e2
  have l1 := v.toBitVec.isLt
  split at e1 <;> split at e2 <;> split <;> omega
/-- a byte as the class holds it, and as the reference does -/
def BT (v c : Int32) : Prop := (0 ≤ c.toInt ∧ c.toInt ≤ 255) ∧ ((v.toInt = c.toInt ∧ c.toInt ≤ 127) ∨ (v.toInt = c.toInt - 256 ∧ 128 ≤ c.toInt))
theorem BT_of {v c : Int32} (hv : -128 ≤ v.toInt ∧ v.toInt ≤ 127) (h : c = v &&& 255) : BT v c := by
  have e := by255 hv
  rw [← h] at e
  unfold BT
  split at e <;> omega
theorem BT.lit {v c l : Int32} (h : BT v c) (hl : 0 ≤ l.toInt ∧ l.toInt ≤ 127) : v = l ↔ c = l := by
  obtain ⟨h1, h2⟩ := h
  rw [eq_ti, eq_ti]; omega
theorem BT.and {v c : Int32} (h : BT v c) : v &&& 255 = c := by
  obtain ⟨h1, h2⟩ := h
  have e := by255 (v := v) (by omega)
  rw [eq_ti, e]; split <;> omega
theorem BT.dig {v c : Int32} (h : BT v c) : (48 ≤ v.toInt ∧ v.toInt ≤ 57) ↔ (48 ≤ c.toInt ∧ c.toInt ≤ 57) := by
  obtain ⟨h1, h2⟩ := h; omega
theorem BT.eqd {v c : Int32} (h : BT v c) (hd : 48 ≤ c.toInt ∧ c.toInt ≤ 57) : v = c := by
  obtain ⟨h1, h2⟩ := h
  rw [eq_ti]; omega
/-- a loop, a step at a time -/
theorem LOOP_step {σ : Type} {body : (σ → Prop) → σ → Prop} {s s' : σ} (h1 : ∀ X : σ → Prop, X s' → body X s) (h2 : LOOP body s') : LOOP body s := by
  obtain ⟨I, ⟨n0, hI⟩, hb⟩ := h2
  refine ⟨fun k t => (k ≤ n0 ∧ I k t) ∨ (k = n0 + 1 ∧ t = s), ⟨n0 + 1, Or.inr ⟨rfl, rfl⟩⟩, fun k t hk => ?_⟩
  rcases hk with ⟨hk, ht⟩ | ⟨hk, ht⟩
  · have e : (fun t' => ∃ m, m < k ∧ ((m ≤ n0 ∧ I m t') ∨ (m = n0 + 1 ∧ t' = s))) = fun t' => ∃ m, m < k ∧ I m t' := by
      funext t'
      apply propext
      constructor
      · rintro ⟨m, hm, ⟨-, h⟩ | ⟨h, -⟩⟩
        · exact ⟨m, hm, h⟩
        · omega
      · rintro ⟨m, hm, h⟩
        exact ⟨m, hm, Or.inl ⟨by omega, h⟩⟩
    rw [e]; exact hb k t ht
  · subst hk; subst ht
    exact h1 _ ⟨n0, by omega, Or.inl ⟨Nat.le_refl _, hI⟩⟩
theorem LOOP_exit {σ : Type} {body : (σ → Prop) → σ → Prop} {s : σ} (h : ∀ X : σ → Prop, body X s) : LOOP body s := ⟨fun k t => k = 0 ∧ t = s, ⟨0, rfl, rfl⟩, fun k t ht => by obtain ⟨h1, h2⟩ := ht; subst h2; exact h _⟩
/-- which NAME it is -/
def nmI (u : Nat) (c : Int32) : Int32 := if u = 0 then (if c = 102 then 0 else if c = 109 then 1 else -1) else (if c = 115 then 0 else if c = 108 then 1 else if c = 116 then 2 else -1)
theorem c16 {c : Int32} (h : 0 ≤ c.toInt ∧ c.toInt ≤ 255) : (c.toUInt32 % 65536).toInt32 = c := by
  have e : c.toInt = c.toBitVec.toInt := rfl
  rw [BitVec.toInt_eq_toNat_cond] at e
  have l1 := c.toBitVec.isLt
  have e2 : c.toUInt32.toNat = c.toBitVec.toNat := rfl
  have e3 : c.toUInt32 % 65536 = c.toUInt32 := by
    apply UInt32.toNat_inj.mp
    rw [UInt32.toNat_mod, show (65536 : UInt32).toNat = 65536 from rfl, e2]
    split at e <;> omega
  rw [e3]; rfl
theorem c8 {c l : Int32} (h : 0 ≤ c.toInt ∧ c.toInt ≤ 255) (hl : 0 ≤ l.toInt ∧ l.toInt ≤ 127) : l = c.toInt8.toInt32 ↔ c = l := by
  have e : c.toInt8.toInt32.toInt = if c.toInt ≤ 127 then c.toInt else c.toInt - 256 := by
    rw [Int8.toInt_toInt32, Int32.toInt_toInt8, Int.bmod_def]
    split <;> split <;> omega
  rw [eq_ti, eq_ti, e]
  split <;> omega
theorem idx9 {u : Nat} (hu : u < 2) {c : Int32} (hc : 0 ≤ c.toInt ∧ c.toInt ≤ 255) (mem : MMt) (Q : Int32 → MMt → Prop) (h : Q (nmI u c) mem) : L_J0_indexOf_0f7a4 u ((c.toUInt32 % 65536).toInt32) mem Q := by
  rw [c16 hc]
  have c0 : ¬ c < 0 := by rw [Int32.lt_iff_toInt_lt]; simp only [Int32.reduceToInt]; omega
  have c255 : ¬ (255 : Int32) < c := by rw [Int32.lt_iff_toInt_lt]; simp only [Int32.reduceToInt]; omega
  unfold L_J0_indexOf_0f7a4 L_J0_indexOf_7cf53 L_J0_isLatin1_aae02 L_J0_length_8abf5 L_J0_coder_7d493 L_J1_indexOf_4cfef L_J1_canEncode_9a6ad L_J1_indexOfChar_4cfef B_J1_indexOfChar_4cfef_7
  refine ⟨fun d => absurd d (by decide), fun _ => ⟨fun d => absurd d c0, fun _ => ⟨fun d => absurd d c255, fun _ => ⟨fun _ => ?_, fun d => absurd d (by decide)⟩⟩⟩⟩
  rw [max_sp, min_sp]
  have hu' : u = 0 ∨ u = 1 := by omega
  rcases hu' with rfl | rfl
  · refine ⟨fun _ => ?_, fun d => absurd (by decide) d⟩
    rintro v1 rfl
    have a0 : ((strByt.getD 0 []).getD (Int32.toNatClampNeg 0) 0) = 102 := by decide
    have a1 : ((strByt.getD 0 []).getD (Int32.toNatClampNeg 1) 0) = 109 := by decide
    have q0 := c8 (l := 102) hc (by decide)
    have q1 := c8 (l := 109) hc (by decide)
    unfold nmI at h
    rw [if_pos rfl] at h
    by_cases e0 : c = 102
    · rw [if_pos e0] at h
      refine LOOP_exit fun X => ⟨fun d => absurd d (by dsimp only; decide), fun _ => ⟨vp_of (k := 0) rfl (by decide), fun d => absurd (a0.trans (q0.mpr e0)) d, fun _ => h⟩⟩
    · rw [if_neg e0] at h
      refine LOOP_step (s' := (1, mem)) (fun X hX => ⟨fun d => absurd d (by dsimp only; decide), fun _ => ⟨vp_of (k := 0) rfl (by decide), fun _ => by rintro v rfl; exact hX, fun d => absurd (q0.mp (a0.symm.trans d)) e0⟩⟩) ?_
      by_cases e1 : c = 109
      · rw [if_pos e1] at h
        refine LOOP_exit fun X => ⟨fun d => absurd d (by dsimp only; decide), fun _ => ⟨vp_of (k := 1) rfl (by decide), fun d => absurd (a1.trans (q1.mpr e1)) d, fun _ => h⟩⟩
      · rw [if_neg e1] at h
        refine LOOP_step (s' := (2, mem)) (fun X hX => ⟨fun d => absurd d (by dsimp only; decide), fun _ => ⟨vp_of (k := 1) rfl (by decide), fun _ => by rintro v rfl; exact hX, fun d => absurd (q1.mp (a1.symm.trans d)) e1⟩⟩) ?_
        exact LOOP_exit fun X => ⟨fun _ => h, fun d => absurd (by dsimp only; decide) d⟩
  · refine ⟨fun _ => ?_, fun d => absurd (by decide) d⟩
    rintro v1 rfl
    have a0 : ((strByt.getD 1 []).getD (Int32.toNatClampNeg 0) 0) = 115 := by decide
    have a1 : ((strByt.getD 1 []).getD (Int32.toNatClampNeg 1) 0) = 108 := by decide
    have a2 : ((strByt.getD 1 []).getD (Int32.toNatClampNeg 2) 0) = 116 := by decide
    have q0 := c8 (l := 115) hc (by decide)
    have q1 := c8 (l := 108) hc (by decide)
    have q2 := c8 (l := 116) hc (by decide)
    unfold nmI at h
    rw [if_neg (by decide)] at h
    by_cases e0 : c = 115
    · rw [if_pos e0] at h
      refine LOOP_exit fun X => ⟨fun d => absurd d (by dsimp only; decide), fun _ => ⟨vp_of (k := 0) rfl (by decide), fun d => absurd (a0.trans (q0.mpr e0)) d, fun _ => h⟩⟩
    · rw [if_neg e0] at h
      refine LOOP_step (s' := (1, mem)) (fun X hX => ⟨fun d => absurd d (by dsimp only; decide), fun _ => ⟨vp_of (k := 0) rfl (by decide), fun _ => by rintro v rfl; exact hX, fun d => absurd (q0.mp (a0.symm.trans d)) e0⟩⟩) ?_
      by_cases e1 : c = 108
      · rw [if_pos e1] at h
        refine LOOP_exit fun X => ⟨fun d => absurd d (by dsimp only; decide), fun _ => ⟨vp_of (k := 1) rfl (by decide), fun d => absurd (a1.trans (q1.mpr e1)) d, fun _ => h⟩⟩
      · rw [if_neg e1] at h
        refine LOOP_step (s' := (2, mem)) (fun X hX => ⟨fun d => absurd d (by dsimp only; decide), fun _ => ⟨vp_of (k := 1) rfl (by decide), fun _ => by rintro v rfl; exact hX, fun d => absurd (q1.mp (a1.symm.trans d)) e1⟩⟩) ?_
        by_cases e2 : c = 116
        · rw [if_pos e2] at h
          refine LOOP_exit fun X => ⟨fun d => absurd d (by dsimp only; decide), fun _ => ⟨vp_of (k := 2) rfl (by decide), fun d => absurd (a2.trans (q2.mpr e2)) d, fun _ => h⟩⟩
        · rw [if_neg e2] at h
          refine LOOP_step (s' := (3, mem)) (fun X hX => ⟨fun d => absurd d (by dsimp only; decide), fun _ => ⟨vp_of (k := 2) rfl (by decide), fun _ => by rintro v rfl; exact hX, fun d => absurd (q2.mp (a2.symm.trans d)) e2⟩⟩) ?_
          exact LOOP_exit fun X => ⟨fun _ => h, fun d => absurd (by dsimp only; decide) d⟩
