def L_X10_seed (a1 : Int32) (mem : MMt) (Q : Int32 → MMt → Prop) : Prop := (∀ v1 : Int32, v1 = mem 77 5 → (∀ m2 : MMt, m2 = up2 mem 77 5 a1 → Q v1 m2))
set_option maxRecDepth 4000 in
theorem g_X10_seed {sx : Nat × (Nat → Int32)} {rf : RFt} {Q : Int32 → MMt → Prop} (a1 : Int32) (hrf : RFok rf) (mem : MMt) (h : L_X10_seed a1 mem Q) : Ct sx yX10_seed cX10_seed 3 (some .int) 1 [.ref 76, .int a1] NX NX rf mem (QQi (RFok) Q) := by
  refine Ct_of [some (.ref 76), some (.int a1), none] (by decide +kernel) (by simp [Lof, Value.category]) rfl ?_
  unfold L_X10_seed at h
  refine G_aload_n (i := 0) pX10_seed_0 rfl rfl ?_
  refine G_getR (ci := 10) (j := 0) (N := 29) pX10_seed_1 fl_RX10_9 rfl ltk_76 shk_76 (by decide) rfl (hrf.lit 76 0 rfl) ?_
  refine G_iconst pX10_seed_4 ic_5 ?_
  refine G_ialdL (j := 5) pX10_seed_5 ltk_77 shk_77 (vpl (by decide)) (by decide) ?_
  obtain ⟨v1, e1⟩ : ∃ z : Int32, z = mem 77 5 := ⟨_, rfl⟩
  have h := h v1 e1
  refine G_istore_nW (L' := [some (.ref 76), some (.int a1), some (.int v1)]) pX10_seed_6 rfl e1.symm rfl ?_
  refine G_aload_n (i := 0) pX10_seed_7 rfl rfl ?_
  refine G_getR (ci := 10) (j := 0) (N := 29) pX10_seed_8 fl_RX10_9 rfl ltk_76 shk_76 (by decide) rfl (hrf.lit 76 0 rfl) ?_
  refine G_iconst pX10_seed_11 ic_5 ?_
  refine G_iload_n (i := 1) pX10_seed_12 rfl rfl ?_
  obtain ⟨m2, em2⟩ : ∃ z : MMt, z = up2 mem 77 5 a1 := ⟨_, rfl⟩
  have h := h m2 em2
  refine G_iastL (j := 5) pX10_seed_13 ltk_77 shk_77 (vpl (by decide)) (by decide) em2.symm ?_
  refine G_iload_n (i := 2) pX10_seed_14 rfl rfl ?_
  exact G_ireturn (len := 1) pX10_seed_15 ⟨hrf, _, rfl, h⟩ ⟨_, rfl, rfl⟩
def L_X10_begins (a1 : Int32) (mem : MMt) (Q : MMt → Prop) : Prop := (((40 : Int32) ≤ (mem 76 24) → Q mem) ∧ (¬ (40 : Int32) ≤ (mem 76 24) → (vp_in (mem 76 24) 40 ∧ ∀ m2 : MMt, m2 = up2 mem 89 (mem 76 24).toNatClampNeg a1 → (∀ m4 : MMt, m4 = up2 m2 76 24 ((m2 76 24) + (1 : Int32)) → Q m4))))
set_option maxRecDepth 4000 in
theorem g_X10_begins {sx : Nat × (Nat → Int32)} {rf : RFt} {Q : MMt → Prop} (a1 : Int32) (hrf : RFok rf) (mem : MMt) (h : L_X10_begins a1 mem Q) : Ct sx yX10_begins cX10_begins 2 none 1 [.ref 76, .int a1] NX NX rf mem (QQv (RFok) Q) := by
  refine Ct_of [some (.ref 76), some (.int a1)] (by decide +kernel) (by simp [Lof, Value.category]) rfl ?_
  unfold L_X10_begins at h
  refine G_aload_n (i := 0) pX10_begins_0 rfl rfl ?_
  refine G_getI (ci := 10) (j := 24) (N := 29) pX10_begins_1 fl_RX10_277 rfl ltk_76 shk_76 (by decide) rfl ?_
  refine G_bipush pX10_begins_4 bi_40 ?_
  refine G_icmp_ge pX10_begins_6 (fun c1 => ?_) (fun c1 => ?_)
  · have h := h.1 c1
    exact G_return (len := 1) pX10_begins_29 ⟨hrf, rfl, h⟩ rfl
  · have h := h.2 c1
    refine G_aload_n (i := 0) pX10_begins_9 rfl rfl ?_
    refine G_getR (ci := 10) (j := 23) (N := 29) pX10_begins_10 fl_RX10_46 rfl ltk_76 shk_76 (by decide) rfl (hrf.lit 76 23 rfl) ?_
    refine G_aload_n (i := 0) pX10_begins_13 rfl rfl ?_
    refine G_getI (ci := 10) (j := 24) (N := 29) pX10_begins_14 fl_RX10_277 rfl ltk_76 shk_76 (by decide) rfl ?_
    refine G_iload_n (i := 1) pX10_begins_17 rfl rfl ?_
    obtain ⟨hi3, h⟩ := h
    obtain ⟨m2, em2⟩ : ∃ z : MMt, z = up2 mem 89 (mem 76 24).toNatClampNeg a1 := ⟨_, rfl⟩
    have h := h m2 em2
    refine G_iastW pX10_begins_18 ltk_89 shk_89 hi3 em2.symm ?_
    refine G_aload_n (i := 0) pX10_begins_19 rfl rfl ?_
    refine G_dup pX10_begins_20 rfl ?_
    refine G_getI (ci := 10) (j := 24) (N := 29) pX10_begins_21 fl_RX10_277 rfl ltk_76 shk_76 (by decide) rfl ?_
    refine G_iconst pX10_begins_24 ic_1 ?_
    refine G_iadd pX10_begins_25 ?_
    obtain ⟨m4, em4⟩ : ∃ z : MMt, z = up2 m2 76 24 ((m2 76 24) + (1 : Int32)) := ⟨_, rfl⟩
    have h := h m4 em4
    refine G_putIW (ci := 10) (j := 24) (N := 29) pX10_begins_26 fw_RX10_277 rfl ltk_76 shk_76 (by decide) rfl (fun _ => ⟨rfl, rfl⟩) em4.symm ?_
    exact G_return (len := 1) pX10_begins_29 ⟨hrf, rfl, h⟩ rfl
def L_X10_above (a1 : Int32) (mem : MMt) (Q : Int32 → MMt → Prop) : Prop := ((¬ a1 = (4 : Int32) → ((¬ a1 = (5 : Int32) → ((¬ a1 = (6 : Int32) → Q (0 : Int32) mem) ∧ (a1 = (6 : Int32) → Q (1 : Int32) mem))) ∧ (a1 = (5 : Int32) → Q (3 : Int32) mem))) ∧ (a1 = (4 : Int32) → Q (2 : Int32) mem))
set_option maxRecDepth 4000 in
theorem g_X10_above {sx : Nat × (Nat → Int32)} {M : RFt → Prop} {rf : RFt} {Q : Int32 → MMt → Prop} (a1 : Int32) (hrf : M rf) (mem : MMt) (h : L_X10_above a1 mem Q) : Ct sx yX10_above cX10_above 1 (some .int) 1 [.int a1] NX NX rf mem (QQi (M) Q) := by
  refine Ct_of [some (.int a1)] (by decide +kernel) (by simp [Lof, Value.category]) rfl ?_
  unfold L_X10_above at h
  refine G_iload_n (i := 0) pX10_above_0 rfl rfl ?_
  refine G_iconst pX10_above_1 ic_4 ?_
  refine G_icmp_ne pX10_above_2 (fun c1 => ?_) (fun c1 => ?_)
  · have h := h.1 c1
    refine G_iload_n (i := 0) pX10_above_9 rfl rfl ?_
    refine G_iconst pX10_above_10 ic_5 ?_
    refine G_icmp_ne pX10_above_11 (fun c2 => ?_) (fun c2 => ?_)
    · have h := h.1 c2
      refine G_iload_n (i := 0) pX10_above_18 rfl rfl ?_
      refine G_bipush pX10_above_19 bi_6 ?_
      refine G_icmp_ne pX10_above_21 (fun c3 => ?_) (fun c3 => ?_)
      · have h := h.1 c3
        refine G_iconst pX10_above_28 ic_0 ?_
        exact G_ireturn (len := 1) pX10_above_29 ⟨hrf, _, rfl, h⟩ ⟨_, rfl, rfl⟩
      · have h := h.2 c3
        refine G_iconst pX10_above_24 ic_1 ?_
        refine G_goto pX10_above_25 ?_
        exact G_ireturn (len := 1) pX10_above_29 ⟨hrf, _, rfl, h⟩ ⟨_, rfl, rfl⟩
    · have h := h.2 c2
      refine G_iconst pX10_above_14 ic_3 ?_
      refine G_goto pX10_above_15 ?_
      exact G_ireturn (len := 1) pX10_above_29 ⟨hrf, _, rfl, h⟩ ⟨_, rfl, rfl⟩
  · have h := h.2 c1
    refine G_iconst pX10_above_5 ic_2 ?_
    refine G_goto pX10_above_6 ?_
    exact G_ireturn (len := 1) pX10_above_29 ⟨hrf, _, rfl, h⟩ ⟨_, rfl, rfl⟩
def L_X10_floats (R_X10_floats : Int32 → Int32 → MMt → (Int32 → MMt → Prop) → Prop) (a1 : Int32) (a2 : Int32) (mem : MMt) (Q : Int32 → MMt → Prop) : Prop := ((¬ a1 = 0 → ((a1 = (3 : Int32) → L_X10_begins (40 : Int32) mem (fun m3 => R_X10_floats (0 : Int32) a2 m3 (fun r5 m4 => Q (r5 * (3 : Int32)) m4))) ∧ (¬ a1 = (3 : Int32) → L_X10_above a1 mem (fun r7 m6 => R_X10_floats r7 a2 m6 (fun r9 m8 => Q r9 m8))))) ∧ (a1 = 0 → L_X10_begins (10 : Int32) mem (fun m10 => Q (a2 + (m10 76 25)) m10)))
set_option maxRecDepth 4000 in
theorem g_X10_floats {sx : Nat × (Nat → Int32)} {R_X10_floats : Int32 → Int32 → MMt → (Int32 → MMt → Prop) → Prop} {rf : RFt} {Q : Int32 → MMt → Prop} {d0 : Nat} (hd0 : 1 ≤ d0) (hR_X10_floats : ∀ (rf : RFt) (a1 : Int32) (a2 : Int32) (mem : MMt) (Q : Int32 → MMt → Prop), RFok rf → R_X10_floats a1 a2 mem Q → Ct sx yX10_floats cX10_floats 3 (some .int) d0 [.ref 76, .int a1, .int a2] NX NX rf mem (QQi (RFok) Q)) (a1 : Int32) (a2 : Int32) (hrf : RFok rf) (mem : MMt) (h : L_X10_floats R_X10_floats a1 a2 mem Q) : Ct sx yX10_floats cX10_floats 3 (some .int) (d0 + 1) [.ref 76, .int a1, .int a2] NX NX rf mem (QQi (RFok) Q) := by
  refine Ct_of [some (.ref 76), some (.int a1), some (.int a2)] (by decide +kernel) (by simp [Lof, Value.category]) rfl ?_
  unfold L_X10_floats at h
  refine G_iload_n (i := 1) pX10_floats_0 rfl rfl ?_
  refine G_if_ne pX10_floats_1 (fun c1 => ?_) (fun c1 => ?_)
  · have h := h.1 c1
    refine G_iload_n (i := 1) pX10_floats_17 rfl rfl ?_
    refine G_iconst pX10_floats_18 ic_3 ?_
    refine G_icmp_eq pX10_floats_19 (fun c2 => ?_) (fun c2 => ?_)
    · have h := h.1 c2
      refine G_aload_n (i := 0) pX10_floats_32 rfl rfl ?_
      refine G_bipush pX10_floats_33 bi_40 ?_
      refine G_callV1v (b := 76) (ci := 10) (N := 29) pX10_floats_35 (g_X10_begins (40 : Int32) hrf _ h) mV_X10_begins ml_RX10_280 (by omega) ⟨Nat.le_refl _, Nat.le_refl _, Nat.le_refl _⟩ (Nat.le_of_ble_eq_true rfl) ltk_76 shk_76 rfl ?_
      intro rf m3 hrf h
      refine G_aload_n (i := 0) pX10_floats_38 rfl rfl ?_
      refine G_iconst pX10_floats_39 ic_0 ?_
      refine G_iload_n (i := 2) pX10_floats_40 rfl rfl ?_
      refine G_callV2i (b := 76) (ci := 10) (N := 29) pX10_floats_41 (hR_X10_floats _ (0 : Int32) a2 _ _ hrf h) mV_X10_floats ml_RX10_289 (Nat.le_refl _) ⟨Nat.le_refl _, Nat.le_refl _, Nat.le_refl _⟩ (Nat.le_of_ble_eq_true rfl) ltk_76 shk_76 rfl ?_
      intro r5 rf m4 hrf h hr5
      refine G_iconst pX10_floats_44 ic_3 ?_
      refine G_imul pX10_floats_45 ?_
      exact G_ireturn (len := 1) pX10_floats_46 ⟨hrf, _, rfl, h⟩ ⟨_, rfl, rfl⟩
    · have h := h.2 c2
      refine G_aload_n (i := 0) pX10_floats_22 rfl rfl ?_
      refine G_iload_n (i := 1) pX10_floats_23 rfl rfl ?_
      refine G_callS1i pX10_floats_24 (g_X10_above a1 hrf _ h) mS_X10_above ml_RX10_286 (by omega) ⟨Nat.le_refl _, Nat.le_refl _, Nat.le_refl _⟩ (Nat.le_of_ble_eq_true rfl) ?_
      intro r7 rf m6 hrf h hr7
      refine G_iload_n (i := 2) pX10_floats_27 rfl rfl ?_
      refine G_callV2i (b := 76) (ci := 10) (N := 29) pX10_floats_28 (hR_X10_floats _ r7 a2 _ _ hrf h) mV_X10_floats ml_RX10_289 (Nat.le_refl _) ⟨Nat.le_refl _, Nat.le_refl _, Nat.le_refl _⟩ (Nat.le_of_ble_eq_true rfl) ltk_76 shk_76 rfl ?_
      intro r9 rf m8 hrf h hr9
      exact G_ireturn (len := 1) pX10_floats_31 ⟨hrf, _, rfl, h⟩ ⟨_, rfl, rfl⟩
  · have h := h.2 c1
    refine G_aload_n (i := 0) pX10_floats_4 rfl rfl ?_
    refine G_bipush pX10_floats_5 bi_10 ?_
    refine G_callV1v (b := 76) (ci := 10) (N := 29) pX10_floats_7 (g_X10_begins (10 : Int32) hrf _ h) mV_X10_begins ml_RX10_280 (by omega) ⟨Nat.le_refl _, Nat.le_refl _, Nat.le_refl _⟩ (Nat.le_of_ble_eq_true rfl) ltk_76 shk_76 rfl ?_
    intro rf m10 hrf h
    refine G_iload_n (i := 2) pX10_floats_10 rfl rfl ?_
    refine G_aload_n (i := 0) pX10_floats_11 rfl rfl ?_
    refine G_getI (ci := 10) (j := 25) (N := 29) pX10_floats_12 fl_RX10_283 rfl ltk_76 shk_76 (by decide) rfl ?_
    refine G_iadd pX10_floats_15 ?_
    exact G_ireturn (len := 1) pX10_floats_16 ⟨hrf, _, rfl, h⟩ ⟨_, rfl, rfl⟩
def WW_X10_floats (n : Nat) : (Int32 → Int32 → MMt → (Int32 → MMt → Prop) → Prop) := Nat.rec (motive := fun _ => (Int32 → Int32 → MMt → (Int32 → MMt → Prop) → Prop)) (fun _ _ _ _ => False) (fun _ ih => L_X10_floats ih) n
def W_X10_floats (n : Nat) : Int32 → Int32 → MMt → (Int32 → MMt → Prop) → Prop := WW_X10_floats n
theorem W_X10_floats_s (n : Nat) : W_X10_floats (n + 1) = L_X10_floats (W_X10_floats n) := rfl
theorem gWW_X10_floats {sx : Nat × (Nat → Int32)} (n : Nat) : (∀ (rf : RFt) (a1 : Int32) (a2 : Int32) (mem : MMt) (Q : Int32 → MMt → Prop), RFok rf → W_X10_floats n a1 a2 mem Q → Ct sx yX10_floats cX10_floats 3 (some .int) (1 + n) [.ref 76, .int a1, .int a2] NX NX rf mem (QQi (RFok) Q)) := by
  induction n with
  | zero => exact (fun rf a1 a2 mem Q hrf h => h.elim)
  | succ n ih =>
    exact (fun rf a1 a2 mem Q hrf h => g_X10_floats (d0 := 1 + n) (by omega) (ih) a1 a2 hrf mem h)
theorem gW_X10_floats {sx : Nat × (Nat → Int32)} (n : Nat) {rf : RFt} {Q : Int32 → MMt → Prop} (a1 : Int32) (a2 : Int32) (hrf : RFok rf) (mem : MMt) (h : W_X10_floats n a1 a2 mem Q) : Ct sx yX10_floats cX10_floats 3 (some .int) (1 + n) [.ref 76, .int a1, .int a2] NX NX rf mem (QQi (RFok) Q) := (gWW_X10_floats n) rf a1 a2 mem Q hrf h
def L_X10_hangs (R_X10_hangs : Int32 → Int32 → MMt → (Int32 → MMt → Prop) → Prop) (a1 : Int32) (a2 : Int32) (mem : MMt) (Q : Int32 → MMt → Prop) : Prop := ((a1 < (0 : Int32) → L_X10_above a1 mem (fun r2 m1 => R_X10_hangs r2 a2 m1 (fun r4 m3 => Q r4 m3))) ∧ ((4 : Int32) < a1 → L_X10_above a1 mem (fun r2 m1 => R_X10_hangs r2 a2 m1 (fun r4 m3 => Q r4 m3))) ∧ (a1 = (0 : Int32) → L_X10_begins (12 : Int32) mem (fun m7 => Q (a2 - (m7 76 27)) m7)) ∧ (a1 = (1 : Int32) → L_X10_above a1 mem (fun r9 m8 => R_X10_hangs r9 a2 m8 (fun r11 m10 => Q r11 m10))) ∧ (a1 = (2 : Int32) → L_X10_begins (30 : Int32) mem (fun m12 => R_X10_hangs (0 : Int32) a2 m12 (fun r14 m13 => Q (-r14) m13))) ∧ (a1 = (3 : Int32) → L_X10_above a1 mem (fun r16 m15 => R_X10_hangs r16 a2 m15 (fun r18 m17 => Q r18 m17))) ∧ (a1 = (4 : Int32) → L_X10_begins (50 : Int32) mem (fun m19 => R_X10_hangs (2 : Int32) a2 m19 (fun r21 m20 => Q (r21 ^^^ (m20 76 25)) m20))))
set_option maxRecDepth 4000 in
theorem g_X10_hangs {sx : Nat × (Nat → Int32)} {R_X10_hangs : Int32 → Int32 → MMt → (Int32 → MMt → Prop) → Prop} {rf : RFt} {Q : Int32 → MMt → Prop} {d0 : Nat} (hd0 : 1 ≤ d0) (hR_X10_hangs : ∀ (rf : RFt) (a1 : Int32) (a2 : Int32) (mem : MMt) (Q : Int32 → MMt → Prop), RFok rf → R_X10_hangs a1 a2 mem Q → Ct sx yX10_hangs cX10_hangs 3 (some .int) d0 [.ref 76, .int a1, .int a2] NX NX rf mem (QQi (RFok) Q)) (a1 : Int32) (a2 : Int32) (hrf : RFok rf) (mem : MMt) (h : L_X10_hangs R_X10_hangs a1 a2 mem Q) : Ct sx yX10_hangs cX10_hangs 3 (some .int) (d0 + 1) [.ref 76, .int a1, .int a2] NX NX rf mem (QQi (RFok) Q) := by
  refine Ct_of [some (.ref 76), some (.int a1), some (.int a2)] (by decide +kernel) (by simp [Lof, Value.category]) rfl ?_
  unfold L_X10_hangs at h
  refine G_iload_n (i := 1) pX10_hangs_0 rfl rfl ?_
  by_cases c5 : a1 < (0 : Int32)
  · have h := h.1 c5
    refine G_tsOut (tgt := 81) pX10_hangs_1 (Or.inl (ts_lt c5 (by decide))) (by decide) ?_
    refine G_aload_n (i := 0) pX10_hangs_81 rfl rfl ?_
    refine G_iload_n (i := 1) pX10_hangs_82 rfl rfl ?_
    refine G_callS1i pX10_hangs_83 (g_X10_above a1 hrf _ h) mS_X10_above ml_RX10_286 (by omega) ⟨Nat.le_refl _, Nat.le_refl _, Nat.le_refl _⟩ (Nat.le_of_ble_eq_true rfl) ?_
    intro r2 rf m1 hrf h hr2
    refine G_iload_n (i := 2) pX10_hangs_86 rfl rfl ?_
    refine G_callV2i (b := 76) (ci := 10) (N := 29) pX10_hangs_87 (hR_X10_hangs _ r2 a2 _ _ hrf h) mV_X10_hangs ml_RX10_298 (Nat.le_refl _) ⟨Nat.le_refl _, Nat.le_refl _, Nat.le_refl _⟩ (Nat.le_of_ble_eq_true rfl) ltk_76 shk_76 rfl ?_
    intro r4 rf m3 hrf h hr4
    exact G_ireturn (len := 1) pX10_hangs_90 ⟨hrf, _, rfl, h⟩ ⟨_, rfl, rfl⟩
  by_cases c6 : (4 : Int32) < a1
  · have h := h.2.1 c6
    refine G_tsOut (tgt := 81) pX10_hangs_1 (Or.inr (ts_gt c6 (by decide))) (by decide) ?_
    refine G_aload_n (i := 0) pX10_hangs_81 rfl rfl ?_
    refine G_iload_n (i := 1) pX10_hangs_82 rfl rfl ?_
    refine G_callS1i pX10_hangs_83 (g_X10_above a1 hrf _ h) mS_X10_above ml_RX10_286 (by omega) ⟨Nat.le_refl _, Nat.le_refl _, Nat.le_refl _⟩ (Nat.le_of_ble_eq_true rfl) ?_
    intro r2 rf m1 hrf h hr2
    refine G_iload_n (i := 2) pX10_hangs_86 rfl rfl ?_
    refine G_callV2i (b := 76) (ci := 10) (N := 29) pX10_hangs_87 (hR_X10_hangs _ r2 a2 _ _ hrf h) mV_X10_hangs ml_RX10_298 (Nat.le_refl _) ⟨Nat.le_refl _, Nat.le_refl _, Nat.le_refl _⟩ (Nat.le_of_ble_eq_true rfl) ltk_76 shk_76 rfl ?_
    intro r4 rf m3 hrf h hr4
    exact G_ireturn (len := 1) pX10_hangs_90 ⟨hrf, _, rfl, h⟩ ⟨_, rfl, rfl⟩
  rcases tsx_0_4 c5 c6 with hc | hc | hc | hc | hc
  · have h := h.2.2.1 hc
    refine G_tsInE (v := (0 : Int32)) (off := 35) (tgt := 36) pX10_hangs_1 hc (by decide) ?_
    refine G_aload_n (i := 0) pX10_hangs_36 rfl rfl ?_
    refine G_bipush pX10_hangs_37 bi_12 ?_
    refine G_callV1v (b := 76) (ci := 10) (N := 29) pX10_hangs_39 (g_X10_begins (12 : Int32) hrf _ h) mV_X10_begins ml_RX10_280 (by omega) ⟨Nat.le_refl _, Nat.le_refl _, Nat.le_refl _⟩ (Nat.le_of_ble_eq_true rfl) ltk_76 shk_76 rfl ?_
    intro rf m7 hrf h
    refine G_iload_n (i := 2) pX10_hangs_42 rfl rfl ?_
    refine G_aload_n (i := 0) pX10_hangs_43 rfl rfl ?_
    refine G_getI (ci := 10) (j := 27) (N := 29) pX10_hangs_44 fl_RX10_301 rfl ltk_76 shk_76 (by decide) rfl ?_
    refine G_isub pX10_hangs_47 ?_
    exact G_ireturn (len := 1) pX10_hangs_48 ⟨hrf, _, rfl, h⟩ ⟨_, rfl, rfl⟩
  · have h := h.2.2.2.1 hc
    refine G_tsInE (v := (1 : Int32)) (off := 80) (tgt := 81) pX10_hangs_1 hc (by decide) ?_
    refine G_aload_n (i := 0) pX10_hangs_81 rfl rfl ?_
    refine G_iload_n (i := 1) pX10_hangs_82 rfl rfl ?_
    refine G_callS1i pX10_hangs_83 (g_X10_above a1 hrf _ h) mS_X10_above ml_RX10_286 (by omega) ⟨Nat.le_refl _, Nat.le_refl _, Nat.le_refl _⟩ (Nat.le_of_ble_eq_true rfl) ?_
    intro r9 rf m8 hrf h hr9
    refine G_iload_n (i := 2) pX10_hangs_86 rfl rfl ?_
    refine G_callV2i (b := 76) (ci := 10) (N := 29) pX10_hangs_87 (hR_X10_hangs _ r9 a2 _ _ hrf h) mV_X10_hangs ml_RX10_298 (Nat.le_refl _) ⟨Nat.le_refl _, Nat.le_refl _, Nat.le_refl _⟩ (Nat.le_of_ble_eq_true rfl) ltk_76 shk_76 rfl ?_
    intro r11 rf m10 hrf h hr11
    exact G_ireturn (len := 1) pX10_hangs_90 ⟨hrf, _, rfl, h⟩ ⟨_, rfl, rfl⟩
  · have h := h.2.2.2.2.1 hc
    refine G_tsInE (v := (2 : Int32)) (off := 48) (tgt := 49) pX10_hangs_1 hc (by decide) ?_
    refine G_aload_n (i := 0) pX10_hangs_49 rfl rfl ?_
    refine G_bipush pX10_hangs_50 bi_30 ?_
    refine G_callV1v (b := 76) (ci := 10) (N := 29) pX10_hangs_52 (g_X10_begins (30 : Int32) hrf _ h) mV_X10_begins ml_RX10_280 (by omega) ⟨Nat.le_refl _, Nat.le_refl _, Nat.le_refl _⟩ (Nat.le_of_ble_eq_true rfl) ltk_76 shk_76 rfl ?_
    intro rf m12 hrf h
    refine G_aload_n (i := 0) pX10_hangs_55 rfl rfl ?_
    refine G_iconst pX10_hangs_56 ic_0 ?_
    refine G_iload_n (i := 2) pX10_hangs_57 rfl rfl ?_
    refine G_callV2i (b := 76) (ci := 10) (N := 29) pX10_hangs_58 (hR_X10_hangs _ (0 : Int32) a2 _ _ hrf h) mV_X10_hangs ml_RX10_298 (Nat.le_refl _) ⟨Nat.le_refl _, Nat.le_refl _, Nat.le_refl _⟩ (Nat.le_of_ble_eq_true rfl) ltk_76 shk_76 rfl ?_
    intro r14 rf m13 hrf h hr14
    refine G_ineg pX10_hangs_61 ?_
    exact G_ireturn (len := 1) pX10_hangs_62 ⟨hrf, _, rfl, h⟩ ⟨_, rfl, rfl⟩
  · have h := h.2.2.2.2.2.1 hc
    refine G_tsInE (v := (3 : Int32)) (off := 80) (tgt := 81) pX10_hangs_1 hc (by decide) ?_
    refine G_aload_n (i := 0) pX10_hangs_81 rfl rfl ?_
    refine G_iload_n (i := 1) pX10_hangs_82 rfl rfl ?_
    refine G_callS1i pX10_hangs_83 (g_X10_above a1 hrf _ h) mS_X10_above ml_RX10_286 (by omega) ⟨Nat.le_refl _, Nat.le_refl _, Nat.le_refl _⟩ (Nat.le_of_ble_eq_true rfl) ?_
    intro r16 rf m15 hrf h hr16
    refine G_iload_n (i := 2) pX10_hangs_86 rfl rfl ?_
    refine G_callV2i (b := 76) (ci := 10) (N := 29) pX10_hangs_87 (hR_X10_hangs _ r16 a2 _ _ hrf h) mV_X10_hangs ml_RX10_298 (Nat.le_refl _) ⟨Nat.le_refl _, Nat.le_refl _, Nat.le_refl _⟩ (Nat.le_of_ble_eq_true rfl) ltk_76 shk_76 rfl ?_
    intro r18 rf m17 hrf h hr18
    exact G_ireturn (len := 1) pX10_hangs_90 ⟨hrf, _, rfl, h⟩ ⟨_, rfl, rfl⟩
  · have h := h.2.2.2.2.2.2 hc
    refine G_tsInE (v := (4 : Int32)) (off := 62) (tgt := 63) pX10_hangs_1 hc (by decide) ?_
    refine G_aload_n (i := 0) pX10_hangs_63 rfl rfl ?_
    refine G_bipush pX10_hangs_64 bi_50 ?_
    refine G_callV1v (b := 76) (ci := 10) (N := 29) pX10_hangs_66 (g_X10_begins (50 : Int32) hrf _ h) mV_X10_begins ml_RX10_280 (by omega) ⟨Nat.le_refl _, Nat.le_refl _, Nat.le_refl _⟩ (Nat.le_of_ble_eq_true rfl) ltk_76 shk_76 rfl ?_
    intro rf m19 hrf h
    refine G_aload_n (i := 0) pX10_hangs_69 rfl rfl ?_
    refine G_iconst pX10_hangs_70 ic_2 ?_
    refine G_iload_n (i := 2) pX10_hangs_71 rfl rfl ?_
    refine G_callV2i (b := 76) (ci := 10) (N := 29) pX10_hangs_72 (hR_X10_hangs _ (2 : Int32) a2 _ _ hrf h) mV_X10_hangs ml_RX10_298 (Nat.le_refl _) ⟨Nat.le_refl _, Nat.le_refl _, Nat.le_refl _⟩ (Nat.le_of_ble_eq_true rfl) ltk_76 shk_76 rfl ?_
    intro r21 rf m20 hrf h hr21
    refine G_aload_n (i := 0) pX10_hangs_75 rfl rfl ?_
    refine G_getI (ci := 10) (j := 25) (N := 29) pX10_hangs_76 fl_RX10_283 rfl ltk_76 shk_76 (by decide) rfl ?_
    refine G_ixor pX10_hangs_79 ?_
    exact G_ireturn (len := 1) pX10_hangs_80 ⟨hrf, _, rfl, h⟩ ⟨_, rfl, rfl⟩
def WW_X10_hangs (n : Nat) : (Int32 → Int32 → MMt → (Int32 → MMt → Prop) → Prop) := Nat.rec (motive := fun _ => (Int32 → Int32 → MMt → (Int32 → MMt → Prop) → Prop)) (fun _ _ _ _ => False) (fun _ ih => L_X10_hangs ih) n
def W_X10_hangs (n : Nat) : Int32 → Int32 → MMt → (Int32 → MMt → Prop) → Prop := WW_X10_hangs n
theorem W_X10_hangs_s (n : Nat) : W_X10_hangs (n + 1) = L_X10_hangs (W_X10_hangs n) := rfl
theorem gWW_X10_hangs {sx : Nat × (Nat → Int32)} (n : Nat) : (∀ (rf : RFt) (a1 : Int32) (a2 : Int32) (mem : MMt) (Q : Int32 → MMt → Prop), RFok rf → W_X10_hangs n a1 a2 mem Q → Ct sx yX10_hangs cX10_hangs 3 (some .int) (1 + n) [.ref 76, .int a1, .int a2] NX NX rf mem (QQi (RFok) Q)) := by
  induction n with
  | zero => exact (fun rf a1 a2 mem Q hrf h => h.elim)
  | succ n ih =>
    exact (fun rf a1 a2 mem Q hrf h => g_X10_hangs (d0 := 1 + n) (by omega) (ih) a1 a2 hrf mem h)
theorem gW_X10_hangs {sx : Nat × (Nat → Int32)} (n : Nat) {rf : RFt} {Q : Int32 → MMt → Prop} (a1 : Int32) (a2 : Int32) (hrf : RFok rf) (mem : MMt) (h : W_X10_hangs n a1 a2 mem Q) : Ct sx yX10_hangs cX10_hangs 3 (some .int) (1 + n) [.ref 76, .int a1, .int a2] NX NX rf mem (QQi (RFok) Q) := (gWW_X10_hangs n) rf a1 a2 mem Q hrf h
def L_X10_falls (R_X10_falls : Int32 → Int32 → MMt → (Int32 → MMt → Prop) → Prop) (a1 : Int32) (a2 : Int32) (mem : MMt) (Q : Int32 → MMt → Prop) : Prop := ((a1 = (0 : Int32) → L_X10_begins (11 : Int32) mem (fun m2 => W_X10_floats 20 (m2 76 26) a2 m2 (fun r4 m3 => Q (r4 * (2 : Int32)) m3))) ∧ (a1 = (1 : Int32) → L_X10_begins (20 : Int32) mem (fun m6 => R_X10_falls (0 : Int32) a2 m6 (fun r8 m7 => W_X10_hangs 20 (m7 76 26) (1 : Int32) m7 (fun r10 m9 => Q (r8 - r10) m9)))) ∧ (a1 = (6 : Int32) → L_X10_begins (70 : Int32) mem (fun m12 => R_X10_falls (1 : Int32) (a2 + (1 : Int32)) m12 (fun r14 m13 => Q r14 m13))) ∧ (¬ a1 = (0 : Int32) → ¬ a1 = (1 : Int32) → ¬ a1 = (6 : Int32) → L_X10_above a1 mem (fun r16 m15 => R_X10_falls r16 a2 m15 (fun r18 m17 => Q r18 m17))))
set_option maxRecDepth 4000 in
theorem g_X10_falls {sx : Nat × (Nat → Int32)} {R_X10_falls : Int32 → Int32 → MMt → (Int32 → MMt → Prop) → Prop} {rf : RFt} {Q : Int32 → MMt → Prop} {d0 : Nat} (hd0 : 22 ≤ d0) (hR_X10_falls : ∀ (rf : RFt) (a1 : Int32) (a2 : Int32) (mem : MMt) (Q : Int32 → MMt → Prop), RFok rf → R_X10_falls a1 a2 mem Q → Ct sx yX10_falls cX10_falls 4 (some .int) d0 [.ref 76, .int a1, .int a2] NX NX rf mem (QQi (RFok) Q)) (a1 : Int32) (a2 : Int32) (hrf : RFok rf) (mem : MMt) (h : L_X10_falls R_X10_falls a1 a2 mem Q) : Ct sx yX10_falls cX10_falls 4 (some .int) (d0 + 1) [.ref 76, .int a1, .int a2] NX NX rf mem (QQi (RFok) Q) := by
  refine Ct_of [some (.ref 76), some (.int a1), some (.int a2), none] (by decide +kernel) (by simp [Lof, Value.category]) rfl ?_
  unfold L_X10_falls at h
  refine G_iload_n (i := 1) pX10_falls_0 rfl rfl ?_
  by_cases c1 : a1 = (0 : Int32)
  · have h := h.1 c1
    refine G_lsE (v := (0 : Int32)) (off := 35) (tgt := 36) pX10_falls_1 c1 (by decide) (by decide) (by decide) ?_
    refine G_aload_n (i := 0) pX10_falls_36 rfl rfl ?_
    refine G_bipush pX10_falls_37 bi_11 ?_
    refine G_callV1v (b := 76) (ci := 10) (N := 29) pX10_falls_39 (g_X10_begins (11 : Int32) hrf _ h) mV_X10_begins ml_RX10_280 (by omega) ⟨Nat.le_refl _, Nat.le_refl _, Nat.le_refl _⟩ (Nat.le_of_ble_eq_true rfl) ltk_76 shk_76 rfl ?_
    intro rf m2 hrf h
    refine G_aload_n (i := 0) pX10_falls_42 rfl rfl ?_
    refine G_aload_n (i := 0) pX10_falls_43 rfl rfl ?_
    refine G_getI (ci := 10) (j := 26) (N := 29) pX10_falls_44 fl_RX10_292 rfl ltk_76 shk_76 (by decide) rfl ?_
    refine G_iload_n (i := 2) pX10_falls_47 rfl rfl ?_
    refine G_callV2i (b := 76) (ci := 10) (N := 29) pX10_falls_48 (gW_X10_floats 20 (m2 76 26) a2 hrf _ h) mV_X10_floats ml_RX10_289 (by omega) ⟨Nat.le_refl _, Nat.le_refl _, Nat.le_refl _⟩ (Nat.le_of_ble_eq_true rfl) ltk_76 shk_76 rfl ?_
    intro r4 rf m3 hrf h hr4
    refine G_iconst pX10_falls_51 ic_2 ?_
    refine G_imul pX10_falls_52 ?_
    exact G_ireturn (len := 1) pX10_falls_53 ⟨hrf, _, rfl, h⟩ ⟨_, rfl, rfl⟩
  by_cases c5 : a1 = (1 : Int32)
  · have h := h.2.1 c5
    refine G_lsE (v := (1 : Int32)) (off := 53) (tgt := 54) pX10_falls_1 c5 (by decide) (by decide) (by decide) ?_
    refine G_aload_n (i := 0) pX10_falls_54 rfl rfl ?_
    refine G_bipush pX10_falls_55 bi_20 ?_
    refine G_callV1v (b := 76) (ci := 10) (N := 29) pX10_falls_57 (g_X10_begins (20 : Int32) hrf _ h) mV_X10_begins ml_RX10_280 (by omega) ⟨Nat.le_refl _, Nat.le_refl _, Nat.le_refl _⟩ (Nat.le_of_ble_eq_true rfl) ltk_76 shk_76 rfl ?_
    intro rf m6 hrf h
    refine G_aload_n (i := 0) pX10_falls_60 rfl rfl ?_
    refine G_iconst pX10_falls_61 ic_0 ?_
    refine G_iload_n (i := 2) pX10_falls_62 rfl rfl ?_
    refine G_callV2i (b := 76) (ci := 10) (N := 29) pX10_falls_63 (hR_X10_falls _ (0 : Int32) a2 _ _ hrf h) mV_X10_falls ml_RX10_295 (Nat.le_refl _) ⟨Nat.le_refl _, Nat.le_refl _, Nat.le_refl _⟩ (Nat.le_of_ble_eq_true rfl) ltk_76 shk_76 rfl ?_
    intro r8 rf m7 hrf h hr8
    refine G_istore_n (i := 3) (L' := [some (.ref 76), some (.int a1), some (.int a2), some (.int r8)]) pX10_falls_66 rfl rfl ?_
    refine G_iload_n (i := 3) pX10_falls_67 rfl rfl ?_
    refine G_aload_n (i := 0) pX10_falls_68 rfl rfl ?_
    refine G_aload_n (i := 0) pX10_falls_69 rfl rfl ?_
    refine G_getI (ci := 10) (j := 26) (N := 29) pX10_falls_70 fl_RX10_292 rfl ltk_76 shk_76 (by decide) rfl ?_
    refine G_iconst pX10_falls_73 ic_1 ?_
    refine G_callV2i (b := 76) (ci := 10) (N := 29) pX10_falls_74 (gW_X10_hangs 20 (m7 76 26) (1 : Int32) hrf _ h) mV_X10_hangs ml_RX10_298 (by omega) ⟨Nat.le_refl _, Nat.le_refl _, Nat.le_refl _⟩ (Nat.le_of_ble_eq_true rfl) ltk_76 shk_76 rfl ?_
    intro r10 rf m9 hrf h hr10
    refine G_isub pX10_falls_77 ?_
    exact G_ireturn (len := 1) pX10_falls_78 ⟨hrf, _, rfl, h⟩ ⟨_, rfl, rfl⟩
  by_cases c11 : a1 = (6 : Int32)
  · have h := h.2.2.1 c11
    refine G_lsE (v := (6 : Int32)) (off := 78) (tgt := 79) pX10_falls_1 c11 (by decide) (by decide) (by decide) ?_
    refine G_aload_n (i := 0) pX10_falls_79 rfl rfl ?_
    refine G_bipush pX10_falls_80 bi_70 ?_
    refine G_callV1v (b := 76) (ci := 10) (N := 29) pX10_falls_82 (g_X10_begins (70 : Int32) hrf _ h) mV_X10_begins ml_RX10_280 (by omega) ⟨Nat.le_refl _, Nat.le_refl _, Nat.le_refl _⟩ (Nat.le_of_ble_eq_true rfl) ltk_76 shk_76 rfl ?_
    intro rf m12 hrf h
    refine G_aload_n (i := 0) pX10_falls_85 rfl rfl ?_
    refine G_iconst pX10_falls_86 ic_1 ?_
    refine G_iload_n (i := 2) pX10_falls_87 rfl rfl ?_
    refine G_iconst pX10_falls_88 ic_1 ?_
    refine G_iadd pX10_falls_89 ?_
    refine G_callV2i (b := 76) (ci := 10) (N := 29) pX10_falls_90 (hR_X10_falls _ (1 : Int32) (a2 + (1 : Int32)) _ _ hrf h) mV_X10_falls ml_RX10_295 (Nat.le_refl _) ⟨Nat.le_refl _, Nat.le_refl _, Nat.le_refl _⟩ (Nat.le_of_ble_eq_true rfl) ltk_76 shk_76 rfl ?_
    intro r14 rf m13 hrf h hr14
    exact G_ireturn (len := 1) pX10_falls_93 ⟨hrf, _, rfl, h⟩ ⟨_, rfl, rfl⟩
  refine G_ls (off := 93) (tgt := 94) pX10_falls_1 (by decide) ((lv_osw c1 (by decide)).trans ((lv_osw c5 (by decide)).trans ((lv_osw c11 (by decide)).trans rfl))) (by decide) ?_
  have h := h.2.2.2 c1 c5 c11
  refine G_aload_n (i := 0) pX10_falls_94 rfl rfl ?_
  refine G_iload_n (i := 1) pX10_falls_95 rfl rfl ?_
  refine G_callS1i pX10_falls_96 (g_X10_above a1 hrf _ h) mS_X10_above ml_RX10_286 (by omega) ⟨Nat.le_refl _, Nat.le_refl _, Nat.le_refl _⟩ (Nat.le_of_ble_eq_true rfl) ?_
  intro r16 rf m15 hrf h hr16
  refine G_iload_n (i := 2) pX10_falls_99 rfl rfl ?_
  refine G_callV2i (b := 76) (ci := 10) (N := 29) pX10_falls_100 (hR_X10_falls _ r16 a2 _ _ hrf h) mV_X10_falls ml_RX10_295 (Nat.le_refl _) ⟨Nat.le_refl _, Nat.le_refl _, Nat.le_refl _⟩ (Nat.le_of_ble_eq_true rfl) ltk_76 shk_76 rfl ?_
  intro r18 rf m17 hrf h hr18
  exact G_ireturn (len := 1) pX10_falls_103 ⟨hrf, _, rfl, h⟩ ⟨_, rfl, rfl⟩
def WW_X10_falls (n : Nat) : (Int32 → Int32 → MMt → (Int32 → MMt → Prop) → Prop) := Nat.rec (motive := fun _ => (Int32 → Int32 → MMt → (Int32 → MMt → Prop) → Prop)) (fun _ _ _ _ => False) (fun _ ih => L_X10_falls ih) n
def W_X10_falls (n : Nat) : Int32 → Int32 → MMt → (Int32 → MMt → Prop) → Prop := WW_X10_falls n
theorem W_X10_falls_s (n : Nat) : W_X10_falls (n + 1) = L_X10_falls (W_X10_falls n) := rfl
theorem gWW_X10_falls {sx : Nat × (Nat → Int32)} (n : Nat) : (∀ (rf : RFt) (a1 : Int32) (a2 : Int32) (mem : MMt) (Q : Int32 → MMt → Prop), RFok rf → W_X10_falls n a1 a2 mem Q → Ct sx yX10_falls cX10_falls 4 (some .int) (22 + n) [.ref 76, .int a1, .int a2] NX NX rf mem (QQi (RFok) Q)) := by
  induction n with
  | zero => exact (fun rf a1 a2 mem Q hrf h => h.elim)
  | succ n ih =>
    exact (fun rf a1 a2 mem Q hrf h => g_X10_falls (d0 := 22 + n) (by omega) (ih) a1 a2 hrf mem h)
theorem gW_X10_falls {sx : Nat × (Nat → Int32)} (n : Nat) {rf : RFt} {Q : Int32 → MMt → Prop} (a1 : Int32) (a2 : Int32) (hrf : RFok rf) (mem : MMt) (h : W_X10_falls n a1 a2 mem Q) : Ct sx yX10_falls cX10_falls 4 (some .int) (22 + n) [.ref 76, .int a1, .int a2] NX NX rf mem (QQi (RFok) Q) := (gWW_X10_falls n) rf a1 a2 mem Q hrf h
def L_X10_tells (R_X10_tells : Int32 → Int32 → MMt → (Int32 → MMt → Prop) → Prop) (a1 : Int32) (a2 : Int32) (mem : MMt) (Q : Int32 → MMt → Prop) : Prop := ((a1 = (0 : Int32) → L_X10_begins (13 : Int32) mem (fun m2 => W_X10_falls 20 (m2 76 26) a2 m2 (fun r4 m3 => W_X10_hangs 20 (m3 76 26) a2 m3 (fun r6 m5 => Q (r4 ^^^ r6) m5)))) ∧ (a1 = (4 : Int32) → L_X10_begins (51 : Int32) mem (fun m8 => W_X10_falls 20 (m8 76 26) a2 m8 (fun r10 m9 => R_X10_tells (2 : Int32) a2 m9 (fun r12 m11 => Q (r10 - r12) m11)))) ∧ (a1 = (5 : Int32) → L_X10_begins (60 : Int32) mem (fun m14 => R_X10_tells (3 : Int32) a2 m14 (fun r16 m15 => W_X10_floats 20 (m15 76 26) (2 : Int32) m15 (fun r18 m17 => Q (r16 - r18) m17)))) ∧ (¬ a1 = (0 : Int32) → ¬ a1 = (4 : Int32) → ¬ a1 = (5 : Int32) → L_X10_above a1 mem (fun r20 m19 => R_X10_tells r20 a2 m19 (fun r22 m21 => Q r22 m21))))
set_option maxRecDepth 4000 in
theorem g_X10_tells {sx : Nat × (Nat → Int32)} {R_X10_tells : Int32 → Int32 → MMt → (Int32 → MMt → Prop) → Prop} {rf : RFt} {Q : Int32 → MMt → Prop} {d0 : Nat} (hd0 : 43 ≤ d0) (hR_X10_tells : ∀ (rf : RFt) (a1 : Int32) (a2 : Int32) (mem : MMt) (Q : Int32 → MMt → Prop), RFok rf → R_X10_tells a1 a2 mem Q → Ct sx yX10_tells cX10_tells 4 (some .int) d0 [.ref 76, .int a1, .int a2] NX NX rf mem (QQi (RFok) Q)) (a1 : Int32) (a2 : Int32) (hrf : RFok rf) (mem : MMt) (h : L_X10_tells R_X10_tells a1 a2 mem Q) : Ct sx yX10_tells cX10_tells 4 (some .int) (d0 + 1) [.ref 76, .int a1, .int a2] NX NX rf mem (QQi (RFok) Q) := by
  refine Ct_of [some (.ref 76), some (.int a1), some (.int a2), none] (by decide +kernel) (by simp [Lof, Value.category]) rfl ?_
  unfold L_X10_tells at h
  refine G_iload_n (i := 1) pX10_tells_0 rfl rfl ?_
  by_cases c1 : a1 = (0 : Int32)
  · have h := h.1 c1
    refine G_lsE (v := (0 : Int32)) (off := 35) (tgt := 36) pX10_tells_1 c1 (by decide) (by decide) (by decide) ?_
    refine G_aload_n (i := 0) pX10_tells_36 rfl rfl ?_
    refine G_bipush pX10_tells_37 bi_13 ?_
    refine G_callV1v (b := 76) (ci := 10) (N := 29) pX10_tells_39 (g_X10_begins (13 : Int32) hrf _ h) mV_X10_begins ml_RX10_280 (by omega) ⟨Nat.le_refl _, Nat.le_refl _, Nat.le_refl _⟩ (Nat.le_of_ble_eq_true rfl) ltk_76 shk_76 rfl ?_
    intro rf m2 hrf h
    refine G_aload_n (i := 0) pX10_tells_42 rfl rfl ?_
    refine G_aload_n (i := 0) pX10_tells_43 rfl rfl ?_
    refine G_getI (ci := 10) (j := 26) (N := 29) pX10_tells_44 fl_RX10_292 rfl ltk_76 shk_76 (by decide) rfl ?_
    refine G_iload_n (i := 2) pX10_tells_47 rfl rfl ?_
    refine G_callV2i (b := 76) (ci := 10) (N := 29) pX10_tells_48 (gW_X10_falls 20 (m2 76 26) a2 hrf _ h) mV_X10_falls ml_RX10_295 (by omega) ⟨Nat.le_refl _, Nat.le_refl _, Nat.le_refl _⟩ (Nat.le_of_ble_eq_true rfl) ltk_76 shk_76 rfl ?_
    intro r4 rf m3 hrf h hr4
    refine G_istore_n (i := 3) (L' := [some (.ref 76), some (.int a1), some (.int a2), some (.int r4)]) pX10_tells_51 rfl rfl ?_
    refine G_iload_n (i := 3) pX10_tells_52 rfl rfl ?_
    refine G_aload_n (i := 0) pX10_tells_53 rfl rfl ?_
    refine G_aload_n (i := 0) pX10_tells_54 rfl rfl ?_
    refine G_getI (ci := 10) (j := 26) (N := 29) pX10_tells_55 fl_RX10_292 rfl ltk_76 shk_76 (by decide) rfl ?_
    refine G_iload_n (i := 2) pX10_tells_58 rfl rfl ?_
    refine G_callV2i (b := 76) (ci := 10) (N := 29) pX10_tells_59 (gW_X10_hangs 20 (m3 76 26) a2 hrf _ h) mV_X10_hangs ml_RX10_298 (by omega) ⟨Nat.le_refl _, Nat.le_refl _, Nat.le_refl _⟩ (Nat.le_of_ble_eq_true rfl) ltk_76 shk_76 rfl ?_
    intro r6 rf m5 hrf h hr6
    refine G_ixor pX10_tells_62 ?_
    exact G_ireturn (len := 1) pX10_tells_63 ⟨hrf, _, rfl, h⟩ ⟨_, rfl, rfl⟩
  by_cases c7 : a1 = (4 : Int32)
  · have h := h.2.1 c7
    refine G_lsE (v := (4 : Int32)) (off := 63) (tgt := 64) pX10_tells_1 c7 (by decide) (by decide) (by decide) ?_
    refine G_aload_n (i := 0) pX10_tells_64 rfl rfl ?_
    refine G_bipush pX10_tells_65 bi_51 ?_
    refine G_callV1v (b := 76) (ci := 10) (N := 29) pX10_tells_67 (g_X10_begins (51 : Int32) hrf _ h) mV_X10_begins ml_RX10_280 (by omega) ⟨Nat.le_refl _, Nat.le_refl _, Nat.le_refl _⟩ (Nat.le_of_ble_eq_true rfl) ltk_76 shk_76 rfl ?_
    intro rf m8 hrf h
    refine G_aload_n (i := 0) pX10_tells_70 rfl rfl ?_
    refine G_aload_n (i := 0) pX10_tells_71 rfl rfl ?_
    refine G_getI (ci := 10) (j := 26) (N := 29) pX10_tells_72 fl_RX10_292 rfl ltk_76 shk_76 (by decide) rfl ?_
    refine G_iload_n (i := 2) pX10_tells_75 rfl rfl ?_
    refine G_callV2i (b := 76) (ci := 10) (N := 29) pX10_tells_76 (gW_X10_falls 20 (m8 76 26) a2 hrf _ h) mV_X10_falls ml_RX10_295 (by omega) ⟨Nat.le_refl _, Nat.le_refl _, Nat.le_refl _⟩ (Nat.le_of_ble_eq_true rfl) ltk_76 shk_76 rfl ?_
    intro r10 rf m9 hrf h hr10
    refine G_istore_n (i := 3) (L' := [some (.ref 76), some (.int a1), some (.int a2), some (.int r10)]) pX10_tells_79 rfl rfl ?_
    refine G_iload_n (i := 3) pX10_tells_80 rfl rfl ?_
    refine G_aload_n (i := 0) pX10_tells_81 rfl rfl ?_
    refine G_iconst pX10_tells_82 ic_2 ?_
    refine G_iload_n (i := 2) pX10_tells_83 rfl rfl ?_
    refine G_callV2i (b := 76) (ci := 10) (N := 29) pX10_tells_84 (hR_X10_tells _ (2 : Int32) a2 _ _ hrf h) mV_X10_tells ml_RX10_304 (Nat.le_refl _) ⟨Nat.le_refl _, Nat.le_refl _, Nat.le_refl _⟩ (Nat.le_of_ble_eq_true rfl) ltk_76 shk_76 rfl ?_
    intro r12 rf m11 hrf h hr12
    refine G_isub pX10_tells_87 ?_
    exact G_ireturn (len := 1) pX10_tells_88 ⟨hrf, _, rfl, h⟩ ⟨_, rfl, rfl⟩
  by_cases c13 : a1 = (5 : Int32)
  · have h := h.2.2.1 c13
    refine G_lsE (v := (5 : Int32)) (off := 88) (tgt := 89) pX10_tells_1 c13 (by decide) (by decide) (by decide) ?_
    refine G_aload_n (i := 0) pX10_tells_89 rfl rfl ?_
    refine G_bipush pX10_tells_90 bi_60 ?_
    refine G_callV1v (b := 76) (ci := 10) (N := 29) pX10_tells_92 (g_X10_begins (60 : Int32) hrf _ h) mV_X10_begins ml_RX10_280 (by omega) ⟨Nat.le_refl _, Nat.le_refl _, Nat.le_refl _⟩ (Nat.le_of_ble_eq_true rfl) ltk_76 shk_76 rfl ?_
    intro rf m14 hrf h
    refine G_aload_n (i := 0) pX10_tells_95 rfl rfl ?_
    refine G_iconst pX10_tells_96 ic_3 ?_
    refine G_iload_n (i := 2) pX10_tells_97 rfl rfl ?_
    refine G_callV2i (b := 76) (ci := 10) (N := 29) pX10_tells_98 (hR_X10_tells _ (3 : Int32) a2 _ _ hrf h) mV_X10_tells ml_RX10_304 (Nat.le_refl _) ⟨Nat.le_refl _, Nat.le_refl _, Nat.le_refl _⟩ (Nat.le_of_ble_eq_true rfl) ltk_76 shk_76 rfl ?_
    intro r16 rf m15 hrf h hr16
    refine G_istore_n (i := 3) (L' := [some (.ref 76), some (.int a1), some (.int a2), some (.int r16)]) pX10_tells_101 rfl rfl ?_
    refine G_iload_n (i := 3) pX10_tells_102 rfl rfl ?_
    refine G_aload_n (i := 0) pX10_tells_103 rfl rfl ?_
    refine G_aload_n (i := 0) pX10_tells_104 rfl rfl ?_
    refine G_getI (ci := 10) (j := 26) (N := 29) pX10_tells_105 fl_RX10_292 rfl ltk_76 shk_76 (by decide) rfl ?_
    refine G_iconst pX10_tells_108 ic_2 ?_
    refine G_callV2i (b := 76) (ci := 10) (N := 29) pX10_tells_109 (gW_X10_floats 20 (m15 76 26) (2 : Int32) hrf _ h) mV_X10_floats ml_RX10_289 (by omega) ⟨Nat.le_refl _, Nat.le_refl _, Nat.le_refl _⟩ (Nat.le_of_ble_eq_true rfl) ltk_76 shk_76 rfl ?_
    intro r18 rf m17 hrf h hr18
    refine G_isub pX10_tells_112 ?_
    exact G_ireturn (len := 1) pX10_tells_113 ⟨hrf, _, rfl, h⟩ ⟨_, rfl, rfl⟩
  refine G_ls (off := 113) (tgt := 114) pX10_tells_1 (by decide) ((lv_osw c1 (by decide)).trans ((lv_osw c7 (by decide)).trans ((lv_osw c13 (by decide)).trans rfl))) (by decide) ?_
  have h := h.2.2.2 c1 c7 c13
  refine G_aload_n (i := 0) pX10_tells_114 rfl rfl ?_
  refine G_iload_n (i := 1) pX10_tells_115 rfl rfl ?_
  refine G_callS1i pX10_tells_116 (g_X10_above a1 hrf _ h) mS_X10_above ml_RX10_286 (by omega) ⟨Nat.le_refl _, Nat.le_refl _, Nat.le_refl _⟩ (Nat.le_of_ble_eq_true rfl) ?_
  intro r20 rf m19 hrf h hr20
  refine G_iload_n (i := 2) pX10_tells_119 rfl rfl ?_
  refine G_callV2i (b := 76) (ci := 10) (N := 29) pX10_tells_120 (hR_X10_tells _ r20 a2 _ _ hrf h) mV_X10_tells ml_RX10_304 (Nat.le_refl _) ⟨Nat.le_refl _, Nat.le_refl _, Nat.le_refl _⟩ (Nat.le_of_ble_eq_true rfl) ltk_76 shk_76 rfl ?_
  intro r22 rf m21 hrf h hr22
  exact G_ireturn (len := 1) pX10_tells_123 ⟨hrf, _, rfl, h⟩ ⟨_, rfl, rfl⟩
def WW_X10_tells (n : Nat) : (Int32 → Int32 → MMt → (Int32 → MMt → Prop) → Prop) := Nat.rec (motive := fun _ => (Int32 → Int32 → MMt → (Int32 → MMt → Prop) → Prop)) (fun _ _ _ _ => False) (fun _ ih => L_X10_tells ih) n
def W_X10_tells (n : Nat) : Int32 → Int32 → MMt → (Int32 → MMt → Prop) → Prop := WW_X10_tells n
theorem W_X10_tells_s (n : Nat) : W_X10_tells (n + 1) = L_X10_tells (W_X10_tells n) := rfl
theorem gWW_X10_tells {sx : Nat × (Nat → Int32)} (n : Nat) : (∀ (rf : RFt) (a1 : Int32) (a2 : Int32) (mem : MMt) (Q : Int32 → MMt → Prop), RFok rf → W_X10_tells n a1 a2 mem Q → Ct sx yX10_tells cX10_tells 4 (some .int) (43 + n) [.ref 76, .int a1, .int a2] NX NX rf mem (QQi (RFok) Q)) := by
  induction n with
  | zero => exact (fun rf a1 a2 mem Q hrf h => h.elim)
  | succ n ih =>
    exact (fun rf a1 a2 mem Q hrf h => g_X10_tells (d0 := 43 + n) (by omega) (ih) a1 a2 hrf mem h)
theorem gW_X10_tells {sx : Nat × (Nat → Int32)} (n : Nat) {rf : RFt} {Q : Int32 → MMt → Prop} (a1 : Int32) (a2 : Int32) (hrf : RFok rf) (mem : MMt) (h : W_X10_tells n a1 a2 mem Q) : Ct sx yX10_tells cX10_tells 4 (some .int) (43 + n) [.ref 76, .int a1, .int a2] NX NX rf mem (QQi (RFok) Q) := (gWW_X10_tells n) rf a1 a2 mem Q hrf h
def L_X10_voice (a1 : Int32) (a2 : Int32) (a3 : Int32) (mem : MMt) (Q : Int32 → MMt → Prop) : Prop := L_X10_isGood a1 mem (fun r2 m1 => ((r2 = 0 → L_X10_error (1 : Int32) m1 (fun r5 m4 => Q r5 m4)) ∧ (¬ r2 = 0 → L_X10_isIn a2.toInt64 (0 : Int64) (3 : Int64) m1 (fun r7 m6 => ((¬ r7 = 0 → (∀ m9 : MMt, m9 = up2 m6 76 24 (0 : Int32) → (∀ m10 : MMt, m10 = up2 m9 76 25 a1 → L_X10_of a1 (0 : Int32) m10 (fun r12 m11 => (∀ m13 : MMt, m13 = up2 m11 76 26 r12 → L_X10_of a1 (1 : Int32) m13 (fun r15 m14 => (∀ m16 : MMt, m16 = up2 m14 76 27 r15 → ((¬ a2 = 0 → ((¬ a2 = (1 : Int32) → ((¬ a2 = (2 : Int32) → W_X10_tells 20 (m16 76 26) a3 m16 (fun r21 m20 => Q r21 m20)) ∧ (a2 = (2 : Int32) → W_X10_hangs 20 (m16 76 26) a3 m16 (fun r23 m22 => Q r23 m22)))) ∧ (a2 = (1 : Int32) → W_X10_falls 20 (m16 76 26) a3 m16 (fun r25 m24 => Q r25 m24)))) ∧ (a2 = 0 → W_X10_floats 20 (m16 76 26) a3 m16 (fun r27 m26 => Q r27 m26)))))))))) ∧ (r7 = 0 → L_X10_error (1 : Int32) m6 (fun r29 m28 => Q r29 m28)))))))
set_option maxRecDepth 4000 in
theorem g_X10_voice {sx : Nat × (Nat → Int32)} {rf : RFt} {Q : Int32 → MMt → Prop} (a1 : Int32) (a2 : Int32) (a3 : Int32) (hrf : RFok rf) (mem : MMt) (h : L_X10_voice a1 a2 a3 mem Q) : Ct sx yX10_voice cX10_voice 4 (some .int) 65 [.ref 76, .int a1, .int a2, .int a3] NX NX rf mem (QQi (RFok) Q) := by
  refine Ct_of [some (.ref 76), some (.int a1), some (.int a2), some (.int a3)] (by decide +kernel) (by simp [Lof, Value.category]) rfl ?_
  unfold L_X10_voice at h
  refine G_aload_n (i := 0) pX10_voice_0 rfl rfl ?_
  refine G_iload_n (i := 1) pX10_voice_1 rfl rfl ?_
  refine G_callV1i (b := 76) (ci := 10) (N := 29) pX10_voice_2 (g_X10_isGood a1 hrf _ h) mV_X10_isGood ml_RX10_87 (by decide) ⟨Nat.le_refl _, Nat.le_refl _, Nat.le_refl _⟩ (Nat.le_of_ble_eq_true rfl) ltk_76 shk_76 rfl ?_
  intro r2 rf m1 hrf h hr2
  refine G_if_eq pX10_voice_5 (fun c3 => ?_) (fun c3 => ?_)
  · have h := h.1 c3
    refine G_aload_n (i := 0) pX10_voice_20 rfl rfl ?_
    refine G_iconst pX10_voice_21 ic_1 ?_
    refine G_callV1i (b := 76) (ci := 10) (N := 29) pX10_voice_22 (g_X10_error (1 : Int32) hrf _ h) mV_X10_error ml_RX10_79 (by decide) ⟨Nat.le_refl _, Nat.le_refl _, Nat.le_refl _⟩ (Nat.le_of_ble_eq_true rfl) ltk_76 shk_76 rfl ?_
    intro r5 rf m4 hrf h hr5
    exact G_ireturn (len := 1) pX10_voice_25 ⟨hrf, _, rfl, h⟩ ⟨_, rfl, rfl⟩
  · have h := h.2 c3
    refine G_iload_n (i := 2) pX10_voice_8 rfl rfl ?_
    refine G_i2l pX10_voice_9 ?_
    refine G_lconst pX10_voice_10 lc_0 ?_
    refine G_ldc2 pX10_voice_11 rfl wcl_RX10_264 ?_
    refine G_callS3i pX10_voice_14 (g_X10_isIn a2.toInt64 (0 : Int64) (3 : Int64) hrf _ h) mS_X10_isIn ml_RX10_53 (by decide) ⟨Nat.le_refl _, Nat.le_refl _, Nat.le_refl _⟩ (Nat.le_of_ble_eq_true rfl) ?_
    intro r7 rf m6 hrf h hr7
    refine G_if_ne pX10_voice_17 (fun c8 => ?_) (fun c8 => ?_)
    · have h := h.1 c8
      refine G_aload_n (i := 0) pX10_voice_26 rfl rfl ?_
      refine G_iconst pX10_voice_27 ic_0 ?_
      obtain ⟨m9, em9⟩ : ∃ z : MMt, z = up2 m6 76 24 (0 : Int32) := ⟨_, rfl⟩
      have h := h m9 em9
      refine G_putIW (ci := 10) (j := 24) (N := 29) pX10_voice_28 fw_RX10_277 rfl ltk_76 shk_76 (by decide) rfl (fun _ => ⟨rfl, rfl⟩) em9.symm ?_
      refine G_aload_n (i := 0) pX10_voice_31 rfl rfl ?_
      refine G_iload_n (i := 1) pX10_voice_32 rfl rfl ?_
      obtain ⟨m10, em10⟩ : ∃ z : MMt, z = up2 m9 76 25 a1 := ⟨_, rfl⟩
      have h := h m10 em10
      refine G_putIW (ci := 10) (j := 25) (N := 29) pX10_voice_33 fw_RX10_283 rfl ltk_76 shk_76 (by decide) rfl (fun _ => ⟨rfl, rfl⟩) em10.symm ?_
      refine G_aload_n (i := 0) pX10_voice_36 rfl rfl ?_
      refine G_aload_n (i := 0) pX10_voice_37 rfl rfl ?_
      refine G_iload_n (i := 1) pX10_voice_38 rfl rfl ?_
      refine G_iconst pX10_voice_39 ic_0 ?_
      refine G_callV2i (b := 76) (ci := 10) (N := 29) pX10_voice_40 (g_X10_of a1 (0 : Int32) hrf _ h) mV_X10_of ml_RX10_61 (by decide) ⟨Nat.le_refl _, Nat.le_refl _, Nat.le_refl _⟩ (Nat.le_of_ble_eq_true rfl) ltk_76 shk_76 rfl ?_
      intro r12 rf m11 hrf h hr12
      obtain ⟨m13, em13⟩ : ∃ z : MMt, z = up2 m11 76 26 r12 := ⟨_, rfl⟩
      have h := h m13 em13
      refine G_putIW (ci := 10) (j := 26) (N := 29) pX10_voice_43 fw_RX10_292 rfl ltk_76 shk_76 (by decide) rfl (fun _ => ⟨rfl, rfl⟩) em13.symm ?_
      refine G_aload_n (i := 0) pX10_voice_46 rfl rfl ?_
      refine G_aload_n (i := 0) pX10_voice_47 rfl rfl ?_
      refine G_iload_n (i := 1) pX10_voice_48 rfl rfl ?_
      refine G_iconst pX10_voice_49 ic_1 ?_
      refine G_callV2i (b := 76) (ci := 10) (N := 29) pX10_voice_50 (g_X10_of a1 (1 : Int32) hrf _ h) mV_X10_of ml_RX10_61 (by decide) ⟨Nat.le_refl _, Nat.le_refl _, Nat.le_refl _⟩ (Nat.le_of_ble_eq_true rfl) ltk_76 shk_76 rfl ?_
      intro r15 rf m14 hrf h hr15
      obtain ⟨m16, em16⟩ : ∃ z : MMt, z = up2 m14 76 27 r15 := ⟨_, rfl⟩
      have h := h m16 em16
      refine G_putIW (ci := 10) (j := 27) (N := 29) pX10_voice_53 fw_RX10_301 rfl ltk_76 shk_76 (by decide) rfl (fun _ => ⟨rfl, rfl⟩) em16.symm ?_
      refine G_iload_n (i := 2) pX10_voice_56 rfl rfl ?_
      refine G_if_ne pX10_voice_57 (fun c17 => ?_) (fun c17 => ?_)
      · have h := h.1 c17
        refine G_iload_n (i := 2) pX10_voice_72 rfl rfl ?_
        refine G_iconst pX10_voice_73 ic_1 ?_
        refine G_icmp_ne pX10_voice_74 (fun c18 => ?_) (fun c18 => ?_)
        · have h := h.1 c18
          refine G_iload_n (i := 2) pX10_voice_89 rfl rfl ?_
          refine G_iconst pX10_voice_90 ic_2 ?_
          refine G_icmp_ne pX10_voice_91 (fun c19 => ?_) (fun c19 => ?_)
          · have h := h.1 c19
            refine G_aload_n (i := 0) pX10_voice_106 rfl rfl ?_
            refine G_aload_n (i := 0) pX10_voice_107 rfl rfl ?_
            refine G_getI (ci := 10) (j := 26) (N := 29) pX10_voice_108 fl_RX10_292 rfl ltk_76 shk_76 (by decide) rfl ?_
            refine G_iload_n (i := 3) pX10_voice_111 rfl rfl ?_
            refine G_callV2i (b := 76) (ci := 10) (N := 29) pX10_voice_112 (gW_X10_tells 20 (m16 76 26) a3 hrf _ h) mV_X10_tells ml_RX10_304 (by decide) ⟨Nat.le_refl _, Nat.le_refl _, Nat.le_refl _⟩ (Nat.le_of_ble_eq_true rfl) ltk_76 shk_76 rfl ?_
            intro r21 rf m20 hrf h hr21
            exact G_ireturn (len := 1) pX10_voice_115 ⟨hrf, _, rfl, h⟩ ⟨_, rfl, rfl⟩
          · have h := h.2 c19
            refine G_aload_n (i := 0) pX10_voice_94 rfl rfl ?_
            refine G_aload_n (i := 0) pX10_voice_95 rfl rfl ?_
            refine G_getI (ci := 10) (j := 26) (N := 29) pX10_voice_96 fl_RX10_292 rfl ltk_76 shk_76 (by decide) rfl ?_
            refine G_iload_n (i := 3) pX10_voice_99 rfl rfl ?_
            refine G_callV2i (b := 76) (ci := 10) (N := 29) pX10_voice_100 (gW_X10_hangs 20 (m16 76 26) a3 hrf _ h) mV_X10_hangs ml_RX10_298 (by decide) ⟨Nat.le_refl _, Nat.le_refl _, Nat.le_refl _⟩ (Nat.le_of_ble_eq_true rfl) ltk_76 shk_76 rfl ?_
            intro r23 rf m22 hrf h hr23
            refine G_goto pX10_voice_103 ?_
            exact G_ireturn (len := 1) pX10_voice_115 ⟨hrf, _, rfl, h⟩ ⟨_, rfl, rfl⟩
        · have h := h.2 c18
          refine G_aload_n (i := 0) pX10_voice_77 rfl rfl ?_
          refine G_aload_n (i := 0) pX10_voice_78 rfl rfl ?_
          refine G_getI (ci := 10) (j := 26) (N := 29) pX10_voice_79 fl_RX10_292 rfl ltk_76 shk_76 (by decide) rfl ?_
          refine G_iload_n (i := 3) pX10_voice_82 rfl rfl ?_
          refine G_callV2i (b := 76) (ci := 10) (N := 29) pX10_voice_83 (gW_X10_falls 20 (m16 76 26) a3 hrf _ h) mV_X10_falls ml_RX10_295 (by decide) ⟨Nat.le_refl _, Nat.le_refl _, Nat.le_refl _⟩ (Nat.le_of_ble_eq_true rfl) ltk_76 shk_76 rfl ?_
          intro r25 rf m24 hrf h hr25
          refine G_goto pX10_voice_86 ?_
          exact G_ireturn (len := 1) pX10_voice_115 ⟨hrf, _, rfl, h⟩ ⟨_, rfl, rfl⟩
      · have h := h.2 c17
        refine G_aload_n (i := 0) pX10_voice_60 rfl rfl ?_
        refine G_aload_n (i := 0) pX10_voice_61 rfl rfl ?_
        refine G_getI (ci := 10) (j := 26) (N := 29) pX10_voice_62 fl_RX10_292 rfl ltk_76 shk_76 (by decide) rfl ?_
        refine G_iload_n (i := 3) pX10_voice_65 rfl rfl ?_
        refine G_callV2i (b := 76) (ci := 10) (N := 29) pX10_voice_66 (gW_X10_floats 20 (m16 76 26) a3 hrf _ h) mV_X10_floats ml_RX10_289 (by decide) ⟨Nat.le_refl _, Nat.le_refl _, Nat.le_refl _⟩ (Nat.le_of_ble_eq_true rfl) ltk_76 shk_76 rfl ?_
        intro r27 rf m26 hrf h hr27
        refine G_goto pX10_voice_69 ?_
        exact G_ireturn (len := 1) pX10_voice_115 ⟨hrf, _, rfl, h⟩ ⟨_, rfl, rfl⟩
    · have h := h.2 c8
      refine G_aload_n (i := 0) pX10_voice_20 rfl rfl ?_
      refine G_iconst pX10_voice_21 ic_1 ?_
      refine G_callV1i (b := 76) (ci := 10) (N := 29) pX10_voice_22 (g_X10_error (1 : Int32) hrf _ h) mV_X10_error ml_RX10_79 (by decide) ⟨Nat.le_refl _, Nat.le_refl _, Nat.le_refl _⟩ (Nat.le_of_ble_eq_true rfl) ltk_76 shk_76 rfl ?_
      intro r29 rf m28 hrf h hr29
      exact G_ireturn (len := 1) pX10_voice_25 ⟨hrf, _, rfl, h⟩ ⟨_, rfl, rfl⟩
def L_X10_trace (a1 : Int32) (mem : MMt) (Q : Int32 → MMt → Prop) : Prop := L_X10_isIn a1.toInt64 (0 : Int64) (((mem 76 24) - (1 : Int32)).toInt64) mem (fun r2 m1 => ((r2 = 0 → L_X10_error (2 : Int32) m1 (fun r5 m4 => Q r5 m4)) ∧ (¬ r2 = 0 → (vp_in a1 40 ∧ Q (m1 89 a1.toNatClampNeg) m1))))
set_option maxRecDepth 4000 in
theorem g_X10_trace {sx : Nat × (Nat → Int32)} {rf : RFt} {Q : Int32 → MMt → Prop} (a1 : Int32) (hrf : RFok rf) (mem : MMt) (h : L_X10_trace a1 mem Q) : Ct sx yX10_trace cX10_trace 2 (some .int) 2 [.ref 76, .int a1] NX NX rf mem (QQi (RFok) Q) := by
  refine Ct_of [some (.ref 76), some (.int a1)] (by decide +kernel) (by simp [Lof, Value.category]) rfl ?_
  unfold L_X10_trace at h
  refine G_iload_n (i := 1) pX10_trace_0 rfl rfl ?_
  refine G_i2l pX10_trace_1 ?_
  refine G_lconst pX10_trace_2 lc_0 ?_
  refine G_aload_n (i := 0) pX10_trace_3 rfl rfl ?_
  refine G_getI (ci := 10) (j := 24) (N := 29) pX10_trace_4 fl_RX10_277 rfl ltk_76 shk_76 (by decide) rfl ?_
  refine G_iconst pX10_trace_7 ic_1 ?_
  refine G_isub pX10_trace_8 ?_
  refine G_i2l pX10_trace_9 ?_
  refine G_callS3i pX10_trace_10 (g_X10_isIn a1.toInt64 (0 : Int64) (((mem 76 24) - (1 : Int32)).toInt64) hrf _ h) mS_X10_isIn ml_RX10_53 (by decide) ⟨Nat.le_refl _, Nat.le_refl _, Nat.le_refl _⟩ (Nat.le_of_ble_eq_true rfl) ?_
  intro r2 rf m1 hrf h hr2
  refine G_if_eq pX10_trace_13 (fun c3 => ?_) (fun c3 => ?_)
  · have h := h.1 c3
    refine G_aload_n (i := 0) pX10_trace_25 rfl rfl ?_
    refine G_iconst pX10_trace_26 ic_2 ?_
    refine G_callV1i (b := 76) (ci := 10) (N := 29) pX10_trace_27 (g_X10_error (2 : Int32) hrf _ h) mV_X10_error ml_RX10_79 (by decide) ⟨Nat.le_refl _, Nat.le_refl _, Nat.le_refl _⟩ (Nat.le_of_ble_eq_true rfl) ltk_76 shk_76 rfl ?_
    intro r5 rf m4 hrf h hr5
    exact G_ireturn (len := 1) pX10_trace_30 ⟨hrf, _, rfl, h⟩ ⟨_, rfl, rfl⟩
  · have h := h.2 c3
    refine G_aload_n (i := 0) pX10_trace_16 rfl rfl ?_
    refine G_getR (ci := 10) (j := 23) (N := 29) pX10_trace_17 fl_RX10_46 rfl ltk_76 shk_76 (by decide) rfl (hrf.lit 76 23 rfl) ?_
    refine G_iload_n (i := 1) pX10_trace_20 rfl rfl ?_
    obtain ⟨hi6, h⟩ := h
    refine G_iald pX10_trace_21 ltk_89 shk_89 hi6 ?_
    refine G_goto pX10_trace_22 ?_
    exact G_ireturn (len := 1) pX10_trace_30 ⟨hrf, _, rfl, h⟩ ⟨_, rfl, rfl⟩
def B_X10_sheet_90 (x1 : Int32) (x4 : Int32) (mem : MMt) (Q : Int32 → MMt → Prop) : Prop := LOOP (σ := Int32 × MMt) (fun X90 z => (fun (x4 : Int32) (mem : MMt) => (((40 : Int32) ≤ x4 → Q (1 : Int32) mem) ∧ (¬ (40 : Int32) ≤ x4 → (vp_in (((40 : Int32) * x1) + x4) 160 ∧ ∀ m2 : MMt, m2 = up2 mem 88 (((40 : Int32) * x1) + x4).toNatClampNeg (0 : Int32) → (∀ v4 : Int32, v4 = x4 + (1 : Int32) → X90 (v4, m2)))))) z.1 z.2) (x4, mem)
set_option maxRecDepth 4000 in
theorem gB_X10_sheet_90 {sx : Nat × (Nat → Int32)} {rf : RFt} {Q : Int32 → MMt → Prop} (hrf : RFok rf) (x1 : Int32) (x4 : Int32) (mem : MMt) (h : B_X10_sheet_90 x1 x4 mem Q) : G sx yX10_sheet cX10_sheet 5 (some .int) 3 NX NX (QQi (RFok) Q) NX rf mem 90 [some (.ref 76), some (.int x1), none, none, some (.int x4)] [] := by
  obtain ⟨I, ⟨n, h0⟩, hI⟩ := h
  have key : ∀ (n : Nat) (rf : RFt) (x4 : Int32) (mem : MMt), RFok rf → I n (x4, mem) → G sx yX10_sheet cX10_sheet 5 (some .int) 3 NX NX (QQi (RFok) Q) NX rf mem 90 [some (.ref 76), some (.int x1), none, none, some (.int x4)] [] := by
    intro n
    induction n using Nat.strongRecOn with
    | _ n ih =>
    intro rf x4 mem hrf h0
    have hX90 : ∀ (rf : RFt) (x4 : Int32) (mem : MMt), RFok rf → (fun s' => ∃ m, m < n ∧ I m s') (x4, mem) → G sx yX10_sheet cX10_sheet 5 (some .int) 3 NX NX (QQi (RFok) Q) NX rf mem 90 [some (.ref 76), some (.int x1), none, none, some (.int x4)] [] := fun rf x4 mem hrf ⟨m, hm, hi⟩ => ih m hm rf x4 mem hrf hi
    have h := hI n _ h0
    clear ih h0
    try dsimp only at h
    refine G_iload (i := 4) pX10_sheet_90 rfl ?_
    refine G_bipush pX10_sheet_92 bi_40 ?_
    refine G_icmp_ge pX10_sheet_94 (fun c1 => ?_) (fun c1 => ?_)
    · have h := h.1 c1
      refine G_iconst pX10_sheet_116 ic_1 ?_
      exact G_ireturn (len := 1) pX10_sheet_117 ⟨hrf, _, rfl, h⟩ ⟨_, rfl, rfl⟩
    · have h := h.2 c1
      refine G_aload_n (i := 0) pX10_sheet_97 rfl rfl ?_
      refine G_getR (ci := 10) (j := 22) (N := 29) pX10_sheet_98 fl_RX10_43 rfl ltk_76 shk_76 (by decide) rfl (hrf.lit 76 22 rfl) ?_
      refine G_bipush pX10_sheet_101 bi_40 ?_
      refine G_iload_n (i := 1) pX10_sheet_103 rfl rfl ?_
      refine G_imul pX10_sheet_104 ?_
      refine G_iload (i := 4) pX10_sheet_105 rfl ?_
      refine G_iadd pX10_sheet_107 ?_
      refine G_iconst pX10_sheet_108 ic_0 ?_
      obtain ⟨hi3, h⟩ := h
      obtain ⟨m2, em2⟩ : ∃ z : MMt, z = up2 mem 88 (((40 : Int32) * x1) + x4).toNatClampNeg (0 : Int32) := ⟨_, rfl⟩
      have h := h m2 em2
      refine G_iastW pX10_sheet_109 ltk_88 shk_88 hi3 em2.symm ?_
      obtain ⟨v4, e4⟩ : ∃ z : Int32, z = x4 + (1 : Int32) := ⟨_, rfl⟩
      have h := h v4 e4
      refine G_iincW (L' := [some (.ref 76), some (.int x1), none, none, some (.int v4)]) pX10_sheet_110 rfl ic_1 e4.symm rfl ?_
      refine G_goto pX10_sheet_113 ?_
      exact hX90 _ _ _ hrf h
  exact key n rf _ _ hrf h0
def B_X10_sheet_86 (x1 : Int32) (s0 : Int32) (s1 : Int32) (mem : MMt) (Q : Int32 → MMt → Prop) : Prop := (vp_in s1 4 ∧ ∀ m1 : MMt, m1 = up2 mem 87 s1.toNatClampNeg s0 → B_X10_sheet_90 x1 (0 : Int32) m1 Q)
set_option maxRecDepth 4000 in
theorem gB_X10_sheet_86 {sx : Nat × (Nat → Int32)} {rf : RFt} {Q : Int32 → MMt → Prop} (hrf : RFok rf) (x1 : Int32) (s0 : Int32) (s1 : Int32) (mem : MMt) (h : B_X10_sheet_86 x1 s0 s1 mem Q) : G sx yX10_sheet cX10_sheet 5 (some .int) 3 NX NX (QQi (RFok) Q) NX rf mem 86 [some (.ref 76), some (.int x1), none, none, none] [.int s0, .int s1, .ref 87] := by
  unfold B_X10_sheet_86 at h
  obtain ⟨hi2, h⟩ := h
  obtain ⟨m1, em1⟩ : ∃ z : MMt, z = up2 mem 87 s1.toNatClampNeg s0 := ⟨_, rfl⟩
  have h := h m1 em1
  refine G_iastW pX10_sheet_86 ltk_87 shk_87 hi2 em1.symm ?_
  refine G_iconst pX10_sheet_87 ic_0 ?_
  refine G_istore (i := 4) (L' := [some (.ref 76), some (.int x1), none, none, some (.int (0 : Int32))]) pX10_sheet_88 rfl ?_
  exact gB_X10_sheet_90 hrf x1 (0 : Int32) _ h
def B_X10_sheet_65 (x1 : Int32) (x2 : Int32) (x3 : Int32) (mem : MMt) (Q : Int32 → MMt → Prop) : Prop := (vp_in x1 4 ∧ ∀ m1 : MMt, m1 = up2 mem 86 x1.toNatClampNeg x2 → ((¬ x2 = 0 → B_X10_sheet_86 x1 x3 x1 m1 Q) ∧ (x2 = 0 → B_X10_sheet_86 x1 (0 : Int32) x1 m1 Q)))
set_option maxRecDepth 4000 in
theorem gB_X10_sheet_65 {sx : Nat × (Nat → Int32)} {rf : RFt} {Q : Int32 → MMt → Prop} (hrf : RFok rf) (x1 : Int32) (x2 : Int32) (x3 : Int32) (mem : MMt) (h : B_X10_sheet_65 x1 x2 x3 mem Q) : G sx yX10_sheet cX10_sheet 5 (some .int) 3 NX NX (QQi (RFok) Q) NX rf mem 65 [some (.ref 76), some (.int x1), some (.int x2), some (.int x3), none] [] := by
  unfold B_X10_sheet_65 at h
  refine G_aload_n (i := 0) pX10_sheet_65 rfl rfl ?_
  refine G_getR (ci := 10) (j := 20) (N := 29) pX10_sheet_66 fl_RX10_37 rfl ltk_76 shk_76 (by decide) rfl (hrf.lit 76 20 rfl) ?_
  refine G_iload_n (i := 1) pX10_sheet_69 rfl rfl ?_
  refine G_iload_n (i := 2) pX10_sheet_70 rfl rfl ?_
  obtain ⟨hi2, h⟩ := h
  obtain ⟨m1, em1⟩ : ∃ z : MMt, z = up2 mem 86 x1.toNatClampNeg x2 := ⟨_, rfl⟩
  have h := h m1 em1
  refine G_iastW pX10_sheet_71 ltk_86 shk_86 hi2 em1.symm ?_
  refine G_aload_n (i := 0) pX10_sheet_72 rfl rfl ?_
  refine G_getR (ci := 10) (j := 21) (N := 29) pX10_sheet_73 fl_RX10_40 rfl ltk_76 shk_76 (by decide) rfl (hrf.lit 76 21 rfl) ?_
  refine G_iload_n (i := 1) pX10_sheet_76 rfl rfl ?_
  refine G_iload_n (i := 2) pX10_sheet_77 rfl rfl ?_
  refine G_if_ne pX10_sheet_78 (fun c3 => ?_) (fun c3 => ?_)
  · have h := h.1 c3
    refine G_iload_n (i := 3) pX10_sheet_85 rfl rfl ?_
    refine G_wk (L2 := [some (.ref 76), some (.int x1), none, none, none]) ⟨Or.inr rfl, Or.inr rfl, Or.inl rfl, Or.inl rfl, Or.inr rfl, trivial⟩ ?_
    exact gB_X10_sheet_86 hrf x1 x3 x1 _ h
  · have h := h.2 c3
    refine G_iconst pX10_sheet_81 ic_0 ?_
    refine G_goto pX10_sheet_82 ?_
    refine G_wk (L2 := [some (.ref 76), some (.int x1), none, none, none]) ⟨Or.inr rfl, Or.inr rfl, Or.inl rfl, Or.inl rfl, Or.inr rfl, trivial⟩ ?_
    exact gB_X10_sheet_86 hrf x1 (0 : Int32) x1 _ h
def B_X10_sheet_35 (x1 : Int32) (x2 : Int32) (x3 : Int32) (mem : MMt) (Q : Int32 → MMt → Prop) : Prop := ((x2 = 0 → B_X10_sheet_65 x1 x2 x3 mem Q) ∧ (¬ x2 = 0 → L_X10_isIn x3.toInt64 (0 : Int64) (40 : Int64) mem (fun r3 m2 => ((¬ r3 = 0 → B_X10_sheet_65 x1 x2 x3 m2 Q) ∧ (r3 = 0 → ((0 ≤ x3 → L_X10_error (1 : Int32) m2 (fun r7 m6 => Q r7 m6)) ∧ (¬ 0 ≤ x3 → L_X10_error (3 : Int32) m2 (fun r9 m8 => Q r9 m8))))))))
set_option maxRecDepth 4000 in
theorem gB_X10_sheet_35 {sx : Nat × (Nat → Int32)} {rf : RFt} {Q : Int32 → MMt → Prop} (hrf : RFok rf) (x1 : Int32) (x2 : Int32) (x3 : Int32) (mem : MMt) (h : B_X10_sheet_35 x1 x2 x3 mem Q) : G sx yX10_sheet cX10_sheet 5 (some .int) 3 NX NX (QQi (RFok) Q) NX rf mem 35 [some (.ref 76), some (.int x1), some (.int x2), some (.int x3), none] [] := by
  unfold B_X10_sheet_35 at h
  refine G_iload_n (i := 2) pX10_sheet_35 rfl rfl ?_
  refine G_if_eq pX10_sheet_36 (fun c1 => ?_) (fun c1 => ?_)
  · have h := h.1 c1
    exact gB_X10_sheet_65 hrf x1 x2 x3 _ h
  · have h := h.2 c1
    refine G_iload_n (i := 3) pX10_sheet_39 rfl rfl ?_
    refine G_i2l pX10_sheet_40 ?_
    refine G_lconst pX10_sheet_41 lc_0 ?_
    refine G_ldc2 pX10_sheet_42 rfl wcl_RX10_77 ?_
    refine G_callS3i pX10_sheet_45 (g_X10_isIn x3.toInt64 (0 : Int64) (40 : Int64) hrf _ h) mS_X10_isIn ml_RX10_53 (by decide) ⟨Nat.le_refl _, Nat.le_refl _, Nat.le_refl _⟩ (Nat.le_of_ble_eq_true rfl) ?_
    intro r3 rf m2 hrf h hr3
    refine G_if_ne pX10_sheet_48 (fun c4 => ?_) (fun c4 => ?_)
    · have h := h.1 c4
      exact gB_X10_sheet_65 hrf x1 x2 x3 _ h
    · have h := h.2 c4
      refine G_aload_n (i := 0) pX10_sheet_51 rfl rfl ?_
      refine G_iload_n (i := 3) pX10_sheet_52 rfl rfl ?_
      refine G_if_ge pX10_sheet_53 (fun c5 => ?_) (fun c5 => ?_)
      · have h := h.1 c5
        refine G_iconst pX10_sheet_60 ic_1 ?_
        refine G_callV1i (b := 76) (ci := 10) (N := 29) pX10_sheet_61 (g_X10_error (1 : Int32) hrf _ h) mV_X10_error ml_RX10_79 (by decide) ⟨Nat.le_refl _, Nat.le_refl _, Nat.le_refl _⟩ (Nat.le_of_ble_eq_true rfl) ltk_76 shk_76 rfl ?_
        intro r7 rf m6 hrf h hr7
        exact G_ireturn (len := 1) pX10_sheet_64 ⟨hrf, _, rfl, h⟩ ⟨_, rfl, rfl⟩
      · have h := h.2 c5
        refine G_iconst pX10_sheet_56 ic_3 ?_
        refine G_goto pX10_sheet_57 ?_
        refine G_callV1i (b := 76) (ci := 10) (N := 29) pX10_sheet_61 (g_X10_error (3 : Int32) hrf _ h) mV_X10_error ml_RX10_79 (by decide) ⟨Nat.le_refl _, Nat.le_refl _, Nat.le_refl _⟩ (Nat.le_of_ble_eq_true rfl) ltk_76 shk_76 rfl ?_
        intro r9 rf m8 hrf h hr9
        exact G_ireturn (len := 1) pX10_sheet_64 ⟨hrf, _, rfl, h⟩ ⟨_, rfl, rfl⟩
def L_X10_sheet (a1 : Int32) (a2 : Int32) (a3 : Int32) (mem : MMt) (Q : Int32 → MMt → Prop) : Prop := L_X10_isSheet a1 mem (fun r2 m1 => ((r2 = 0 → L_X10_error (1 : Int32) m1 (fun r5 m4 => Q r5 m4)) ∧ (¬ r2 = 0 → ((a2 = 0 → B_X10_sheet_35 a1 a2 a3 m1 Q) ∧ (¬ a2 = 0 → ((a2 = (8 : Int32) → B_X10_sheet_35 a1 a2 a3 m1 Q) ∧ (¬ a2 = (8 : Int32) → ((a2 = (16 : Int32) → B_X10_sheet_35 a1 a2 a3 m1 Q) ∧ (¬ a2 = (16 : Int32) → ((a2 = (32 : Int32) → B_X10_sheet_35 a1 a2 a3 m1 Q) ∧ (¬ a2 = (32 : Int32) → L_X10_error (1 : Int32) m1 (fun r11 m10 => Q r11 m10))))))))))))
set_option maxRecDepth 4000 in
theorem g_X10_sheet {sx : Nat × (Nat → Int32)} {rf : RFt} {Q : Int32 → MMt → Prop} (a1 : Int32) (a2 : Int32) (a3 : Int32) (hrf : RFok rf) (mem : MMt) (h : L_X10_sheet a1 a2 a3 mem Q) : Ct sx yX10_sheet cX10_sheet 5 (some .int) 3 [.ref 76, .int a1, .int a2, .int a3] NX NX rf mem (QQi (RFok) Q) := by
  refine Ct_of [some (.ref 76), some (.int a1), some (.int a2), some (.int a3), none] (by decide +kernel) (by simp [Lof, Value.category]) rfl ?_
  unfold L_X10_sheet at h
  refine G_iload_n (i := 1) pX10_sheet_0 rfl rfl ?_
  refine G_callS1i pX10_sheet_1 (g_X10_isSheet a1 hrf _ h) mS_X10_isSheet ml_RX10_266 (by decide) ⟨Nat.le_refl _, Nat.le_refl _, Nat.le_refl _⟩ (Nat.le_of_ble_eq_true rfl) ?_
  intro r2 rf m1 hrf h hr2
  refine G_if_eq pX10_sheet_4 (fun c3 => ?_) (fun c3 => ?_)
  · have h := h.1 c3
    refine G_aload_n (i := 0) pX10_sheet_29 rfl rfl ?_
    refine G_iconst pX10_sheet_30 ic_1 ?_
    refine G_callV1i (b := 76) (ci := 10) (N := 29) pX10_sheet_31 (g_X10_error (1 : Int32) hrf _ h) mV_X10_error ml_RX10_79 (by decide) ⟨Nat.le_refl _, Nat.le_refl _, Nat.le_refl _⟩ (Nat.le_of_ble_eq_true rfl) ltk_76 shk_76 rfl ?_
    intro r5 rf m4 hrf h hr5
    exact G_ireturn (len := 1) pX10_sheet_34 ⟨hrf, _, rfl, h⟩ ⟨_, rfl, rfl⟩
  · have h := h.2 c3
    refine G_iload_n (i := 2) pX10_sheet_7 rfl rfl ?_
    refine G_if_eq pX10_sheet_8 (fun c6 => ?_) (fun c6 => ?_)
    · have h := h.1 c6
      exact gB_X10_sheet_35 hrf a1 a2 a3 _ h
    · have h := h.2 c6
      refine G_iload_n (i := 2) pX10_sheet_11 rfl rfl ?_
      refine G_bipush pX10_sheet_12 bi_8 ?_
      refine G_icmp_eq pX10_sheet_14 (fun c7 => ?_) (fun c7 => ?_)
      · have h := h.1 c7
        exact gB_X10_sheet_35 hrf a1 a2 a3 _ h
      · have h := h.2 c7
        refine G_iload_n (i := 2) pX10_sheet_17 rfl rfl ?_
        refine G_bipush pX10_sheet_18 bi_16 ?_
        refine G_icmp_eq pX10_sheet_20 (fun c8 => ?_) (fun c8 => ?_)
        · have h := h.1 c8
          exact gB_X10_sheet_35 hrf a1 a2 a3 _ h
        · have h := h.2 c8
          refine G_iload_n (i := 2) pX10_sheet_23 rfl rfl ?_
          refine G_bipush pX10_sheet_24 bi_32 ?_
          refine G_icmp_eq pX10_sheet_26 (fun c9 => ?_) (fun c9 => ?_)
          · have h := h.1 c9
            exact gB_X10_sheet_35 hrf a1 a2 a3 _ h
          · have h := h.2 c9
            refine G_aload_n (i := 0) pX10_sheet_29 rfl rfl ?_
            refine G_iconst pX10_sheet_30 ic_1 ?_
            refine G_callV1i (b := 76) (ci := 10) (N := 29) pX10_sheet_31 (g_X10_error (1 : Int32) hrf _ h) mV_X10_error ml_RX10_79 (by decide) ⟨Nat.le_refl _, Nat.le_refl _, Nat.le_refl _⟩ (Nat.le_of_ble_eq_true rfl) ltk_76 shk_76 rfl ?_
            intro r11 rf m10 hrf h hr11
            exact G_ireturn (len := 1) pX10_sheet_34 ⟨hrf, _, rfl, h⟩ ⟨_, rfl, rfl⟩
def L_X10_noSheet (a1 : Int32) (mem : MMt) (Q : Int32 → MMt → Prop) : Prop := L_X10_isSheet a1 mem (fun r2 m1 => ((¬ r2 = 0 → (vp_in a1 4 ∧ ((¬ (m1 86 a1.toNatClampNeg) = 0 → Q (0 : Int32) m1) ∧ ((m1 86 a1.toNatClampNeg) = 0 → L_X10_error (2 : Int32) m1 (fun r7 m6 => Q r7 m6))))) ∧ (r2 = 0 → L_X10_error (1 : Int32) m1 (fun r9 m8 => Q r9 m8))))
set_option maxRecDepth 4000 in
theorem g_X10_noSheet {sx : Nat × (Nat → Int32)} {rf : RFt} {Q : Int32 → MMt → Prop} (a1 : Int32) (hrf : RFok rf) (mem : MMt) (h : L_X10_noSheet a1 mem Q) : Ct sx yX10_noSheet cX10_noSheet 2 (some .int) 3 [.ref 76, .int a1] NX NX rf mem (QQi (RFok) Q) := by
  refine Ct_of [some (.ref 76), some (.int a1)] (by decide +kernel) (by simp [Lof, Value.category]) rfl ?_
  unfold L_X10_noSheet at h
  refine G_iload_n (i := 1) pX10_noSheet_0 rfl rfl ?_
  refine G_callS1i pX10_noSheet_1 (g_X10_isSheet a1 hrf _ h) mS_X10_isSheet ml_RX10_266 (by decide) ⟨Nat.le_refl _, Nat.le_refl _, Nat.le_refl _⟩ (Nat.le_of_ble_eq_true rfl) ?_
  intro r2 rf m1 hrf h hr2
  refine G_if_ne pX10_noSheet_4 (fun c3 => ?_) (fun c3 => ?_)
  · have h := h.1 c3
    refine G_aload_n (i := 0) pX10_noSheet_15 rfl rfl ?_
    refine G_getR (ci := 10) (j := 20) (N := 29) pX10_noSheet_16 fl_RX10_37 rfl ltk_76 shk_76 (by decide) rfl (hrf.lit 76 20 rfl) ?_
    refine G_iload_n (i := 1) pX10_noSheet_19 rfl rfl ?_
    obtain ⟨hi4, h⟩ := h
    refine G_iald pX10_noSheet_20 ltk_86 shk_86 hi4 ?_
    refine G_if_ne pX10_noSheet_21 (fun c5 => ?_) (fun c5 => ?_)
    · have h := h.1 c5
      refine G_iconst pX10_noSheet_32 ic_0 ?_
      exact G_ireturn (len := 1) pX10_noSheet_33 ⟨hrf, _, rfl, h⟩ ⟨_, rfl, rfl⟩
    · have h := h.2 c5
      refine G_aload_n (i := 0) pX10_noSheet_24 rfl rfl ?_
      refine G_iconst pX10_noSheet_25 ic_2 ?_
      refine G_callV1i (b := 76) (ci := 10) (N := 29) pX10_noSheet_26 (g_X10_error (2 : Int32) hrf _ h) mV_X10_error ml_RX10_79 (by decide) ⟨Nat.le_refl _, Nat.le_refl _, Nat.le_refl _⟩ (Nat.le_of_ble_eq_true rfl) ltk_76 shk_76 rfl ?_
      intro r7 rf m6 hrf h hr7
      refine G_goto pX10_noSheet_29 ?_
      exact G_ireturn (len := 1) pX10_noSheet_33 ⟨hrf, _, rfl, h⟩ ⟨_, rfl, rfl⟩
  · have h := h.2 c3
    refine G_aload_n (i := 0) pX10_noSheet_7 rfl rfl ?_
    refine G_iconst pX10_noSheet_8 ic_1 ?_
    refine G_callV1i (b := 76) (ci := 10) (N := 29) pX10_noSheet_9 (g_X10_error (1 : Int32) hrf _ h) mV_X10_error ml_RX10_79 (by decide) ⟨Nat.le_refl _, Nat.le_refl _, Nat.le_refl _⟩ (Nat.le_of_ble_eq_true rfl) ltk_76 shk_76 rfl ?_
    intro r9 rf m8 hrf h hr9
    refine G_goto pX10_noSheet_12 ?_
    exact G_ireturn (len := 1) pX10_noSheet_33 ⟨hrf, _, rfl, h⟩ ⟨_, rfl, rfl⟩
def L_X10_put (a1 : Int32) (a2 : Int32) (a3 : Int32) (mem : MMt) (Q : Int32 → MMt → Prop) : Prop := L_X10_noSheet a1 mem (fun r2 m1 => ((r2 = 0 → (vp_in a1 4 ∧ L_X10_isIn a2.toInt64 (0 : Int64) (((m1 87 a1.toNatClampNeg) - (1 : Int32)).toInt64) m1 (fun r6 m5 => ((¬ r6 = 0 → (vp_in a1 4 ∧ ((¬ (m5 86 a1.toNatClampNeg) = (8 : Int32) → (vp_in a1 4 ∧ ((¬ (m5 86 a1.toNatClampNeg) = (16 : Int32) → (vp_in (((40 : Int32) * a1) + a2) 160 ∧ ∀ m12 : MMt, m12 = up2 m5 88 (((40 : Int32) * a1) + a2).toNatClampNeg a3 → Q (1 : Int32) m12)) ∧ ((m5 86 a1.toNatClampNeg) = (16 : Int32) → (vp_in (((40 : Int32) * a1) + a2) 160 ∧ ∀ m14 : MMt, m14 = up2 m5 88 (((40 : Int32) * a1) + a2).toNatClampNeg a3.toInt16.toInt32 → Q (1 : Int32) m14))))) ∧ ((m5 86 a1.toNatClampNeg) = (8 : Int32) → (vp_in (((40 : Int32) * a1) + a2) 160 ∧ ∀ m16 : MMt, m16 = up2 m5 88 (((40 : Int32) * a1) + a2).toNatClampNeg a3.toInt8.toInt32 → Q (1 : Int32) m16))))) ∧ (r6 = 0 → L_X10_error (1 : Int32) m5 (fun r19 m18 => Q r19 m18)))))) ∧ (¬ r2 = 0 → Q r2 m1)))
set_option maxRecDepth 4000 in
theorem g_X10_put {sx : Nat × (Nat → Int32)} {rf : RFt} {Q : Int32 → MMt → Prop} (a1 : Int32) (a2 : Int32) (a3 : Int32) (hrf : RFok rf) (mem : MMt) (h : L_X10_put a1 a2 a3 mem Q) : Ct sx yX10_put cX10_put 5 (some .int) 4 [.ref 76, .int a1, .int a2, .int a3] NX NX rf mem (QQi (RFok) Q) := by
  refine Ct_of [some (.ref 76), some (.int a1), some (.int a2), some (.int a3), none] (by decide +kernel) (by simp [Lof, Value.category]) rfl ?_
  unfold L_X10_put at h
  refine G_aload_n (i := 0) pX10_put_0 rfl rfl ?_
  refine G_iload_n (i := 1) pX10_put_1 rfl rfl ?_
  refine G_callV1i (b := 76) (ci := 10) (N := 29) pX10_put_2 (g_X10_noSheet a1 hrf _ h) mV_X10_noSheet ml_RX10_307 (by decide) ⟨Nat.le_refl _, Nat.le_refl _, Nat.le_refl _⟩ (Nat.le_of_ble_eq_true rfl) ltk_76 shk_76 rfl ?_
  intro r2 rf m1 hrf h hr2
  refine G_istore (i := 4) (L' := [some (.ref 76), some (.int a1), some (.int a2), some (.int a3), some (.int r2)]) pX10_put_5 rfl ?_
  refine G_iload (i := 4) pX10_put_7 rfl ?_
  refine G_if_eq pX10_put_9 (fun c3 => ?_) (fun c3 => ?_)
  · have h := h.1 c3
    refine G_iload_n (i := 2) pX10_put_15 rfl rfl ?_
    refine G_i2l pX10_put_16 ?_
    refine G_lconst pX10_put_17 lc_0 ?_
    refine G_aload_n (i := 0) pX10_put_18 rfl rfl ?_
    refine G_getR (ci := 10) (j := 21) (N := 29) pX10_put_19 fl_RX10_40 rfl ltk_76 shk_76 (by decide) rfl (hrf.lit 76 21 rfl) ?_
    refine G_iload_n (i := 1) pX10_put_22 rfl rfl ?_
    obtain ⟨hi4, h⟩ := h
    refine G_iald pX10_put_23 ltk_87 shk_87 hi4 ?_
    refine G_iconst pX10_put_24 ic_1 ?_
    refine G_isub pX10_put_25 ?_
    refine G_i2l pX10_put_26 ?_
    refine G_callS3i pX10_put_27 (g_X10_isIn a2.toInt64 (0 : Int64) (((m1 87 a1.toNatClampNeg) - (1 : Int32)).toInt64) hrf _ h) mS_X10_isIn ml_RX10_53 (by decide) ⟨Nat.le_refl _, Nat.le_refl _, Nat.le_refl _⟩ (Nat.le_of_ble_eq_true rfl) ?_
    intro r6 rf m5 hrf h hr6
    refine G_if_ne pX10_put_30 (fun c7 => ?_) (fun c7 => ?_)
    · have h := h.1 c7
      refine G_aload_n (i := 0) pX10_put_39 rfl rfl ?_
      refine G_getR (ci := 10) (j := 22) (N := 29) pX10_put_40 fl_RX10_43 rfl ltk_76 shk_76 (by decide) rfl (hrf.lit 76 22 rfl) ?_
      refine G_bipush pX10_put_43 bi_40 ?_
      refine G_iload_n (i := 1) pX10_put_45 rfl rfl ?_
      refine G_imul pX10_put_46 ?_
      refine G_iload_n (i := 2) pX10_put_47 rfl rfl ?_
      refine G_iadd pX10_put_48 ?_
      refine G_aload_n (i := 0) pX10_put_49 rfl rfl ?_
      refine G_getR (ci := 10) (j := 20) (N := 29) pX10_put_50 fl_RX10_37 rfl ltk_76 shk_76 (by decide) rfl (hrf.lit 76 20 rfl) ?_
      refine G_iload_n (i := 1) pX10_put_53 rfl rfl ?_
      obtain ⟨hi8, h⟩ := h
      refine G_iald pX10_put_54 ltk_86 shk_86 hi8 ?_
      refine G_bipush pX10_put_55 bi_8 ?_
      refine G_icmp_ne pX10_put_57 (fun c9 => ?_) (fun c9 => ?_)
      · have h := h.1 c9
        refine G_aload_n (i := 0) pX10_put_65 rfl rfl ?_
        refine G_getR (ci := 10) (j := 20) (N := 29) pX10_put_66 fl_RX10_37 rfl ltk_76 shk_76 (by decide) rfl (hrf.lit 76 20 rfl) ?_
        refine G_iload_n (i := 1) pX10_put_69 rfl rfl ?_
        obtain ⟨hi10, h⟩ := h
        refine G_iald pX10_put_70 ltk_86 shk_86 hi10 ?_
        refine G_bipush pX10_put_71 bi_16 ?_
        refine G_icmp_ne pX10_put_73 (fun c11 => ?_) (fun c11 => ?_)
        · have h := h.1 c11
          refine G_iload_n (i := 3) pX10_put_81 rfl rfl ?_
          obtain ⟨hi13, h⟩ := h
          obtain ⟨m12, em12⟩ : ∃ z : MMt, z = up2 m5 88 (((40 : Int32) * a1) + a2).toNatClampNeg a3 := ⟨_, rfl⟩
          have h := h m12 em12
          refine G_iastW pX10_put_82 ltk_88 shk_88 hi13 em12.symm ?_
          refine G_iconst pX10_put_83 ic_1 ?_
          exact G_ireturn (len := 1) pX10_put_84 ⟨hrf, _, rfl, h⟩ ⟨_, rfl, rfl⟩
        · have h := h.2 c11
          refine G_iload_n (i := 3) pX10_put_76 rfl rfl ?_
          refine G_i2s pX10_put_77 ?_
          refine G_goto pX10_put_78 ?_
          obtain ⟨hi15, h⟩ := h
          obtain ⟨m14, em14⟩ : ∃ z : MMt, z = up2 m5 88 (((40 : Int32) * a1) + a2).toNatClampNeg a3.toInt16.toInt32 := ⟨_, rfl⟩
          have h := h m14 em14
          refine G_iastW pX10_put_82 ltk_88 shk_88 hi15 em14.symm ?_
          refine G_iconst pX10_put_83 ic_1 ?_
          exact G_ireturn (len := 1) pX10_put_84 ⟨hrf, _, rfl, h⟩ ⟨_, rfl, rfl⟩
      · have h := h.2 c9
        refine G_iload_n (i := 3) pX10_put_60 rfl rfl ?_
        refine G_i2b pX10_put_61 ?_
        refine G_goto pX10_put_62 ?_
        obtain ⟨hi17, h⟩ := h
        obtain ⟨m16, em16⟩ : ∃ z : MMt, z = up2 m5 88 (((40 : Int32) * a1) + a2).toNatClampNeg a3.toInt8.toInt32 := ⟨_, rfl⟩
        have h := h m16 em16
        refine G_iastW pX10_put_82 ltk_88 shk_88 hi17 em16.symm ?_
        refine G_iconst pX10_put_83 ic_1 ?_
        exact G_ireturn (len := 1) pX10_put_84 ⟨hrf, _, rfl, h⟩ ⟨_, rfl, rfl⟩
    · have h := h.2 c7
      refine G_aload_n (i := 0) pX10_put_33 rfl rfl ?_
      refine G_iconst pX10_put_34 ic_1 ?_
      refine G_callV1i (b := 76) (ci := 10) (N := 29) pX10_put_35 (g_X10_error (1 : Int32) hrf _ h) mV_X10_error ml_RX10_79 (by decide) ⟨Nat.le_refl _, Nat.le_refl _, Nat.le_refl _⟩ (Nat.le_of_ble_eq_true rfl) ltk_76 shk_76 rfl ?_
      intro r19 rf m18 hrf h hr19
      exact G_ireturn (len := 1) pX10_put_38 ⟨hrf, _, rfl, h⟩ ⟨_, rfl, rfl⟩
  · have h := h.2 c3
    refine G_iload (i := 4) pX10_put_12 rfl ?_
    exact G_ireturn (len := 1) pX10_put_14 ⟨hrf, _, rfl, h⟩ ⟨_, rfl, rfl⟩
def B_X10_move_152 (x3 : Int32) (x4 : Int32) (x5 : Int32) (x6 : Int32) (mem : MMt) (Q : Int32 → MMt → Prop) : Prop := LOOP (σ := Int32 × MMt) (fun X152 z => (fun (x6 : Int32) (mem : MMt) => ((x5 ≤ x6 → Q x5 mem) ∧ (¬ x5 ≤ x6 → (vp_in x6 40 ∧ (vp_in ((((40 : Int32) * x3) + x4) + x6) 160 ∧ ∀ m3 : MMt, m3 = up2 mem 88 ((((40 : Int32) * x3) + x4) + x6).toNatClampNeg (mem 90 x6.toNatClampNeg) → (∀ v5 : Int32, v5 = x6 + (1 : Int32) → X152 (v5, m3))))))) z.1 z.2) (x6, mem)
set_option maxRecDepth 4000 in
theorem gB_X10_move_152 {sx : Nat × (Nat → Int32)} {rf : RFt} {Q : Int32 → MMt → Prop} (hrf : RFok rf) (x3 : Int32) (x4 : Int32) (x5 : Int32) (x6 : Int32) (mem : MMt) (h : B_X10_move_152 x3 x4 x5 x6 mem Q) : G sx yX10_move cX10_move 7 (some .int) 3 NX NX (QQi (RFok) Q) NX rf mem 152 [some (.ref 76), none, none, some (.int x3), some (.int x4), some (.int x5), some (.int x6)] [] := by
  obtain ⟨I, ⟨n, h0⟩, hI⟩ := h
  have key : ∀ (n : Nat) (rf : RFt) (x6 : Int32) (mem : MMt), RFok rf → I n (x6, mem) → G sx yX10_move cX10_move 7 (some .int) 3 NX NX (QQi (RFok) Q) NX rf mem 152 [some (.ref 76), none, none, some (.int x3), some (.int x4), some (.int x5), some (.int x6)] [] := by
    intro n
    induction n using Nat.strongRecOn with
    | _ n ih =>
    intro rf x6 mem hrf h0
    have hX152 : ∀ (rf : RFt) (x6 : Int32) (mem : MMt), RFok rf → (fun s' => ∃ m, m < n ∧ I m s') (x6, mem) → G sx yX10_move cX10_move 7 (some .int) 3 NX NX (QQi (RFok) Q) NX rf mem 152 [some (.ref 76), none, none, some (.int x3), some (.int x4), some (.int x5), some (.int x6)] [] := fun rf x6 mem hrf ⟨m, hm, hi⟩ => ih m hm rf x6 mem hrf hi
    have h := hI n _ h0
    clear ih h0
    try dsimp only at h
    refine G_iload (i := 6) pX10_move_152 rfl ?_
    refine G_iload (i := 5) pX10_move_154 rfl ?_
    refine G_icmp_ge pX10_move_156 (fun c1 => ?_) (fun c1 => ?_)
    · have h := h.1 c1
      refine G_iload (i := 5) pX10_move_187 rfl ?_
      exact G_ireturn (len := 1) pX10_move_189 ⟨hrf, _, rfl, h⟩ ⟨_, rfl, rfl⟩
    · have h := h.2 c1
      refine G_aload_n (i := 0) pX10_move_159 rfl rfl ?_
      refine G_getR (ci := 10) (j := 22) (N := 29) pX10_move_160 fl_RX10_43 rfl ltk_76 shk_76 (by decide) rfl (hrf.lit 76 22 rfl) ?_
      refine G_bipush pX10_move_163 bi_40 ?_
      refine G_iload_n (i := 3) pX10_move_165 rfl rfl ?_
      refine G_imul pX10_move_166 ?_
      refine G_iload (i := 4) pX10_move_167 rfl ?_
      refine G_iadd pX10_move_169 ?_
      refine G_iload (i := 6) pX10_move_170 rfl ?_
      refine G_iadd pX10_move_172 ?_
      refine G_aload_n (i := 0) pX10_move_173 rfl rfl ?_
      refine G_getR (ci := 10) (j := 28) (N := 29) pX10_move_174 fl_RX10_49 rfl ltk_76 shk_76 (by decide) rfl (hrf.lit 76 28 rfl) ?_
      refine G_iload (i := 6) pX10_move_177 rfl ?_
      obtain ⟨hi2, h⟩ := h
      refine G_iald pX10_move_179 ltk_90 shk_90 hi2 ?_
      obtain ⟨hi4, h⟩ := h
      obtain ⟨m3, em3⟩ : ∃ z : MMt, z = up2 mem 88 ((((40 : Int32) * x3) + x4) + x6).toNatClampNeg (mem 90 x6.toNatClampNeg) := ⟨_, rfl⟩
      have h := h m3 em3
      refine G_iastW pX10_move_180 ltk_88 shk_88 hi4 em3.symm ?_
      obtain ⟨v5, e5⟩ : ∃ z : Int32, z = x6 + (1 : Int32) := ⟨_, rfl⟩
      have h := h v5 e5
      refine G_iincW (L' := [some (.ref 76), none, none, some (.int x3), some (.int x4), some (.int x5), some (.int v5)]) pX10_move_181 rfl ic_1 e5.symm rfl ?_
      refine G_goto pX10_move_184 ?_
      exact hX152 _ _ _ hrf h
  exact key n rf _ _ hrf h0
def B_X10_move_115 (x1 : Int32) (x2 : Int32) (x3 : Int32) (x4 : Int32) (x5 : Int32) (x6 : Int32) (mem : MMt) (Q : Int32 → MMt → Prop) : Prop := LOOP (σ := Int32 × MMt) (fun X115 z => (fun (x6 : Int32) (mem : MMt) => ((x5 ≤ x6 → B_X10_move_152 x3 x4 x5 (0 : Int32) mem Q) ∧ (¬ x5 ≤ x6 → (vp_in ((((40 : Int32) * x1) + x2) + x6) 160 ∧ (vp_in x6 40 ∧ ∀ m3 : MMt, m3 = up2 mem 90 x6.toNatClampNeg (mem 88 ((((40 : Int32) * x1) + x2) + x6).toNatClampNeg) → (∀ v5 : Int32, v5 = x6 + (1 : Int32) → X115 (v5, m3))))))) z.1 z.2) (x6, mem)
set_option maxRecDepth 4000 in
theorem gB_X10_move_115 {sx : Nat × (Nat → Int32)} {rf : RFt} {Q : Int32 → MMt → Prop} (hrf : RFok rf) (x1 : Int32) (x2 : Int32) (x3 : Int32) (x4 : Int32) (x5 : Int32) (x6 : Int32) (mem : MMt) (h : B_X10_move_115 x1 x2 x3 x4 x5 x6 mem Q) : G sx yX10_move cX10_move 7 (some .int) 3 NX NX (QQi (RFok) Q) NX rf mem 115 [some (.ref 76), some (.int x1), some (.int x2), some (.int x3), some (.int x4), some (.int x5), some (.int x6)] [] := by
  obtain ⟨I, ⟨n, h0⟩, hI⟩ := h
  have key : ∀ (n : Nat) (rf : RFt) (x6 : Int32) (mem : MMt), RFok rf → I n (x6, mem) → G sx yX10_move cX10_move 7 (some .int) 3 NX NX (QQi (RFok) Q) NX rf mem 115 [some (.ref 76), some (.int x1), some (.int x2), some (.int x3), some (.int x4), some (.int x5), some (.int x6)] [] := by
    intro n
    induction n using Nat.strongRecOn with
    | _ n ih =>
    intro rf x6 mem hrf h0
    have hX115 : ∀ (rf : RFt) (x6 : Int32) (mem : MMt), RFok rf → (fun s' => ∃ m, m < n ∧ I m s') (x6, mem) → G sx yX10_move cX10_move 7 (some .int) 3 NX NX (QQi (RFok) Q) NX rf mem 115 [some (.ref 76), some (.int x1), some (.int x2), some (.int x3), some (.int x4), some (.int x5), some (.int x6)] [] := fun rf x6 mem hrf ⟨m, hm, hi⟩ => ih m hm rf x6 mem hrf hi
    have h := hI n _ h0
    clear ih h0
    try dsimp only at h
    refine G_iload (i := 6) pX10_move_115 rfl ?_
    refine G_iload (i := 5) pX10_move_117 rfl ?_
    refine G_icmp_ge pX10_move_119 (fun c1 => ?_) (fun c1 => ?_)
    · have h := h.1 c1
      refine G_iconst pX10_move_149 ic_0 ?_
      refine G_istore (i := 6) (L' := [some (.ref 76), some (.int x1), some (.int x2), some (.int x3), some (.int x4), some (.int x5), some (.int (0 : Int32))]) pX10_move_150 rfl ?_
      refine G_wk (L2 := [some (.ref 76), none, none, some (.int x3), some (.int x4), some (.int x5), some (.int (0 : Int32))]) ⟨Or.inr rfl, Or.inl rfl, Or.inl rfl, Or.inr rfl, Or.inr rfl, Or.inr rfl, Or.inr rfl, trivial⟩ ?_
      exact gB_X10_move_152 hrf x3 x4 x5 (0 : Int32) _ h
    · have h := h.2 c1
      refine G_aload_n (i := 0) pX10_move_122 rfl rfl ?_
      refine G_getR (ci := 10) (j := 28) (N := 29) pX10_move_123 fl_RX10_49 rfl ltk_76 shk_76 (by decide) rfl (hrf.lit 76 28 rfl) ?_
      refine G_iload (i := 6) pX10_move_126 rfl ?_
      refine G_aload_n (i := 0) pX10_move_128 rfl rfl ?_
      refine G_getR (ci := 10) (j := 22) (N := 29) pX10_move_129 fl_RX10_43 rfl ltk_76 shk_76 (by decide) rfl (hrf.lit 76 22 rfl) ?_
      refine G_bipush pX10_move_132 bi_40 ?_
      refine G_iload_n (i := 1) pX10_move_134 rfl rfl ?_
      refine G_imul pX10_move_135 ?_
      refine G_iload_n (i := 2) pX10_move_136 rfl rfl ?_
      refine G_iadd pX10_move_137 ?_
      refine G_iload (i := 6) pX10_move_138 rfl ?_
      refine G_iadd pX10_move_140 ?_
      obtain ⟨hi2, h⟩ := h
      refine G_iald pX10_move_141 ltk_88 shk_88 hi2 ?_
      obtain ⟨hi4, h⟩ := h
      obtain ⟨m3, em3⟩ : ∃ z : MMt, z = up2 mem 90 x6.toNatClampNeg (mem 88 ((((40 : Int32) * x1) + x2) + x6).toNatClampNeg) := ⟨_, rfl⟩
      have h := h m3 em3
      refine G_iastW pX10_move_142 ltk_90 shk_90 hi4 em3.symm ?_
      obtain ⟨v5, e5⟩ : ∃ z : Int32, z = x6 + (1 : Int32) := ⟨_, rfl⟩
      have h := h v5 e5
      refine G_iincW (L' := [some (.ref 76), some (.int x1), some (.int x2), some (.int x3), some (.int x4), some (.int x5), some (.int v5)]) pX10_move_143 rfl ic_1 e5.symm rfl ?_
      refine G_goto pX10_move_146 ?_
      exact hX115 _ _ _ hrf h
  exact key n rf _ _ hrf h0
def L_X10_move (a1 : Int32) (a2 : Int32) (a3 : Int32) (a4 : Int32) (a5 : Int32) (mem : MMt) (Q : Int32 → MMt → Prop) : Prop := L_X10_isSheet a1 mem (fun r2 m1 => ((r2 = 0 → L_X10_error (1 : Int32) m1 (fun r5 m4 => Q r5 m4)) ∧ (¬ r2 = 0 → L_X10_isSheet a3 m1 (fun r7 m6 => ((¬ r7 = 0 → (vp_in a1 4 ∧ (((m6 86 a1.toNatClampNeg) = 0 → L_X10_error (2 : Int32) m6 (fun r12 m11 => Q r12 m11)) ∧ (¬ (m6 86 a1.toNatClampNeg) = 0 → (vp_in a3 4 ∧ ((¬ (m6 86 a3.toNatClampNeg) = 0 → (vp_in a1 4 ∧ (vp_in a3 4 ∧ (((m6 86 a1.toNatClampNeg) = (m6 86 a3.toNatClampNeg) → ((a5 < 0 → L_X10_error (1 : Int32) m6 (fun r20 m19 => Q r20 m19)) ∧ (¬ a5 < 0 → ((a2 < 0 → L_X10_error (1 : Int32) m6 (fun r23 m22 => Q r23 m22)) ∧ (¬ a2 < 0 → ((a4 < 0 → L_X10_error (1 : Int32) m6 (fun r26 m25 => Q r26 m25)) ∧ (¬ a4 < 0 → (vp_in a1 4 ∧ ((((m6 87 a1.toNatClampNeg) - a5) < a2 → L_X10_error (1 : Int32) m6 (fun r30 m29 => Q r30 m29)) ∧ (¬ ((m6 87 a1.toNatClampNeg) - a5) < a2 → (vp_in a3 4 ∧ ((a4 ≤ ((m6 87 a3.toNatClampNeg) - a5) → B_X10_move_115 a1 a2 a3 a4 a5 (0 : Int32) m6 Q) ∧ (¬ a4 ≤ ((m6 87 a3.toNatClampNeg) - a5) → L_X10_error (1 : Int32) m6 (fun r34 m33 => Q r34 m33)))))))))))))) ∧ (¬ (m6 86 a1.toNatClampNeg) = (m6 86 a3.toNatClampNeg) → L_X10_error (5 : Int32) m6 (fun r36 m35 => Q r36 m35)))))) ∧ ((m6 86 a3.toNatClampNeg) = 0 → L_X10_error (2 : Int32) m6 (fun r38 m37 => Q r38 m37)))))))) ∧ (r7 = 0 → L_X10_error (1 : Int32) m6 (fun r40 m39 => Q r40 m39)))))))
set_option maxRecDepth 4000 in
theorem g_X10_move {sx : Nat × (Nat → Int32)} {rf : RFt} {Q : Int32 → MMt → Prop} (a1 : Int32) (a2 : Int32) (a3 : Int32) (a4 : Int32) (a5 : Int32) (hrf : RFok rf) (mem : MMt) (h : L_X10_move a1 a2 a3 a4 a5 mem Q) : Ct sx yX10_move cX10_move 7 (some .int) 3 [.ref 76, .int a1, .int a2, .int a3, .int a4, .int a5] NX NX rf mem (QQi (RFok) Q) := by
  refine Ct_of [some (.ref 76), some (.int a1), some (.int a2), some (.int a3), some (.int a4), some (.int a5), none] (by decide +kernel) (by simp [Lof, Value.category]) rfl ?_
  unfold L_X10_move at h
  refine G_iload_n (i := 1) pX10_move_0 rfl rfl ?_
  refine G_callS1i pX10_move_1 (g_X10_isSheet a1 hrf _ h) mS_X10_isSheet ml_RX10_266 (by decide) ⟨Nat.le_refl _, Nat.le_refl _, Nat.le_refl _⟩ (Nat.le_of_ble_eq_true rfl) ?_
  intro r2 rf m1 hrf h hr2
  refine G_if_eq pX10_move_4 (fun c3 => ?_) (fun c3 => ?_)
  · have h := h.1 c3
    refine G_aload_n (i := 0) pX10_move_14 rfl rfl ?_
    refine G_iconst pX10_move_15 ic_1 ?_
    refine G_callV1i (b := 76) (ci := 10) (N := 29) pX10_move_16 (g_X10_error (1 : Int32) hrf _ h) mV_X10_error ml_RX10_79 (by decide) ⟨Nat.le_refl _, Nat.le_refl _, Nat.le_refl _⟩ (Nat.le_of_ble_eq_true rfl) ltk_76 shk_76 rfl ?_
    intro r5 rf m4 hrf h hr5
    exact G_ireturn (len := 1) pX10_move_19 ⟨hrf, _, rfl, h⟩ ⟨_, rfl, rfl⟩
  · have h := h.2 c3
    refine G_iload_n (i := 3) pX10_move_7 rfl rfl ?_
    refine G_callS1i pX10_move_8 (g_X10_isSheet a3 hrf _ h) mS_X10_isSheet ml_RX10_266 (by decide) ⟨Nat.le_refl _, Nat.le_refl _, Nat.le_refl _⟩ (Nat.le_of_ble_eq_true rfl) ?_
    intro r7 rf m6 hrf h hr7
    refine G_if_ne pX10_move_11 (fun c8 => ?_) (fun c8 => ?_)
    · have h := h.1 c8
      refine G_aload_n (i := 0) pX10_move_20 rfl rfl ?_
      refine G_getR (ci := 10) (j := 20) (N := 29) pX10_move_21 fl_RX10_37 rfl ltk_76 shk_76 (by decide) rfl (hrf.lit 76 20 rfl) ?_
      refine G_iload_n (i := 1) pX10_move_24 rfl rfl ?_
      obtain ⟨hi9, h⟩ := h
      refine G_iald pX10_move_25 ltk_86 shk_86 hi9 ?_
      refine G_if_eq pX10_move_26 (fun c10 => ?_) (fun c10 => ?_)
      · have h := h.1 c10
        refine G_aload_n (i := 0) pX10_move_38 rfl rfl ?_
        refine G_iconst pX10_move_39 ic_2 ?_
        refine G_callV1i (b := 76) (ci := 10) (N := 29) pX10_move_40 (g_X10_error (2 : Int32) hrf _ h) mV_X10_error ml_RX10_79 (by decide) ⟨Nat.le_refl _, Nat.le_refl _, Nat.le_refl _⟩ (Nat.le_of_ble_eq_true rfl) ltk_76 shk_76 rfl ?_
        intro r12 rf m11 hrf h hr12
        exact G_ireturn (len := 1) pX10_move_43 ⟨hrf, _, rfl, h⟩ ⟨_, rfl, rfl⟩
      · have h := h.2 c10
        refine G_aload_n (i := 0) pX10_move_29 rfl rfl ?_
        refine G_getR (ci := 10) (j := 20) (N := 29) pX10_move_30 fl_RX10_37 rfl ltk_76 shk_76 (by decide) rfl (hrf.lit 76 20 rfl) ?_
        refine G_iload_n (i := 3) pX10_move_33 rfl rfl ?_
        obtain ⟨hi13, h⟩ := h
        refine G_iald pX10_move_34 ltk_86 shk_86 hi13 ?_
        refine G_if_ne pX10_move_35 (fun c14 => ?_) (fun c14 => ?_)
        · have h := h.1 c14
          refine G_aload_n (i := 0) pX10_move_44 rfl rfl ?_
          refine G_getR (ci := 10) (j := 20) (N := 29) pX10_move_45 fl_RX10_37 rfl ltk_76 shk_76 (by decide) rfl (hrf.lit 76 20 rfl) ?_
          refine G_iload_n (i := 1) pX10_move_48 rfl rfl ?_
          obtain ⟨hi15, h⟩ := h
          refine G_iald pX10_move_49 ltk_86 shk_86 hi15 ?_
          refine G_aload_n (i := 0) pX10_move_50 rfl rfl ?_
          refine G_getR (ci := 10) (j := 20) (N := 29) pX10_move_51 fl_RX10_37 rfl ltk_76 shk_76 (by decide) rfl (hrf.lit 76 20 rfl) ?_
          refine G_iload_n (i := 3) pX10_move_54 rfl rfl ?_
          obtain ⟨hi16, h⟩ := h
          refine G_iald pX10_move_55 ltk_86 shk_86 hi16 ?_
          refine G_icmp_eq pX10_move_56 (fun c17 => ?_) (fun c17 => ?_)
          · have h := h.1 c17
            refine G_iload (i := 5) pX10_move_65 rfl ?_
            refine G_if_lt pX10_move_67 (fun c18 => ?_) (fun c18 => ?_)
            · have h := h.1 c18
              refine G_aload_n (i := 0) pX10_move_106 rfl rfl ?_
              refine G_iconst pX10_move_107 ic_1 ?_
              refine G_callV1i (b := 76) (ci := 10) (N := 29) pX10_move_108 (g_X10_error (1 : Int32) hrf _ h) mV_X10_error ml_RX10_79 (by decide) ⟨Nat.le_refl _, Nat.le_refl _, Nat.le_refl _⟩ (Nat.le_of_ble_eq_true rfl) ltk_76 shk_76 rfl ?_
              intro r20 rf m19 hrf h hr20
              exact G_ireturn (len := 1) pX10_move_111 ⟨hrf, _, rfl, h⟩ ⟨_, rfl, rfl⟩
            · have h := h.2 c18
              refine G_iload_n (i := 2) pX10_move_70 rfl rfl ?_
              refine G_if_lt pX10_move_71 (fun c21 => ?_) (fun c21 => ?_)
              · have h := h.1 c21
                refine G_aload_n (i := 0) pX10_move_106 rfl rfl ?_
                refine G_iconst pX10_move_107 ic_1 ?_
                refine G_callV1i (b := 76) (ci := 10) (N := 29) pX10_move_108 (g_X10_error (1 : Int32) hrf _ h) mV_X10_error ml_RX10_79 (by decide) ⟨Nat.le_refl _, Nat.le_refl _, Nat.le_refl _⟩ (Nat.le_of_ble_eq_true rfl) ltk_76 shk_76 rfl ?_
                intro r23 rf m22 hrf h hr23
                exact G_ireturn (len := 1) pX10_move_111 ⟨hrf, _, rfl, h⟩ ⟨_, rfl, rfl⟩
              · have h := h.2 c21
                refine G_iload (i := 4) pX10_move_74 rfl ?_
                refine G_if_lt pX10_move_76 (fun c24 => ?_) (fun c24 => ?_)
                · have h := h.1 c24
                  refine G_aload_n (i := 0) pX10_move_106 rfl rfl ?_
                  refine G_iconst pX10_move_107 ic_1 ?_
                  refine G_callV1i (b := 76) (ci := 10) (N := 29) pX10_move_108 (g_X10_error (1 : Int32) hrf _ h) mV_X10_error ml_RX10_79 (by decide) ⟨Nat.le_refl _, Nat.le_refl _, Nat.le_refl _⟩ (Nat.le_of_ble_eq_true rfl) ltk_76 shk_76 rfl ?_
                  intro r26 rf m25 hrf h hr26
                  exact G_ireturn (len := 1) pX10_move_111 ⟨hrf, _, rfl, h⟩ ⟨_, rfl, rfl⟩
                · have h := h.2 c24
                  refine G_iload_n (i := 2) pX10_move_79 rfl rfl ?_
                  refine G_aload_n (i := 0) pX10_move_80 rfl rfl ?_
                  refine G_getR (ci := 10) (j := 21) (N := 29) pX10_move_81 fl_RX10_40 rfl ltk_76 shk_76 (by decide) rfl (hrf.lit 76 21 rfl) ?_
                  refine G_iload_n (i := 1) pX10_move_84 rfl rfl ?_
                  obtain ⟨hi27, h⟩ := h
                  refine G_iald pX10_move_85 ltk_87 shk_87 hi27 ?_
                  refine G_iload (i := 5) pX10_move_86 rfl ?_
                  refine G_isub pX10_move_88 ?_
                  refine G_icmp_gt pX10_move_89 (fun c28 => ?_) (fun c28 => ?_)
                  · have h := h.1 c28
                    refine G_aload_n (i := 0) pX10_move_106 rfl rfl ?_
                    refine G_iconst pX10_move_107 ic_1 ?_
                    refine G_callV1i (b := 76) (ci := 10) (N := 29) pX10_move_108 (g_X10_error (1 : Int32) hrf _ h) mV_X10_error ml_RX10_79 (by decide) ⟨Nat.le_refl _, Nat.le_refl _, Nat.le_refl _⟩ (Nat.le_of_ble_eq_true rfl) ltk_76 shk_76 rfl ?_
                    intro r30 rf m29 hrf h hr30
                    exact G_ireturn (len := 1) pX10_move_111 ⟨hrf, _, rfl, h⟩ ⟨_, rfl, rfl⟩
                  · have h := h.2 c28
                    refine G_iload (i := 4) pX10_move_92 rfl ?_
                    refine G_aload_n (i := 0) pX10_move_94 rfl rfl ?_
                    refine G_getR (ci := 10) (j := 21) (N := 29) pX10_move_95 fl_RX10_40 rfl ltk_76 shk_76 (by decide) rfl (hrf.lit 76 21 rfl) ?_
                    refine G_iload_n (i := 3) pX10_move_98 rfl rfl ?_
                    obtain ⟨hi31, h⟩ := h
                    refine G_iald pX10_move_99 ltk_87 shk_87 hi31 ?_
                    refine G_iload (i := 5) pX10_move_100 rfl ?_
                    refine G_isub pX10_move_102 ?_
                    refine G_icmp_le pX10_move_103 (fun c32 => ?_) (fun c32 => ?_)
                    · have h := h.1 c32
                      refine G_iconst pX10_move_112 ic_0 ?_
                      refine G_istore (i := 6) (L' := [some (.ref 76), some (.int a1), some (.int a2), some (.int a3), some (.int a4), some (.int a5), some (.int (0 : Int32))]) pX10_move_113 rfl ?_
                      exact gB_X10_move_115 hrf a1 a2 a3 a4 a5 (0 : Int32) _ h
                    · have h := h.2 c32
                      refine G_aload_n (i := 0) pX10_move_106 rfl rfl ?_
                      refine G_iconst pX10_move_107 ic_1 ?_
                      refine G_callV1i (b := 76) (ci := 10) (N := 29) pX10_move_108 (g_X10_error (1 : Int32) hrf _ h) mV_X10_error ml_RX10_79 (by decide) ⟨Nat.le_refl _, Nat.le_refl _, Nat.le_refl _⟩ (Nat.le_of_ble_eq_true rfl) ltk_76 shk_76 rfl ?_
                      intro r34 rf m33 hrf h hr34
                      exact G_ireturn (len := 1) pX10_move_111 ⟨hrf, _, rfl, h⟩ ⟨_, rfl, rfl⟩
          · have h := h.2 c17
            refine G_aload_n (i := 0) pX10_move_59 rfl rfl ?_
            refine G_iconst pX10_move_60 ic_5 ?_
            refine G_callV1i (b := 76) (ci := 10) (N := 29) pX10_move_61 (g_X10_error (5 : Int32) hrf _ h) mV_X10_error ml_RX10_79 (by decide) ⟨Nat.le_refl _, Nat.le_refl _, Nat.le_refl _⟩ (Nat.le_of_ble_eq_true rfl) ltk_76 shk_76 rfl ?_
            intro r36 rf m35 hrf h hr36
            exact G_ireturn (len := 1) pX10_move_64 ⟨hrf, _, rfl, h⟩ ⟨_, rfl, rfl⟩
        · have h := h.2 c14
          refine G_aload_n (i := 0) pX10_move_38 rfl rfl ?_
          refine G_iconst pX10_move_39 ic_2 ?_
          refine G_callV1i (b := 76) (ci := 10) (N := 29) pX10_move_40 (g_X10_error (2 : Int32) hrf _ h) mV_X10_error ml_RX10_79 (by decide) ⟨Nat.le_refl _, Nat.le_refl _, Nat.le_refl _⟩ (Nat.le_of_ble_eq_true rfl) ltk_76 shk_76 rfl ?_
          intro r38 rf m37 hrf h hr38
          exact G_ireturn (len := 1) pX10_move_43 ⟨hrf, _, rfl, h⟩ ⟨_, rfl, rfl⟩
    · have h := h.2 c8
      refine G_aload_n (i := 0) pX10_move_14 rfl rfl ?_
      refine G_iconst pX10_move_15 ic_1 ?_
      refine G_callV1i (b := 76) (ci := 10) (N := 29) pX10_move_16 (g_X10_error (1 : Int32) hrf _ h) mV_X10_error ml_RX10_79 (by decide) ⟨Nat.le_refl _, Nat.le_refl _, Nat.le_refl _⟩ (Nat.le_of_ble_eq_true rfl) ltk_76 shk_76 rfl ?_
      intro r40 rf m39 hrf h hr40
      exact G_ireturn (len := 1) pX10_move_19 ⟨hrf, _, rfl, h⟩ ⟨_, rfl, rfl⟩
def B_X10_pushes_14 (x1 : Int32) (x3 : Int32) (mem : MMt) (Q : Int32 → MMt → Prop) : Prop := LOOP (σ := Int32 × MMt) (fun X14 z => (fun (x3 : Int32) (mem : MMt) => (vp_in x1 4 ∧ (((mem 87 x1.toNatClampNeg) ≤ x3 → Q x3 mem) ∧ (¬ (mem 87 x1.toNatClampNeg) ≤ x3 → (((mem 77 6) ≤ x3 → Q x3 mem) ∧ (¬ (mem 77 6) ≤ x3 → (vp_in (((40 : Int32) * x1) + x3) 160 ∧ L_X10_isPush (mem 88 (((40 : Int32) * x1) + x3).toNatClampNeg) mem (fun r6 m5 => ((r6 = 0 → Q x3 m5) ∧ (¬ r6 = 0 → (vp_in (((40 : Int32) * x1) + x3) 160 ∧ L_X10_pushed x3 (m5 88 (((40 : Int32) * x1) + x3).toNatClampNeg) m5 (fun r10 m9 => (∀ v11 : Int32, v11 = x3 + (1 : Int32) → X14 (v11, m9)))))))))))))) z.1 z.2) (x3, mem)
set_option maxRecDepth 4000 in
theorem gB_X10_pushes_14 {sx : Nat × (Nat → Int32)} {rf : RFt} {Q : Int32 → MMt → Prop} (hrf : RFok rf) (x1 : Int32) (x3 : Int32) (mem : MMt) (h : B_X10_pushes_14 x1 x3 mem Q) : G sx yX10_pushes cX10_pushes 4 (some .int) 4 NX NX (QQi (RFok) Q) NX rf mem 14 [some (.ref 76), some (.int x1), none, some (.int x3)] [] := by
  obtain ⟨I, ⟨n, h0⟩, hI⟩ := h
  have key : ∀ (n : Nat) (rf : RFt) (x3 : Int32) (mem : MMt), RFok rf → I n (x3, mem) → G sx yX10_pushes cX10_pushes 4 (some .int) 4 NX NX (QQi (RFok) Q) NX rf mem 14 [some (.ref 76), some (.int x1), none, some (.int x3)] [] := by
    intro n
    induction n using Nat.strongRecOn with
    | _ n ih =>
    intro rf x3 mem hrf h0
    have hX14 : ∀ (rf : RFt) (x3 : Int32) (mem : MMt), RFok rf → (fun s' => ∃ m, m < n ∧ I m s') (x3, mem) → G sx yX10_pushes cX10_pushes 4 (some .int) 4 NX NX (QQi (RFok) Q) NX rf mem 14 [some (.ref 76), some (.int x1), none, some (.int x3)] [] := fun rf x3 mem hrf ⟨m, hm, hi⟩ => ih m hm rf x3 mem hrf hi
    have h := hI n _ h0
    clear ih h0
    try dsimp only at h
    refine G_iload_n (i := 3) pX10_pushes_14 rfl rfl ?_
    refine G_aload_n (i := 0) pX10_pushes_15 rfl rfl ?_
    refine G_getR (ci := 10) (j := 21) (N := 29) pX10_pushes_16 fl_RX10_40 rfl ltk_76 shk_76 (by decide) rfl (hrf.lit 76 21 rfl) ?_
    refine G_iload_n (i := 1) pX10_pushes_19 rfl rfl ?_
    obtain ⟨hi1, h⟩ := h
    refine G_iald pX10_pushes_20 ltk_87 shk_87 hi1 ?_
    refine G_icmp_ge pX10_pushes_21 (fun c2 => ?_) (fun c2 => ?_)
    · have h := h.1 c2
      refine G_iload_n (i := 3) pX10_pushes_75 rfl rfl ?_
      exact G_ireturn (len := 1) pX10_pushes_76 ⟨hrf, _, rfl, h⟩ ⟨_, rfl, rfl⟩
    · have h := h.2 c2
      refine G_iload_n (i := 3) pX10_pushes_24 rfl rfl ?_
      refine G_aload_n (i := 0) pX10_pushes_25 rfl rfl ?_
      refine G_getR (ci := 10) (j := 0) (N := 29) pX10_pushes_26 fl_RX10_9 rfl ltk_76 shk_76 (by decide) rfl (hrf.lit 76 0 rfl) ?_
      refine G_bipush pX10_pushes_29 bi_6 ?_
      refine G_ialdL (j := 6) pX10_pushes_31 ltk_77 shk_77 (vpl (by decide)) (by decide) ?_
      refine G_icmp_ge pX10_pushes_32 (fun c3 => ?_) (fun c3 => ?_)
      · have h := h.1 c3
        refine G_iload_n (i := 3) pX10_pushes_75 rfl rfl ?_
        exact G_ireturn (len := 1) pX10_pushes_76 ⟨hrf, _, rfl, h⟩ ⟨_, rfl, rfl⟩
      · have h := h.2 c3
        refine G_aload_n (i := 0) pX10_pushes_35 rfl rfl ?_
        refine G_getR (ci := 10) (j := 22) (N := 29) pX10_pushes_36 fl_RX10_43 rfl ltk_76 shk_76 (by decide) rfl (hrf.lit 76 22 rfl) ?_
        refine G_bipush pX10_pushes_39 bi_40 ?_
        refine G_iload_n (i := 1) pX10_pushes_41 rfl rfl ?_
        refine G_imul pX10_pushes_42 ?_
        refine G_iload_n (i := 3) pX10_pushes_43 rfl rfl ?_
        refine G_iadd pX10_pushes_44 ?_
        obtain ⟨hi4, h⟩ := h
        refine G_iald pX10_pushes_45 ltk_88 shk_88 hi4 ?_
        refine G_callS1i pX10_pushes_46 (g_X10_isPush (mem 88 (((40 : Int32) * x1) + x3).toNatClampNeg) hrf _ h) mS_X10_isPush ml_RX10_116 (by decide) ⟨Nat.le_refl _, Nat.le_refl _, Nat.le_refl _⟩ (Nat.le_of_ble_eq_true rfl) ?_
        intro r6 rf m5 hrf h hr6
        refine G_if_eq pX10_pushes_49 (fun c7 => ?_) (fun c7 => ?_)
        · have h := h.1 c7
          refine G_iload_n (i := 3) pX10_pushes_75 rfl rfl ?_
          exact G_ireturn (len := 1) pX10_pushes_76 ⟨hrf, _, rfl, h⟩ ⟨_, rfl, rfl⟩
        · have h := h.2 c7
          refine G_aload_n (i := 0) pX10_pushes_52 rfl rfl ?_
          refine G_iload_n (i := 3) pX10_pushes_53 rfl rfl ?_
          refine G_aload_n (i := 0) pX10_pushes_54 rfl rfl ?_
          refine G_getR (ci := 10) (j := 22) (N := 29) pX10_pushes_55 fl_RX10_43 rfl ltk_76 shk_76 (by decide) rfl (hrf.lit 76 22 rfl) ?_
          refine G_bipush pX10_pushes_58 bi_40 ?_
          refine G_iload_n (i := 1) pX10_pushes_60 rfl rfl ?_
          refine G_imul pX10_pushes_61 ?_
          refine G_iload_n (i := 3) pX10_pushes_62 rfl rfl ?_
          refine G_iadd pX10_pushes_63 ?_
          obtain ⟨hi8, h⟩ := h
          refine G_iald pX10_pushes_64 ltk_88 shk_88 hi8 ?_
          refine G_callV2i (b := 76) (ci := 10) (N := 29) pX10_pushes_65 (g_X10_pushed x3 (m5 88 (((40 : Int32) * x1) + x3).toNatClampNeg) hrf _ h) mV_X10_pushed ml_RX10_119 (by decide) ⟨Nat.le_refl _, Nat.le_refl _, Nat.le_refl _⟩ (Nat.le_of_ble_eq_true rfl) ltk_76 shk_76 rfl ?_
          intro r10 rf m9 hrf h hr10
          refine G_pop pX10_pushes_68 rfl ?_
          obtain ⟨v11, e11⟩ : ∃ z : Int32, z = x3 + (1 : Int32) := ⟨_, rfl⟩
          have h := h v11 e11
          refine G_iincW (L' := [some (.ref 76), some (.int x1), none, some (.int v11)]) pX10_pushes_69 rfl ic_1 e11.symm rfl ?_
          refine G_goto pX10_pushes_72 ?_
          exact hX14 _ _ _ hrf h
  exact key n rf _ _ hrf h0
def L_X10_pushes (a1 : Int32) (mem : MMt) (Q : Int32 → MMt → Prop) : Prop := L_X10_noSheet a1 mem (fun r2 m1 => ((r2 = 0 → B_X10_pushes_14 a1 (0 : Int32) m1 Q) ∧ (¬ r2 = 0 → Q r2 m1)))
set_option maxRecDepth 4000 in
theorem g_X10_pushes {sx : Nat × (Nat → Int32)} {rf : RFt} {Q : Int32 → MMt → Prop} (a1 : Int32) (hrf : RFok rf) (mem : MMt) (h : L_X10_pushes a1 mem Q) : Ct sx yX10_pushes cX10_pushes 4 (some .int) 4 [.ref 76, .int a1] NX NX rf mem (QQi (RFok) Q) := by
  refine Ct_of [some (.ref 76), some (.int a1), none, none] (by decide +kernel) (by simp [Lof, Value.category]) rfl ?_
  unfold L_X10_pushes at h
  refine G_aload_n (i := 0) pX10_pushes_0 rfl rfl ?_
  refine G_iload_n (i := 1) pX10_pushes_1 rfl rfl ?_
  refine G_callV1i (b := 76) (ci := 10) (N := 29) pX10_pushes_2 (g_X10_noSheet a1 hrf _ h) mV_X10_noSheet ml_RX10_307 (by decide) ⟨Nat.le_refl _, Nat.le_refl _, Nat.le_refl _⟩ (Nat.le_of_ble_eq_true rfl) ltk_76 shk_76 rfl ?_
  intro r2 rf m1 hrf h hr2
  refine G_istore_n (i := 2) (L' := [some (.ref 76), some (.int a1), some (.int r2), none]) pX10_pushes_5 rfl rfl ?_
  refine G_iload_n (i := 2) pX10_pushes_6 rfl rfl ?_
  refine G_if_eq pX10_pushes_7 (fun c3 => ?_) (fun c3 => ?_)
  · have h := h.1 c3
    refine G_iconst pX10_pushes_12 ic_0 ?_
    refine G_istore_n (i := 3) (L' := [some (.ref 76), some (.int a1), some (.int r2), some (.int (0 : Int32))]) pX10_pushes_13 rfl rfl ?_
    refine G_wk (L2 := [some (.ref 76), some (.int a1), none, some (.int (0 : Int32))]) ⟨Or.inr rfl, Or.inr rfl, Or.inl rfl, Or.inr rfl, trivial⟩ ?_
    exact gB_X10_pushes_14 hrf a1 (0 : Int32) _ h
  · have h := h.2 c3
    refine G_iload_n (i := 2) pX10_pushes_10 rfl rfl ?_
    exact G_ireturn (len := 1) pX10_pushes_11 ⟨hrf, _, rfl, h⟩ ⟨_, rfl, rfl⟩
def B_X10_judge_61 (x1 : Int32) (x3 : Int32) (mem : MMt) (Q : Int32 → MMt → Prop) : Prop := (vp_in x1 4 ∧ ((¬ x3 = (mem 87 x1.toNatClampNeg) → Q x3 mem) ∧ (x3 = (mem 87 x1.toNatClampNeg) → ((¬ x3 = (mem 77 6) → Q x3 mem) ∧ (x3 = (mem 77 6) → Q (-1 : Int32) mem)))))
set_option maxRecDepth 4000 in
theorem gB_X10_judge_61 {sx : Nat × (Nat → Int32)} {rf : RFt} {Q : Int32 → MMt → Prop} (hrf : RFok rf) (x1 : Int32) (x3 : Int32) (mem : MMt) (h : B_X10_judge_61 x1 x3 mem Q) : G sx yX10_judge cX10_judge 4 (some .int) 4 NX NX (QQi (RFok) Q) NX rf mem 61 [some (.ref 76), some (.int x1), none, some (.int x3)] [] := by
  unfold B_X10_judge_61 at h
  refine G_iload_n (i := 3) pX10_judge_61 rfl rfl ?_
  refine G_aload_n (i := 0) pX10_judge_62 rfl rfl ?_
  refine G_getR (ci := 10) (j := 21) (N := 29) pX10_judge_63 fl_RX10_40 rfl ltk_76 shk_76 (by decide) rfl (hrf.lit 76 21 rfl) ?_
  refine G_iload_n (i := 1) pX10_judge_66 rfl rfl ?_
  obtain ⟨hi1, h⟩ := h
  refine G_iald pX10_judge_67 ltk_87 shk_87 hi1 ?_
  refine G_icmp_ne pX10_judge_68 (fun c2 => ?_) (fun c2 => ?_)
  · have h := h.1 c2
    refine G_iload_n (i := 3) pX10_judge_86 rfl rfl ?_
    exact G_ireturn (len := 1) pX10_judge_87 ⟨hrf, _, rfl, h⟩ ⟨_, rfl, rfl⟩
  · have h := h.2 c2
    refine G_iload_n (i := 3) pX10_judge_71 rfl rfl ?_
    refine G_aload_n (i := 0) pX10_judge_72 rfl rfl ?_
    refine G_getR (ci := 10) (j := 0) (N := 29) pX10_judge_73 fl_RX10_9 rfl ltk_76 shk_76 (by decide) rfl (hrf.lit 76 0 rfl) ?_
    refine G_bipush pX10_judge_76 bi_6 ?_
    refine G_ialdL (j := 6) pX10_judge_78 ltk_77 shk_77 (vpl (by decide)) (by decide) ?_
    refine G_icmp_ne pX10_judge_79 (fun c3 => ?_) (fun c3 => ?_)
    · have h := h.1 c3
      refine G_iload_n (i := 3) pX10_judge_86 rfl rfl ?_
      exact G_ireturn (len := 1) pX10_judge_87 ⟨hrf, _, rfl, h⟩ ⟨_, rfl, rfl⟩
    · have h := h.2 c3
      refine G_iconst pX10_judge_82 ic_m1 ?_
      refine G_goto pX10_judge_83 ?_
      exact G_ireturn (len := 1) pX10_judge_87 ⟨hrf, _, rfl, h⟩ ⟨_, rfl, rfl⟩
def B_X10_judge_14 (x1 : Int32) (x3 : Int32) (mem : MMt) (Q : Int32 → MMt → Prop) : Prop := LOOP (σ := Int32 × MMt) (fun X14 z => (fun (x3 : Int32) (mem : MMt) => (vp_in x1 4 ∧ (((mem 87 x1.toNatClampNeg) ≤ x3 → B_X10_judge_61 x1 x3 mem Q) ∧ (¬ (mem 87 x1.toNatClampNeg) ≤ x3 → (((mem 77 6) ≤ x3 → B_X10_judge_61 x1 x3 mem Q) ∧ (¬ (mem 77 6) ≤ x3 → (vp_in (((40 : Int32) * x1) + x3) 160 ∧ L_X10_of x3 (2 : Int32) mem (fun r6 m5 => ((¬ (mem 88 (((40 : Int32) * x1) + x3).toNatClampNeg) = r6 → B_X10_judge_61 x1 x3 m5 Q) ∧ ((mem 88 (((40 : Int32) * x1) + x3).toNatClampNeg) = r6 → (∀ v8 : Int32, v8 = x3 + (1 : Int32) → X14 (v8, m5)))))))))))) z.1 z.2) (x3, mem)
set_option maxRecDepth 4000 in
theorem gB_X10_judge_14 {sx : Nat × (Nat → Int32)} {rf : RFt} {Q : Int32 → MMt → Prop} (hrf : RFok rf) (x1 : Int32) (x3 : Int32) (mem : MMt) (h : B_X10_judge_14 x1 x3 mem Q) : G sx yX10_judge cX10_judge 4 (some .int) 4 NX NX (QQi (RFok) Q) NX rf mem 14 [some (.ref 76), some (.int x1), none, some (.int x3)] [] := by
  obtain ⟨I, ⟨n, h0⟩, hI⟩ := h
  have key : ∀ (n : Nat) (rf : RFt) (x3 : Int32) (mem : MMt), RFok rf → I n (x3, mem) → G sx yX10_judge cX10_judge 4 (some .int) 4 NX NX (QQi (RFok) Q) NX rf mem 14 [some (.ref 76), some (.int x1), none, some (.int x3)] [] := by
    intro n
    induction n using Nat.strongRecOn with
    | _ n ih =>
    intro rf x3 mem hrf h0
    have hX14 : ∀ (rf : RFt) (x3 : Int32) (mem : MMt), RFok rf → (fun s' => ∃ m, m < n ∧ I m s') (x3, mem) → G sx yX10_judge cX10_judge 4 (some .int) 4 NX NX (QQi (RFok) Q) NX rf mem 14 [some (.ref 76), some (.int x1), none, some (.int x3)] [] := fun rf x3 mem hrf ⟨m, hm, hi⟩ => ih m hm rf x3 mem hrf hi
    have h := hI n _ h0
    clear ih h0
    try dsimp only at h
    refine G_iload_n (i := 3) pX10_judge_14 rfl rfl ?_
    refine G_aload_n (i := 0) pX10_judge_15 rfl rfl ?_
    refine G_getR (ci := 10) (j := 21) (N := 29) pX10_judge_16 fl_RX10_40 rfl ltk_76 shk_76 (by decide) rfl (hrf.lit 76 21 rfl) ?_
    refine G_iload_n (i := 1) pX10_judge_19 rfl rfl ?_
    obtain ⟨hi1, h⟩ := h
    refine G_iald pX10_judge_20 ltk_87 shk_87 hi1 ?_
    refine G_icmp_ge pX10_judge_21 (fun c2 => ?_) (fun c2 => ?_)
    · have h := h.1 c2
      exact gB_X10_judge_61 hrf x1 x3 _ h
    · have h := h.2 c2
      refine G_iload_n (i := 3) pX10_judge_24 rfl rfl ?_
      refine G_aload_n (i := 0) pX10_judge_25 rfl rfl ?_
      refine G_getR (ci := 10) (j := 0) (N := 29) pX10_judge_26 fl_RX10_9 rfl ltk_76 shk_76 (by decide) rfl (hrf.lit 76 0 rfl) ?_
      refine G_bipush pX10_judge_29 bi_6 ?_
      refine G_ialdL (j := 6) pX10_judge_31 ltk_77 shk_77 (vpl (by decide)) (by decide) ?_
      refine G_icmp_ge pX10_judge_32 (fun c3 => ?_) (fun c3 => ?_)
      · have h := h.1 c3
        exact gB_X10_judge_61 hrf x1 x3 _ h
      · have h := h.2 c3
        refine G_aload_n (i := 0) pX10_judge_35 rfl rfl ?_
        refine G_getR (ci := 10) (j := 22) (N := 29) pX10_judge_36 fl_RX10_43 rfl ltk_76 shk_76 (by decide) rfl (hrf.lit 76 22 rfl) ?_
        refine G_bipush pX10_judge_39 bi_40 ?_
        refine G_iload_n (i := 1) pX10_judge_41 rfl rfl ?_
        refine G_imul pX10_judge_42 ?_
        refine G_iload_n (i := 3) pX10_judge_43 rfl rfl ?_
        refine G_iadd pX10_judge_44 ?_
        obtain ⟨hi4, h⟩ := h
        refine G_iald pX10_judge_45 ltk_88 shk_88 hi4 ?_
        refine G_aload_n (i := 0) pX10_judge_46 rfl rfl ?_
        refine G_iload_n (i := 3) pX10_judge_47 rfl rfl ?_
        refine G_iconst pX10_judge_48 ic_2 ?_
        refine G_callV2i (b := 76) (ci := 10) (N := 29) pX10_judge_49 (g_X10_of x3 (2 : Int32) hrf _ h) mV_X10_of ml_RX10_61 (by decide) ⟨Nat.le_refl _, Nat.le_refl _, Nat.le_refl _⟩ (Nat.le_of_ble_eq_true rfl) ltk_76 shk_76 rfl ?_
        intro r6 rf m5 hrf h hr6
        refine G_icmp_ne pX10_judge_52 (fun c7 => ?_) (fun c7 => ?_)
        · have h := h.1 c7
          exact gB_X10_judge_61 hrf x1 x3 _ h
        · have h := h.2 c7
          obtain ⟨v8, e8⟩ : ∃ z : Int32, z = x3 + (1 : Int32) := ⟨_, rfl⟩
          have h := h v8 e8
          refine G_iincW (L' := [some (.ref 76), some (.int x1), none, some (.int v8)]) pX10_judge_55 rfl ic_1 e8.symm rfl ?_
          refine G_goto pX10_judge_58 ?_
          exact hX14 _ _ _ hrf h
  exact key n rf _ _ hrf h0
def L_X10_judge (a1 : Int32) (mem : MMt) (Q : Int32 → MMt → Prop) : Prop := L_X10_noSheet a1 mem (fun r2 m1 => ((r2 = 0 → B_X10_judge_14 a1 (0 : Int32) m1 Q) ∧ (¬ r2 = 0 → Q r2 m1)))
set_option maxRecDepth 4000 in
theorem g_X10_judge {sx : Nat × (Nat → Int32)} {rf : RFt} {Q : Int32 → MMt → Prop} (a1 : Int32) (hrf : RFok rf) (mem : MMt) (h : L_X10_judge a1 mem Q) : Ct sx yX10_judge cX10_judge 4 (some .int) 4 [.ref 76, .int a1] NX NX rf mem (QQi (RFok) Q) := by
  refine Ct_of [some (.ref 76), some (.int a1), none, none] (by decide +kernel) (by simp [Lof, Value.category]) rfl ?_
  unfold L_X10_judge at h
  refine G_aload_n (i := 0) pX10_judge_0 rfl rfl ?_
  refine G_iload_n (i := 1) pX10_judge_1 rfl rfl ?_
  refine G_callV1i (b := 76) (ci := 10) (N := 29) pX10_judge_2 (g_X10_noSheet a1 hrf _ h) mV_X10_noSheet ml_RX10_307 (by decide) ⟨Nat.le_refl _, Nat.le_refl _, Nat.le_refl _⟩ (Nat.le_of_ble_eq_true rfl) ltk_76 shk_76 rfl ?_
  intro r2 rf m1 hrf h hr2
  refine G_istore_n (i := 2) (L' := [some (.ref 76), some (.int a1), some (.int r2), none]) pX10_judge_5 rfl rfl ?_
  refine G_iload_n (i := 2) pX10_judge_6 rfl rfl ?_
  refine G_if_eq pX10_judge_7 (fun c3 => ?_) (fun c3 => ?_)
  · have h := h.1 c3
    refine G_iconst pX10_judge_12 ic_0 ?_
    refine G_istore_n (i := 3) (L' := [some (.ref 76), some (.int a1), some (.int r2), some (.int (0 : Int32))]) pX10_judge_13 rfl rfl ?_
    refine G_wk (L2 := [some (.ref 76), some (.int a1), none, some (.int (0 : Int32))]) ⟨Or.inr rfl, Or.inr rfl, Or.inl rfl, Or.inr rfl, trivial⟩ ?_
    exact gB_X10_judge_14 hrf a1 (0 : Int32) _ h
  · have h := h.2 c3
    refine G_iload_n (i := 2) pX10_judge_10 rfl rfl ?_
    exact G_ireturn (len := 1) pX10_judge_11 ⟨hrf, _, rfl, h⟩ ⟨_, rfl, rfl⟩
def B_X10_over__2 (a1 : Nat) (a2 : Nat) (x2 : Int32) (mem : MMt) (Q : MMt → Prop) : Prop := LOOP (σ := Int32 × MMt) (fun X2 z => (fun (x2 : Int32) (mem : MMt) => (((322 : Int32) ≤ x2 → Q mem) ∧ (¬ (322 : Int32) ≤ x2 → (vp_in x2 322 ∧ (vp_in x2 322 ∧ ∀ m3 : MMt, m3 = up2 mem a2 x2.toNatClampNeg (mem a1 x2.toNatClampNeg) → (∀ v5 : Int32, v5 = x2 + (1 : Int32) → X2 (v5, m3))))))) z.1 z.2) (x2, mem)
set_option maxRecDepth 4000 in
theorem gB_X10_over__2 {sx : Nat × (Nat → Int32)} {M : RFt → Prop} {rf : RFt} {Q : MMt → Prop} (a1 : Nat) (a2 : Nat) (hs1 : SH a1 = (0, 322)) (hl1 : a1 < NX) (hs2 : SH a2 = (0, 322)) (hl2 : a2 < NX) (hrf : M rf) (x2 : Int32) (mem : MMt) (h : B_X10_over__2 a1 a2 x2 mem Q) : G sx yX10_over_ cX10_over_ 3 none 1 NX NX (QQv (M) Q) NX rf mem 2 [some (.ref a1), some (.ref a2), some (.int x2)] [] := by
  obtain ⟨I, ⟨n, h0⟩, hI⟩ := h
  have key : ∀ (n : Nat) (rf : RFt) (x2 : Int32) (mem : MMt), M rf → I n (x2, mem) → G sx yX10_over_ cX10_over_ 3 none 1 NX NX (QQv (M) Q) NX rf mem 2 [some (.ref a1), some (.ref a2), some (.int x2)] [] := by
    intro n
    induction n using Nat.strongRecOn with
    | _ n ih =>
    intro rf x2 mem hrf h0
    have hX2 : ∀ (rf : RFt) (x2 : Int32) (mem : MMt), M rf → (fun s' => ∃ m, m < n ∧ I m s') (x2, mem) → G sx yX10_over_ cX10_over_ 3 none 1 NX NX (QQv (M) Q) NX rf mem 2 [some (.ref a1), some (.ref a2), some (.int x2)] [] := fun rf x2 mem hrf ⟨m, hm, hi⟩ => ih m hm rf x2 mem hrf hi
    have h := hI n _ h0
    clear ih h0
    try dsimp only at h
    refine G_iload_n (i := 2) pX10_over__2 rfl rfl ?_
    refine G_sipush pX10_over__3 si_322 ?_
    refine G_icmp_ge pX10_over__6 (fun c1 => ?_) (fun c1 => ?_)
    · have h := h.1 c1
      exact G_return (len := 1) pX10_over__21 ⟨hrf, rfl, h⟩ rfl
    · have h := h.2 c1
      refine G_aload_n (i := 1) pX10_over__9 rfl rfl ?_
      refine G_iload_n (i := 2) pX10_over__10 rfl rfl ?_
      refine G_aload_n (i := 0) pX10_over__11 rfl rfl ?_
      refine G_iload_n (i := 2) pX10_over__12 rfl rfl ?_
      obtain ⟨hi2, h⟩ := h
      refine G_iald pX10_over__13 hl1 hs1 hi2 ?_
      obtain ⟨hi4, h⟩ := h
      obtain ⟨m3, em3⟩ : ∃ z : MMt, z = up2 mem a2 x2.toNatClampNeg (mem a1 x2.toNatClampNeg) := ⟨_, rfl⟩
      have h := h m3 em3
      refine G_iastW pX10_over__14 hl2 hs2 hi4 em3.symm ?_
      obtain ⟨v5, e5⟩ : ∃ z : Int32, z = x2 + (1 : Int32) := ⟨_, rfl⟩
      have h := h v5 e5
      refine G_iincW (L' := [some (.ref a1), some (.ref a2), some (.int v5)]) pX10_over__15 rfl ic_1 e5.symm rfl ?_
      refine G_goto pX10_over__18 ?_
      exact hX2 _ _ _ hrf h
  exact key n rf _ _ hrf h0
def L_X10_over_ (a1 : Nat) (a2 : Nat) (mem : MMt) (Q : MMt → Prop) : Prop := B_X10_over__2 a1 a2 (0 : Int32) mem Q
set_option maxRecDepth 4000 in
theorem g_X10_over_ {sx : Nat × (Nat → Int32)} {M : RFt → Prop} {rf : RFt} {Q : MMt → Prop} (a1 : Nat) (a2 : Nat) (hs1 : SH a1 = (0, 322)) (hl1 : a1 < NX) (hs2 : SH a2 = (0, 322)) (hl2 : a2 < NX) (hrf : M rf) (mem : MMt) (h : L_X10_over_ a1 a2 mem Q) : Ct sx yX10_over_ cX10_over_ 3 none 1 [.ref a1, .ref a2] NX NX rf mem (QQv (M) Q) := by
  refine Ct_of [some (.ref a1), some (.ref a2), none] (by decide +kernel) (by simp [Lof, Value.category]) rfl ?_
  unfold L_X10_over_ at h
  refine G_iconst pX10_over__0 ic_0 ?_
  refine G_istore_n (i := 2) (L' := [some (.ref a1), some (.ref a2), some (.int (0 : Int32))]) pX10_over__1 rfl rfl ?_
  exact gB_X10_over__2 a1 a2 hs1 hl1 hs2 hl2 hrf (0 : Int32) _ h
def L_X10_image (mem : MMt) (Q : Int32 → MMt → Prop) : Prop := L_X10_over_ 77 78 mem (fun m1 => (∀ m2 : MMt, m2 = up2 m1 76 2 (1 : Int32) → (∀ m3 : MMt, m3 = up2 m2 76 3 ((m2 76 3) + (1 : Int32)) → Q (m3 76 3) m3)))
set_option maxRecDepth 4000 in
theorem g_X10_image {sx : Nat × (Nat → Int32)} {rf : RFt} {Q : Int32 → MMt → Prop} (hrf : RFok rf) (mem : MMt) (h : L_X10_image mem Q) : Ct sx yX10_image cX10_image 1 (some .int) 2 [.ref 76] NX NX rf mem (QQi (RFok) Q) := by
  refine Ct_of [some (.ref 76)] (by decide +kernel) (by simp [Lof, Value.category]) rfl ?_
  unfold L_X10_image at h
  refine G_aload_n (i := 0) pX10_image_0 rfl rfl ?_
  refine G_getR (ci := 10) (j := 0) (N := 29) pX10_image_1 fl_RX10_9 rfl ltk_76 shk_76 (by decide) rfl (hrf.lit 76 0 rfl) ?_
  refine G_aload_n (i := 0) pX10_image_4 rfl rfl ?_
  refine G_getR (ci := 10) (j := 1) (N := 29) pX10_image_5 fl_RX10_13 rfl ltk_76 shk_76 (by decide) rfl (hrf.lit 76 1 rfl) ?_
  refine G_callS2v pX10_image_8 (g_X10_over_ 77 78 shk_77 ltk_77 shk_78 ltk_78 hrf _ h) mS_X10_over_ ml_RX10_310 (by decide) ⟨Nat.le_refl _, Nat.le_refl _, Nat.le_refl _⟩ (Nat.le_of_ble_eq_true rfl) ?_
  intro rf m1 hrf h
  refine G_aload_n (i := 0) pX10_image_11 rfl rfl ?_
  refine G_iconst pX10_image_12 ic_1 ?_
  obtain ⟨m2, em2⟩ : ∃ z : MMt, z = up2 m1 76 2 (1 : Int32) := ⟨_, rfl⟩
  have h := h m2 em2
  refine G_putIW (ci := 10) (j := 2) (N := 29) pX10_image_13 fw_RX10_314 rfl ltk_76 shk_76 (by decide) rfl (fun _ => ⟨rfl, rfl⟩) em2.symm ?_
  refine G_aload_n (i := 0) pX10_image_16 rfl rfl ?_
  refine G_dup pX10_image_17 rfl ?_
  refine G_getI (ci := 10) (j := 3) (N := 29) pX10_image_18 fl_RX10_318 rfl ltk_76 shk_76 (by decide) rfl ?_
  refine G_iconst pX10_image_21 ic_1 ?_
  refine G_iadd pX10_image_22 ?_
  obtain ⟨m3, em3⟩ : ∃ z : MMt, z = up2 m2 76 3 ((m2 76 3) + (1 : Int32)) := ⟨_, rfl⟩
  have h := h m3 em3
  refine G_putIW (ci := 10) (j := 3) (N := 29) pX10_image_23 fw_RX10_318 rfl ltk_76 shk_76 (by decide) rfl (fun _ => ⟨rfl, rfl⟩) em3.symm ?_
  refine G_aload_n (i := 0) pX10_image_26 rfl rfl ?_
  refine G_getI (ci := 10) (j := 3) (N := 29) pX10_image_27 fl_RX10_318 rfl ltk_76 shk_76 (by decide) rfl ?_
  exact G_ireturn (len := 1) pX10_image_30 ⟨hrf, _, rfl, h⟩ ⟨_, rfl, rfl⟩
def L_X10_restore (mem : MMt) (Q : Int32 → MMt → Prop) : Prop := ((¬ (mem 76 2) = 0 → L_X10_over_ 78 77 mem (fun m2 => Q (m2 77 0) m2)) ∧ ((mem 76 2) = 0 → L_X10_error (2 : Int32) mem (fun r4 m3 => Q r4 m3)))
set_option maxRecDepth 4000 in
theorem g_X10_restore {sx : Nat × (Nat → Int32)} {rf : RFt} {Q : Int32 → MMt → Prop} (hrf : RFok rf) (mem : MMt) (h : L_X10_restore mem Q) : Ct sx yX10_restore cX10_restore 1 (some .int) 2 [.ref 76] NX NX rf mem (QQi (RFok) Q) := by
  refine Ct_of [some (.ref 76)] (by decide +kernel) (by simp [Lof, Value.category]) rfl ?_
  unfold L_X10_restore at h
  refine G_aload_n (i := 0) pX10_restore_0 rfl rfl ?_
  refine G_getI (ci := 10) (j := 2) (N := 29) pX10_restore_1 fl_RX10_314 rfl ltk_76 shk_76 (by decide) rfl ?_
  refine G_if_ne pX10_restore_4 (fun c1 => ?_) (fun c1 => ?_)
  · have h := h.1 c1
    refine G_aload_n (i := 0) pX10_restore_13 rfl rfl ?_
    refine G_getR (ci := 10) (j := 1) (N := 29) pX10_restore_14 fl_RX10_13 rfl ltk_76 shk_76 (by decide) rfl (hrf.lit 76 1 rfl) ?_
    refine G_aload_n (i := 0) pX10_restore_17 rfl rfl ?_
    refine G_getR (ci := 10) (j := 0) (N := 29) pX10_restore_18 fl_RX10_9 rfl ltk_76 shk_76 (by decide) rfl (hrf.lit 76 0 rfl) ?_
    refine G_callS2v pX10_restore_21 (g_X10_over_ 78 77 shk_78 ltk_78 shk_77 ltk_77 hrf _ h) mS_X10_over_ ml_RX10_310 (by decide) ⟨Nat.le_refl _, Nat.le_refl _, Nat.le_refl _⟩ (Nat.le_of_ble_eq_true rfl) ?_
    intro rf m2 hrf h
    refine G_aload_n (i := 0) pX10_restore_24 rfl rfl ?_
    refine G_getR (ci := 10) (j := 0) (N := 29) pX10_restore_25 fl_RX10_9 rfl ltk_76 shk_76 (by decide) rfl (hrf.lit 76 0 rfl) ?_
    refine G_iconst pX10_restore_28 ic_0 ?_
    refine G_ialdL (j := 0) pX10_restore_29 ltk_77 shk_77 (vpl (by decide)) (by decide) ?_
    exact G_ireturn (len := 1) pX10_restore_30 ⟨hrf, _, rfl, h⟩ ⟨_, rfl, rfl⟩
  · have h := h.2 c1
    refine G_aload_n (i := 0) pX10_restore_7 rfl rfl ?_
    refine G_iconst pX10_restore_8 ic_2 ?_
    refine G_callV1i (b := 76) (ci := 10) (N := 29) pX10_restore_9 (g_X10_error (2 : Int32) hrf _ h) mV_X10_error ml_RX10_79 (by decide) ⟨Nat.le_refl _, Nat.le_refl _, Nat.le_refl _⟩ (Nat.le_of_ble_eq_true rfl) ltk_76 shk_76 rfl ?_
    intro r4 rf m3 hrf h hr4
    exact G_ireturn (len := 1) pX10_restore_12 ⟨hrf, _, rfl, h⟩ ⟨_, rfl, rfl⟩
def L_X10_tell (a1 : Int32) (mem : MMt) (Q : Int32 → MMt → Prop) : Prop := ((¬ (mem 77 8) = (20 : Int32) → (vp_in ((100 : Int32) + (mem 77 8)) 322 ∧ ∀ m2 : MMt, m2 = up2 mem 77 ((100 : Int32) + (mem 77 8)).toNatClampNeg a1 → (∀ m4 : MMt, m4 = up2 m2 77 8 ((m2 77 8) + (1 : Int32)) → Q (m4 77 8) m4))) ∧ ((mem 77 8) = (20 : Int32) → L_X10_error (4 : Int32) mem (fun r6 m5 => Q r6 m5)))
set_option maxRecDepth 4000 in
theorem g_X10_tell {sx : Nat × (Nat → Int32)} {rf : RFt} {Q : Int32 → MMt → Prop} (a1 : Int32) (hrf : RFok rf) (mem : MMt) (h : L_X10_tell a1 mem Q) : Ct sx yX10_tell cX10_tell 2 (some .int) 2 [.ref 76, .int a1] NX NX rf mem (QQi (RFok) Q) := by
  refine Ct_of [some (.ref 76), some (.int a1)] (by decide +kernel) (by simp [Lof, Value.category]) rfl ?_
  unfold L_X10_tell at h
  refine G_aload_n (i := 0) pX10_tell_0 rfl rfl ?_
  refine G_getR (ci := 10) (j := 0) (N := 29) pX10_tell_1 fl_RX10_9 rfl ltk_76 shk_76 (by decide) rfl (hrf.lit 76 0 rfl) ?_
  refine G_bipush pX10_tell_4 bi_8 ?_
  refine G_ialdL (j := 8) pX10_tell_6 ltk_77 shk_77 (vpl (by decide)) (by decide) ?_
  refine G_bipush pX10_tell_7 bi_20 ?_
  refine G_icmp_ne pX10_tell_9 (fun c1 => ?_) (fun c1 => ?_)
  · have h := h.1 c1
    refine G_aload_n (i := 0) pX10_tell_18 rfl rfl ?_
    refine G_getR (ci := 10) (j := 0) (N := 29) pX10_tell_19 fl_RX10_9 rfl ltk_76 shk_76 (by decide) rfl (hrf.lit 76 0 rfl) ?_
    refine G_bipush pX10_tell_22 bi_100 ?_
    refine G_aload_n (i := 0) pX10_tell_24 rfl rfl ?_
    refine G_getR (ci := 10) (j := 0) (N := 29) pX10_tell_25 fl_RX10_9 rfl ltk_76 shk_76 (by decide) rfl (hrf.lit 76 0 rfl) ?_
    refine G_bipush pX10_tell_28 bi_8 ?_
    refine G_ialdL (j := 8) pX10_tell_30 ltk_77 shk_77 (vpl (by decide)) (by decide) ?_
    refine G_iadd pX10_tell_31 ?_
    refine G_iload_n (i := 1) pX10_tell_32 rfl rfl ?_
    obtain ⟨hi3, h⟩ := h
    obtain ⟨m2, em2⟩ : ∃ z : MMt, z = up2 mem 77 ((100 : Int32) + (mem 77 8)).toNatClampNeg a1 := ⟨_, rfl⟩
    have h := h m2 em2
    refine G_iastW pX10_tell_33 ltk_77 shk_77 hi3 em2.symm ?_
    refine G_aload_n (i := 0) pX10_tell_34 rfl rfl ?_
    refine G_getR (ci := 10) (j := 0) (N := 29) pX10_tell_35 fl_RX10_9 rfl ltk_76 shk_76 (by decide) rfl (hrf.lit 76 0 rfl) ?_
    refine G_bipush pX10_tell_38 bi_8 ?_
    refine G_dup2 pX10_tell_40 rfl rfl ?_
    refine G_ialdL (j := 8) pX10_tell_41 ltk_77 shk_77 (vpl (by decide)) (by decide) ?_
    refine G_iconst pX10_tell_42 ic_1 ?_
    refine G_iadd pX10_tell_43 ?_
    obtain ⟨m4, em4⟩ : ∃ z : MMt, z = up2 m2 77 8 ((m2 77 8) + (1 : Int32)) := ⟨_, rfl⟩
    have h := h m4 em4
    refine G_iastL (j := 8) pX10_tell_44 ltk_77 shk_77 (vpl (by decide)) (by decide) em4.symm ?_
    refine G_aload_n (i := 0) pX10_tell_45 rfl rfl ?_
    refine G_getR (ci := 10) (j := 0) (N := 29) pX10_tell_46 fl_RX10_9 rfl ltk_76 shk_76 (by decide) rfl (hrf.lit 76 0 rfl) ?_
    refine G_bipush pX10_tell_49 bi_8 ?_
    refine G_ialdL (j := 8) pX10_tell_51 ltk_77 shk_77 (vpl (by decide)) (by decide) ?_
    exact G_ireturn (len := 1) pX10_tell_52 ⟨hrf, _, rfl, h⟩ ⟨_, rfl, rfl⟩
  · have h := h.2 c1
    refine G_aload_n (i := 0) pX10_tell_12 rfl rfl ?_
    refine G_iconst pX10_tell_13 ic_4 ?_
    refine G_callV1i (b := 76) (ci := 10) (N := 29) pX10_tell_14 (g_X10_error (4 : Int32) hrf _ h) mV_X10_error ml_RX10_79 (by decide) ⟨Nat.le_refl _, Nat.le_refl _, Nat.le_refl _⟩ (Nat.le_of_ble_eq_true rfl) ltk_76 shk_76 rfl ?_
    intro r6 rf m5 hrf h hr6
    exact G_ireturn (len := 1) pX10_tell_17 ⟨hrf, _, rfl, h⟩ ⟨_, rfl, rfl⟩
def B_X10_floors_4 (x1 : Int32) (x2 : Int32) (mem : MMt) (Q : Int32 → MMt → Prop) : Prop := LOOP (σ := Int32 × Int32 × MMt) (fun X4 z => (fun (x1 : Int32) (x2 : Int32) (mem : MMt) => (((mem 77 6) ≤ x2 → Q x1 mem) ∧ (¬ (mem 77 6) ≤ x2 → L_X10_of x2 (2 : Int32) mem (fun r3 m2 => (∀ v4 : Int32, v4 = x1 + r3 → (∀ v5 : Int32, v5 = x2 + (1 : Int32) → X4 (v4, v5, m2))))))) z.1 z.2.1 z.2.2) (x1, x2, mem)
set_option maxRecDepth 4000 in
theorem gB_X10_floors_4 {sx : Nat × (Nat → Int32)} {rf : RFt} {Q : Int32 → MMt → Prop} (hrf : RFok rf) (x1 : Int32) (x2 : Int32) (mem : MMt) (h : B_X10_floors_4 x1 x2 mem Q) : G sx yX10_floors cX10_floors 3 (some .int) 2 NX NX (QQi (RFok) Q) NX rf mem 4 [some (.ref 76), some (.int x1), some (.int x2)] [] := by
  obtain ⟨I, ⟨n, h0⟩, hI⟩ := h
  have key : ∀ (n : Nat) (rf : RFt) (x1 : Int32) (x2 : Int32) (mem : MMt), RFok rf → I n (x1, x2, mem) → G sx yX10_floors cX10_floors 3 (some .int) 2 NX NX (QQi (RFok) Q) NX rf mem 4 [some (.ref 76), some (.int x1), some (.int x2)] [] := by
    intro n
    induction n using Nat.strongRecOn with
    | _ n ih =>
    intro rf x1 x2 mem hrf h0
    have hX4 : ∀ (rf : RFt) (x1 : Int32) (x2 : Int32) (mem : MMt), RFok rf → (fun s' => ∃ m, m < n ∧ I m s') (x1, x2, mem) → G sx yX10_floors cX10_floors 3 (some .int) 2 NX NX (QQi (RFok) Q) NX rf mem 4 [some (.ref 76), some (.int x1), some (.int x2)] [] := fun rf x1 x2 mem hrf ⟨m, hm, hi⟩ => ih m hm rf x1 x2 mem hrf hi
    have h := hI n _ h0
    clear ih h0
    try dsimp only at h
    refine G_iload_n (i := 2) pX10_floors_4 rfl rfl ?_
    refine G_aload_n (i := 0) pX10_floors_5 rfl rfl ?_
    refine G_getR (ci := 10) (j := 0) (N := 29) pX10_floors_6 fl_RX10_9 rfl ltk_76 shk_76 (by decide) rfl (hrf.lit 76 0 rfl) ?_
    refine G_bipush pX10_floors_9 bi_6 ?_
    refine G_ialdL (j := 6) pX10_floors_11 ltk_77 shk_77 (vpl (by decide)) (by decide) ?_
    refine G_icmp_ge pX10_floors_12 (fun c1 => ?_) (fun c1 => ?_)
    · have h := h.1 c1
      refine G_iload_n (i := 1) pX10_floors_30 rfl rfl ?_
      exact G_ireturn (len := 1) pX10_floors_31 ⟨hrf, _, rfl, h⟩ ⟨_, rfl, rfl⟩
    · have h := h.2 c1
      refine G_iload_n (i := 1) pX10_floors_15 rfl rfl ?_
      refine G_aload_n (i := 0) pX10_floors_16 rfl rfl ?_
      refine G_iload_n (i := 2) pX10_floors_17 rfl rfl ?_
      refine G_iconst pX10_floors_18 ic_2 ?_
      refine G_callV2i (b := 76) (ci := 10) (N := 29) pX10_floors_19 (g_X10_of x2 (2 : Int32) hrf _ h) mV_X10_of ml_RX10_61 (by decide) ⟨Nat.le_refl _, Nat.le_refl _, Nat.le_refl _⟩ (Nat.le_of_ble_eq_true rfl) ltk_76 shk_76 rfl ?_
      intro r3 rf m2 hrf h hr3
      refine G_iadd pX10_floors_22 ?_
      obtain ⟨v4, e4⟩ : ∃ z : Int32, z = x1 + r3 := ⟨_, rfl⟩
      have h := h v4 e4
      refine G_istore_nW (L' := [some (.ref 76), some (.int v4), some (.int x2)]) pX10_floors_23 rfl e4.symm rfl ?_
      obtain ⟨v5, e5⟩ : ∃ z : Int32, z = x2 + (1 : Int32) := ⟨_, rfl⟩
      have h := h v5 e5
      refine G_iincW (L' := [some (.ref 76), some (.int v4), some (.int v5)]) pX10_floors_24 rfl ic_1 e5.symm rfl ?_
      refine G_goto pX10_floors_27 ?_
      exact hX4 _ _ _ _ hrf h
  exact key n rf _ _ _ hrf h0
def L_X10_floors (mem : MMt) (Q : Int32 → MMt → Prop) : Prop := B_X10_floors_4 (0 : Int32) (0 : Int32) mem Q
set_option maxRecDepth 4000 in
theorem g_X10_floors {sx : Nat × (Nat → Int32)} {rf : RFt} {Q : Int32 → MMt → Prop} (hrf : RFok rf) (mem : MMt) (h : L_X10_floors mem Q) : Ct sx yX10_floors cX10_floors 3 (some .int) 2 [.ref 76] NX NX rf mem (QQi (RFok) Q) := by
  refine Ct_of [some (.ref 76), none, none] (by decide +kernel) (by simp [Lof, Value.category]) rfl ?_
  unfold L_X10_floors at h
  refine G_iconst pX10_floors_0 ic_0 ?_
  refine G_istore_n (i := 1) (L' := [some (.ref 76), some (.int (0 : Int32)), none]) pX10_floors_1 rfl rfl ?_
  refine G_iconst pX10_floors_2 ic_0 ?_
  refine G_istore_n (i := 2) (L' := [some (.ref 76), some (.int (0 : Int32)), some (.int (0 : Int32))]) pX10_floors_3 rfl rfl ?_
  exact gB_X10_floors_4 hrf (0 : Int32) (0 : Int32) _ h
def B_X10_check_57 (x1 : Int32) (mem : MMt) (Q : Int32 → MMt → Prop) : Prop := L_X10_putsBack mem (fun m1 => (∀ m2 : MMt, m2 = up2 m1 77 8 (0 : Int32) → Q x1 m2))
set_option maxRecDepth 4000 in
theorem gB_X10_check_57 {sx : Nat × (Nat → Int32)} {rf : RFt} {Q : Int32 → MMt → Prop} (hrf : RFok rf) (x1 : Int32) (mem : MMt) (h : B_X10_check_57 x1 mem Q) : G sx yX10_check cX10_check 3 (some .int) 8 NX NX (QQi (RFok) Q) NX rf mem 57 [some (.ref 76), some (.int x1), none] [] := by
  unfold B_X10_check_57 at h
  refine G_aload_n (i := 0) pX10_check_57 rfl rfl ?_
  refine G_callV0v (b := 76) (ci := 10) (N := 29) pX10_check_58 (g_X10_putsBack hrf _ h) mV_X10_putsBack ml_RX10_229 (by decide) ⟨Nat.le_refl _, Nat.le_refl _, Nat.le_refl _⟩ (Nat.le_of_ble_eq_true rfl) ltk_76 shk_76 rfl ?_
  intro rf m1 hrf h
  refine G_aload_n (i := 0) pX10_check_61 rfl rfl ?_
  refine G_getR (ci := 10) (j := 0) (N := 29) pX10_check_62 fl_RX10_9 rfl ltk_76 shk_76 (by decide) rfl (hrf.lit 76 0 rfl) ?_
  refine G_bipush pX10_check_65 bi_8 ?_
  refine G_iconst pX10_check_67 ic_0 ?_
  obtain ⟨m2, em2⟩ : ∃ z : MMt, z = up2 m1 77 8 (0 : Int32) := ⟨_, rfl⟩
  have h := h m2 em2
  refine G_iastL (j := 8) pX10_check_68 ltk_77 shk_77 (vpl (by decide)) (by decide) em2.symm ?_
  refine G_iload_n (i := 1) pX10_check_69 rfl rfl ?_
  exact G_ireturn (len := 1) pX10_check_70 ⟨hrf, _, rfl, h⟩ ⟨_, rfl, rfl⟩
def B_X10_check_50 (X8 : Int32 × Int32 × MMt → Prop) (x2 : Int32) (s0 : Int32) (mem : MMt) (Q : Int32 → MMt → Prop) : Prop := (∀ v1 : Int32, v1 = x2 + (1 : Int32) → X8 (s0, v1, mem))
set_option maxRecDepth 4000 in
theorem gB_X10_check_50 {sx : Nat × (Nat → Int32)} {X8 : Int32 × Int32 × MMt → Prop} {rf : RFt} {Q : Int32 → MMt → Prop} (hrf : RFok rf) (x2 : Int32) (s0 : Int32) (hX8 : ∀ (rf : RFt) (x1 : Int32) (x2 : Int32) (mem : MMt), RFok rf → X8 (x1, x2, mem) → G sx yX10_check cX10_check 3 (some .int) 8 NX NX (QQi (RFok) Q) NX rf mem 8 [some (.ref 76), some (.int x1), some (.int x2)] []) (mem : MMt) (h : B_X10_check_50 X8 x2 s0 mem Q) : G sx yX10_check cX10_check 3 (some .int) 8 NX NX (QQi (RFok) Q) NX rf mem 50 [some (.ref 76), none, some (.int x2)] [.int s0] := by
  unfold B_X10_check_50 at h
  refine G_istore_n (i := 1) (L' := [some (.ref 76), some (.int s0), some (.int x2)]) pX10_check_50 rfl rfl ?_
  obtain ⟨v1, e1⟩ : ∃ z : Int32, z = x2 + (1 : Int32) := ⟨_, rfl⟩
  have h := h v1 e1
  refine G_iincW (L' := [some (.ref 76), some (.int s0), some (.int v1)]) pX10_check_51 rfl ic_1 e1.symm rfl ?_
  refine G_goto pX10_check_54 ?_
  exact hX8 _ _ _ _ hrf h
def B_X10_check_8 (x1 : Int32) (x2 : Int32) (mem : MMt) (Q : Int32 → MMt → Prop) : Prop := LOOP (σ := Int32 × Int32 × MMt) (fun X8 z => (fun (x1 : Int32) (x2 : Int32) (mem : MMt) => (((mem 77 8) ≤ x2 → B_X10_check_57 x1 mem Q) ∧ (¬ (mem 77 8) ≤ x2 → ((¬ x1 = 0 → B_X10_check_57 x1 mem Q) ∧ (x1 = 0 → L_X10_step mem (fun m3 => L_X10_floors m3 (fun r5 m4 => (vp_in ((100 : Int32) + x2) 322 ∧ ((¬ r5 = (m4 77 ((100 : Int32) + x2).toNatClampNeg) → B_X10_check_50 X8 x2 (x2 + (1 : Int32)) m4 Q) ∧ (r5 = (m4 77 ((100 : Int32) + x2).toNatClampNeg) → B_X10_check_50 X8 x2 (0 : Int32) m4 Q)))))))))) z.1 z.2.1 z.2.2) (x1, x2, mem)
set_option maxRecDepth 4000 in
theorem gB_X10_check_8 {sx : Nat × (Nat → Int32)} {rf : RFt} {Q : Int32 → MMt → Prop} (hrf : RFok rf) (x1 : Int32) (x2 : Int32) (mem : MMt) (h : B_X10_check_8 x1 x2 mem Q) : G sx yX10_check cX10_check 3 (some .int) 8 NX NX (QQi (RFok) Q) NX rf mem 8 [some (.ref 76), some (.int x1), some (.int x2)] [] := by
  obtain ⟨I, ⟨n, h0⟩, hI⟩ := h
  have key : ∀ (n : Nat) (rf : RFt) (x1 : Int32) (x2 : Int32) (mem : MMt), RFok rf → I n (x1, x2, mem) → G sx yX10_check cX10_check 3 (some .int) 8 NX NX (QQi (RFok) Q) NX rf mem 8 [some (.ref 76), some (.int x1), some (.int x2)] [] := by
    intro n
    induction n using Nat.strongRecOn with
    | _ n ih =>
    intro rf x1 x2 mem hrf h0
    have hX8 : ∀ (rf : RFt) (x1 : Int32) (x2 : Int32) (mem : MMt), RFok rf → (fun s' => ∃ m, m < n ∧ I m s') (x1, x2, mem) → G sx yX10_check cX10_check 3 (some .int) 8 NX NX (QQi (RFok) Q) NX rf mem 8 [some (.ref 76), some (.int x1), some (.int x2)] [] := fun rf x1 x2 mem hrf ⟨m, hm, hi⟩ => ih m hm rf x1 x2 mem hrf hi
    have h := hI n _ h0
    clear ih h0
    try dsimp only at h
    refine G_iload_n (i := 2) pX10_check_8 rfl rfl ?_
    refine G_aload_n (i := 0) pX10_check_9 rfl rfl ?_
    refine G_getR (ci := 10) (j := 0) (N := 29) pX10_check_10 fl_RX10_9 rfl ltk_76 shk_76 (by decide) rfl (hrf.lit 76 0 rfl) ?_
    refine G_bipush pX10_check_13 bi_8 ?_
    refine G_ialdL (j := 8) pX10_check_15 ltk_77 shk_77 (vpl (by decide)) (by decide) ?_
    refine G_icmp_ge pX10_check_16 (fun c1 => ?_) (fun c1 => ?_)
    · have h := h.1 c1
      refine G_wk (L2 := [some (.ref 76), some (.int x1), none]) ⟨Or.inr rfl, Or.inr rfl, Or.inl rfl, trivial⟩ ?_
      exact gB_X10_check_57 hrf x1 _ h
    · have h := h.2 c1
      refine G_iload_n (i := 1) pX10_check_19 rfl rfl ?_
      refine G_if_ne pX10_check_20 (fun c2 => ?_) (fun c2 => ?_)
      · have h := h.1 c2
        refine G_wk (L2 := [some (.ref 76), some (.int x1), none]) ⟨Or.inr rfl, Or.inr rfl, Or.inl rfl, trivial⟩ ?_
        exact gB_X10_check_57 hrf x1 _ h
      · have h := h.2 c2
        refine G_aload_n (i := 0) pX10_check_23 rfl rfl ?_
        refine G_callV0v (b := 76) (ci := 10) (N := 29) pX10_check_24 (g_X10_step hrf _ h) mV_X10_step ml_RX10_216 (by decide) ⟨Nat.le_refl _, Nat.le_refl _, Nat.le_refl _⟩ (Nat.le_of_ble_eq_true rfl) ltk_76 shk_76 rfl ?_
        intro rf m3 hrf h
        refine G_aload_n (i := 0) pX10_check_27 rfl rfl ?_
        refine G_callV0i (b := 76) (ci := 10) (N := 29) pX10_check_28 (g_X10_floors hrf _ h) mV_X10_floors ml_RX10_321 (by decide) ⟨Nat.le_refl _, Nat.le_refl _, Nat.le_refl _⟩ (Nat.le_of_ble_eq_true rfl) ltk_76 shk_76 rfl ?_
        intro r5 rf m4 hrf h hr5
        refine G_aload_n (i := 0) pX10_check_31 rfl rfl ?_
        refine G_getR (ci := 10) (j := 0) (N := 29) pX10_check_32 fl_RX10_9 rfl ltk_76 shk_76 (by decide) rfl (hrf.lit 76 0 rfl) ?_
        refine G_bipush pX10_check_35 bi_100 ?_
        refine G_iload_n (i := 2) pX10_check_37 rfl rfl ?_
        refine G_iadd pX10_check_38 ?_
        obtain ⟨hi6, h⟩ := h
        refine G_iald pX10_check_39 ltk_77 shk_77 hi6 ?_
        refine G_icmp_ne pX10_check_40 (fun c7 => ?_) (fun c7 => ?_)
        · have h := h.1 c7
          refine G_iload_n (i := 2) pX10_check_47 rfl rfl ?_
          refine G_iconst pX10_check_48 ic_1 ?_
          refine G_iadd pX10_check_49 ?_
          refine G_wk (L2 := [some (.ref 76), none, some (.int x2)]) ⟨Or.inr rfl, Or.inl rfl, Or.inr rfl, trivial⟩ ?_
          exact gB_X10_check_50 hrf x2 (x2 + (1 : Int32)) hX8 _ h
        · have h := h.2 c7
          refine G_iconst pX10_check_43 ic_0 ?_
          refine G_goto pX10_check_44 ?_
          refine G_wk (L2 := [some (.ref 76), none, some (.int x2)]) ⟨Or.inr rfl, Or.inl rfl, Or.inr rfl, trivial⟩ ?_
          exact gB_X10_check_50 hrf x2 (0 : Int32) hX8 _ h
  exact key n rf _ _ _ hrf h0
def L_X10_check (mem : MMt) (Q : Int32 → MMt → Prop) : Prop := L_X10_saves mem (fun m1 => B_X10_check_8 (0 : Int32) (0 : Int32) m1 Q)
set_option maxRecDepth 4000 in
theorem g_X10_check {sx : Nat × (Nat → Int32)} {rf : RFt} {Q : Int32 → MMt → Prop} (hrf : RFok rf) (mem : MMt) (h : L_X10_check mem Q) : Ct sx yX10_check cX10_check 3 (some .int) 8 [.ref 76] NX NX rf mem (QQi (RFok) Q) := by
  refine Ct_of [some (.ref 76), none, none] (by decide +kernel) (by simp [Lof, Value.category]) rfl ?_
  unfold L_X10_check at h
  refine G_aload_n (i := 0) pX10_check_0 rfl rfl ?_
  refine G_callV0v (b := 76) (ci := 10) (N := 29) pX10_check_1 (g_X10_saves hrf _ h) mV_X10_saves ml_RX10_226 (by decide) ⟨Nat.le_refl _, Nat.le_refl _, Nat.le_refl _⟩ (Nat.le_of_ble_eq_true rfl) ltk_76 shk_76 rfl ?_
  intro rf m1 hrf h
  refine G_iconst pX10_check_4 ic_0 ?_
  refine G_istore_n (i := 1) (L' := [some (.ref 76), some (.int (0 : Int32)), none]) pX10_check_5 rfl rfl ?_
  refine G_iconst pX10_check_6 ic_0 ?_
  refine G_istore_n (i := 2) (L' := [some (.ref 76), some (.int (0 : Int32)), some (.int (0 : Int32))]) pX10_check_7 rfl rfl ?_
  exact gB_X10_check_8 hrf (0 : Int32) (0 : Int32) _ h
def B_X10_between_41 (X5 : Int32 × Int32 × MMt → Prop) (x1 : Int32) (x2 : Int32) (x4 : Int32) (s0 : Int32) (s1 : Int32) (mem : MMt) (Q : Int32 → MMt → Prop) : Prop := (∀ v1 : Int32, v1 = s1 + s0 → (∀ v2 : Int32, v2 = x4 + (1 : Int32) → X5 (v1, v2, mem)))
set_option maxRecDepth 4000 in
theorem gB_X10_between_41 {sx : Nat × (Nat → Int32)} {X5 : Int32 × Int32 × MMt → Prop} {rf : RFt} {Q : Int32 → MMt → Prop} (hrf : RFok rf) (x1 : Int32) (x2 : Int32) (x4 : Int32) (s0 : Int32) (s1 : Int32) (hX5 : ∀ (rf : RFt) (x3 : Int32) (x4 : Int32) (mem : MMt), RFok rf → X5 (x3, x4, mem) → G sx yX10_between cX10_between 5 (some .int) 2 NX NX (QQi (RFok) Q) NX rf mem 5 [some (.ref 76), some (.int x1), some (.int x2), some (.int x3), some (.int x4)] []) (mem : MMt) (h : B_X10_between_41 X5 x1 x2 x4 s0 s1 mem Q) : G sx yX10_between cX10_between 5 (some .int) 2 NX NX (QQi (RFok) Q) NX rf mem 41 [some (.ref 76), some (.int x1), some (.int x2), none, some (.int x4)] [.int s0, .int s1] := by
  unfold B_X10_between_41 at h
  refine G_iadd pX10_between_41 ?_
  obtain ⟨v1, e1⟩ : ∃ z : Int32, z = s1 + s0 := ⟨_, rfl⟩
  have h := h v1 e1
  refine G_istore_nW (L' := [some (.ref 76), some (.int x1), some (.int x2), some (.int v1), some (.int x4)]) pX10_between_42 rfl e1.symm rfl ?_
  obtain ⟨v2, e2⟩ : ∃ z : Int32, z = x4 + (1 : Int32) := ⟨_, rfl⟩
  have h := h v2 e2
  refine G_iincW (L' := [some (.ref 76), some (.int x1), some (.int x2), some (.int v1), some (.int v2)]) pX10_between_43 rfl ic_1 e2.symm rfl ?_
  refine G_goto pX10_between_46 ?_
  exact hX5 _ _ _ _ hrf h
def B_X10_between_5 (x1 : Int32) (x2 : Int32) (x3 : Int32) (x4 : Int32) (mem : MMt) (Q : Int32 → MMt → Prop) : Prop := LOOP (σ := Int32 × Int32 × MMt) (fun X5 z => (fun (x3 : Int32) (x4 : Int32) (mem : MMt) => (((mem 77 6) ≤ x4 → Q x3 mem) ∧ (¬ (mem 77 6) ≤ x4 → L_X10_of x4 (2 : Int32) mem (fun r3 m2 => L_X10_isIn r3.toInt64 x1.toInt64 x2.toInt64 m2 (fun r5 m4 => ((r5 = 0 → B_X10_between_41 X5 x1 x2 x4 (0 : Int32) x3 m4 Q) ∧ (¬ r5 = 0 → B_X10_between_41 X5 x1 x2 x4 (1 : Int32) x3 m4 Q))))))) z.1 z.2.1 z.2.2) (x3, x4, mem)
set_option maxRecDepth 4000 in
theorem gB_X10_between_5 {sx : Nat × (Nat → Int32)} {rf : RFt} {Q : Int32 → MMt → Prop} (hrf : RFok rf) (x1 : Int32) (x2 : Int32) (x3 : Int32) (x4 : Int32) (mem : MMt) (h : B_X10_between_5 x1 x2 x3 x4 mem Q) : G sx yX10_between cX10_between 5 (some .int) 2 NX NX (QQi (RFok) Q) NX rf mem 5 [some (.ref 76), some (.int x1), some (.int x2), some (.int x3), some (.int x4)] [] := by
  obtain ⟨I, ⟨n, h0⟩, hI⟩ := h
  have key : ∀ (n : Nat) (rf : RFt) (x3 : Int32) (x4 : Int32) (mem : MMt), RFok rf → I n (x3, x4, mem) → G sx yX10_between cX10_between 5 (some .int) 2 NX NX (QQi (RFok) Q) NX rf mem 5 [some (.ref 76), some (.int x1), some (.int x2), some (.int x3), some (.int x4)] [] := by
    intro n
    induction n using Nat.strongRecOn with
    | _ n ih =>
    intro rf x3 x4 mem hrf h0
    have hX5 : ∀ (rf : RFt) (x3 : Int32) (x4 : Int32) (mem : MMt), RFok rf → (fun s' => ∃ m, m < n ∧ I m s') (x3, x4, mem) → G sx yX10_between cX10_between 5 (some .int) 2 NX NX (QQi (RFok) Q) NX rf mem 5 [some (.ref 76), some (.int x1), some (.int x2), some (.int x3), some (.int x4)] [] := fun rf x3 x4 mem hrf ⟨m, hm, hi⟩ => ih m hm rf x3 x4 mem hrf hi
    have h := hI n _ h0
    clear ih h0
    try dsimp only at h
    refine G_iload (i := 4) pX10_between_5 rfl ?_
    refine G_aload_n (i := 0) pX10_between_7 rfl rfl ?_
    refine G_getR (ci := 10) (j := 0) (N := 29) pX10_between_8 fl_RX10_9 rfl ltk_76 shk_76 (by decide) rfl (hrf.lit 76 0 rfl) ?_
    refine G_bipush pX10_between_11 bi_6 ?_
    refine G_ialdL (j := 6) pX10_between_13 ltk_77 shk_77 (vpl (by decide)) (by decide) ?_
    refine G_icmp_ge pX10_between_14 (fun c1 => ?_) (fun c1 => ?_)
    · have h := h.1 c1
      refine G_iload_n (i := 3) pX10_between_49 rfl rfl ?_
      exact G_ireturn (len := 1) pX10_between_50 ⟨hrf, _, rfl, h⟩ ⟨_, rfl, rfl⟩
    · have h := h.2 c1
      refine G_iload_n (i := 3) pX10_between_17 rfl rfl ?_
      refine G_aload_n (i := 0) pX10_between_18 rfl rfl ?_
      refine G_iload (i := 4) pX10_between_19 rfl ?_
      refine G_iconst pX10_between_21 ic_2 ?_
      refine G_callV2i (b := 76) (ci := 10) (N := 29) pX10_between_22 (g_X10_of x4 (2 : Int32) hrf _ h) mV_X10_of ml_RX10_61 (by decide) ⟨Nat.le_refl _, Nat.le_refl _, Nat.le_refl _⟩ (Nat.le_of_ble_eq_true rfl) ltk_76 shk_76 rfl ?_
      intro r3 rf m2 hrf h hr3
      refine G_i2l pX10_between_25 ?_
      refine G_iload_n (i := 1) pX10_between_26 rfl rfl ?_
      refine G_i2l pX10_between_27 ?_
      refine G_iload_n (i := 2) pX10_between_28 rfl rfl ?_
      refine G_i2l pX10_between_29 ?_
      refine G_callS3i pX10_between_30 (g_X10_isIn r3.toInt64 x1.toInt64 x2.toInt64 hrf _ h) mS_X10_isIn ml_RX10_53 (by decide) ⟨Nat.le_refl _, Nat.le_refl _, Nat.le_refl _⟩ (Nat.le_of_ble_eq_true rfl) ?_
      intro r5 rf m4 hrf h hr5
      refine G_if_eq pX10_between_33 (fun c6 => ?_) (fun c6 => ?_)
      · have h := h.1 c6
        refine G_iconst pX10_between_40 ic_0 ?_
        refine G_wk (L2 := [some (.ref 76), some (.int x1), some (.int x2), none, some (.int x4)]) ⟨Or.inr rfl, Or.inr rfl, Or.inr rfl, Or.inl rfl, Or.inr rfl, trivial⟩ ?_
        exact gB_X10_between_41 hrf x1 x2 x4 (0 : Int32) x3 hX5 _ h
      · have h := h.2 c6
        refine G_iconst pX10_between_36 ic_1 ?_
        refine G_goto pX10_between_37 ?_
        refine G_wk (L2 := [some (.ref 76), some (.int x1), some (.int x2), none, some (.int x4)]) ⟨Or.inr rfl, Or.inr rfl, Or.inr rfl, Or.inl rfl, Or.inr rfl, trivial⟩ ?_
        exact gB_X10_between_41 hrf x1 x2 x4 (1 : Int32) x3 hX5 _ h
  exact key n rf _ _ _ hrf h0
def L_X10_between (a1 : Int32) (a2 : Int32) (mem : MMt) (Q : Int32 → MMt → Prop) : Prop := B_X10_between_5 a1 a2 (0 : Int32) (0 : Int32) mem Q
set_option maxRecDepth 4000 in
theorem g_X10_between {sx : Nat × (Nat → Int32)} {rf : RFt} {Q : Int32 → MMt → Prop} (a1 : Int32) (a2 : Int32) (hrf : RFok rf) (mem : MMt) (h : L_X10_between a1 a2 mem Q) : Ct sx yX10_between cX10_between 5 (some .int) 2 [.ref 76, .int a1, .int a2] NX NX rf mem (QQi (RFok) Q) := by
  refine Ct_of [some (.ref 76), some (.int a1), some (.int a2), none, none] (by decide +kernel) (by simp [Lof, Value.category]) rfl ?_
  unfold L_X10_between at h
  refine G_iconst pX10_between_0 ic_0 ?_
  refine G_istore_n (i := 3) (L' := [some (.ref 76), some (.int a1), some (.int a2), some (.int (0 : Int32)), none]) pX10_between_1 rfl rfl ?_
  refine G_iconst pX10_between_2 ic_0 ?_
  refine G_istore (i := 4) (L' := [some (.ref 76), some (.int a1), some (.int a2), some (.int (0 : Int32)), some (.int (0 : Int32))]) pX10_between_3 rfl ?_
  exact gB_X10_between_5 hrf a1 a2 (0 : Int32) (0 : Int32) _ h
def L_X10_count (a1 : Int32) (mem : MMt) (Q : Int32 → MMt → Prop) : Prop := ((a1 < (0 : Int32) → L_X10_error (1 : Int32) mem (fun r2 m1 => Q r2 m1)) ∧ ((10 : Int32) < a1 → L_X10_error (1 : Int32) mem (fun r2 m1 => Q r2 m1)) ∧ (a1 = (0 : Int32) → Q (mem 77 6) mem) ∧ (a1 = (1 : Int32) → Q (mem 77 0) mem) ∧ (a1 = (2 : Int32) → Q (mem 77 1) mem) ∧ (a1 = (3 : Int32) → L_X10_between (0 : Int32) (0 : Int32) mem (fun r6 m5 => Q r6 m5)) ∧ (a1 = (4 : Int32) → L_X10_between (40 : Int32) (40 : Int32) mem (fun r8 m7 => Q r8 m7)) ∧ (a1 = (5 : Int32) → L_X10_between (16 : Int32) (24 : Int32) mem (fun r10 m9 => Q r10 m9)) ∧ (a1 = (6 : Int32) → L_X10_resting mem (fun r12 m11 => Q r12 m11)) ∧ (a1 = (7 : Int32) → Q (mem 77 7) mem) ∧ (a1 = (8 : Int32) → Q (mem 77 8) mem) ∧ (a1 = (9 : Int32) → Q (mem 76 24) mem) ∧ (a1 = (10 : Int32) → Q (mem 77 5) mem))
set_option maxRecDepth 4000 in
theorem g_X10_count {sx : Nat × (Nat → Int32)} {rf : RFt} {Q : Int32 → MMt → Prop} (a1 : Int32) (hrf : RFok rf) (mem : MMt) (h : L_X10_count a1 mem Q) : Ct sx yX10_count cX10_count 2 (some .int) 8 [.ref 76, .int a1] NX NX rf mem (QQi (RFok) Q) := by
  refine Ct_of [some (.ref 76), some (.int a1)] (by decide +kernel) (by simp [Lof, Value.category]) rfl ?_
  unfold L_X10_count at h
  refine G_iload_n (i := 1) pX10_count_0 rfl rfl ?_
  by_cases c3 : a1 < (0 : Int32)
  · have h := h.1 c3
    refine G_tsOut (tgt := 140) pX10_count_1 (Or.inl (ts_lt c3 (by decide))) (by decide) ?_
    refine G_aload_n (i := 0) pX10_count_140 rfl rfl ?_
    refine G_iconst pX10_count_141 ic_1 ?_
    refine G_callV1i (b := 76) (ci := 10) (N := 29) pX10_count_142 (g_X10_error (1 : Int32) hrf _ h) mV_X10_error ml_RX10_79 (by decide) ⟨Nat.le_refl _, Nat.le_refl _, Nat.le_refl _⟩ (Nat.le_of_ble_eq_true rfl) ltk_76 shk_76 rfl ?_
    intro r2 rf m1 hrf h hr2
    exact G_ireturn (len := 1) pX10_count_145 ⟨hrf, _, rfl, h⟩ ⟨_, rfl, rfl⟩
  by_cases c4 : (10 : Int32) < a1
  · have h := h.2.1 c4
    refine G_tsOut (tgt := 140) pX10_count_1 (Or.inr (ts_gt c4 (by decide))) (by decide) ?_
    refine G_aload_n (i := 0) pX10_count_140 rfl rfl ?_
    refine G_iconst pX10_count_141 ic_1 ?_
    refine G_callV1i (b := 76) (ci := 10) (N := 29) pX10_count_142 (g_X10_error (1 : Int32) hrf _ h) mV_X10_error ml_RX10_79 (by decide) ⟨Nat.le_refl _, Nat.le_refl _, Nat.le_refl _⟩ (Nat.le_of_ble_eq_true rfl) ltk_76 shk_76 rfl ?_
    intro r2 rf m1 hrf h hr2
    exact G_ireturn (len := 1) pX10_count_145 ⟨hrf, _, rfl, h⟩ ⟨_, rfl, rfl⟩
  rcases tsx_0_10 c3 c4 with hc | hc | hc | hc | hc | hc | hc | hc | hc | hc | hc
  · have h := h.2.2.1 hc
    refine G_tsInE (v := (0 : Int32)) (off := 59) (tgt := 60) pX10_count_1 hc (by decide) ?_
    refine G_aload_n (i := 0) pX10_count_60 rfl rfl ?_
    refine G_getR (ci := 10) (j := 0) (N := 29) pX10_count_61 fl_RX10_9 rfl ltk_76 shk_76 (by decide) rfl (hrf.lit 76 0 rfl) ?_
    refine G_bipush pX10_count_64 bi_6 ?_
    refine G_ialdL (j := 6) pX10_count_66 ltk_77 shk_77 (vpl (by decide)) (by decide) ?_
    exact G_ireturn (len := 1) pX10_count_67 ⟨hrf, _, rfl, h⟩ ⟨_, rfl, rfl⟩
  · have h := h.2.2.2.1 hc
    refine G_tsInE (v := (1 : Int32)) (off := 67) (tgt := 68) pX10_count_1 hc (by decide) ?_
    refine G_aload_n (i := 0) pX10_count_68 rfl rfl ?_
    refine G_getR (ci := 10) (j := 0) (N := 29) pX10_count_69 fl_RX10_9 rfl ltk_76 shk_76 (by decide) rfl (hrf.lit 76 0 rfl) ?_
    refine G_iconst pX10_count_72 ic_0 ?_
    refine G_ialdL (j := 0) pX10_count_73 ltk_77 shk_77 (vpl (by decide)) (by decide) ?_
    exact G_ireturn (len := 1) pX10_count_74 ⟨hrf, _, rfl, h⟩ ⟨_, rfl, rfl⟩
  · have h := h.2.2.2.2.1 hc
    refine G_tsInE (v := (2 : Int32)) (off := 74) (tgt := 75) pX10_count_1 hc (by decide) ?_
    refine G_aload_n (i := 0) pX10_count_75 rfl rfl ?_
    refine G_getR (ci := 10) (j := 0) (N := 29) pX10_count_76 fl_RX10_9 rfl ltk_76 shk_76 (by decide) rfl (hrf.lit 76 0 rfl) ?_
    refine G_iconst pX10_count_79 ic_1 ?_
    refine G_ialdL (j := 1) pX10_count_80 ltk_77 shk_77 (vpl (by decide)) (by decide) ?_
    exact G_ireturn (len := 1) pX10_count_81 ⟨hrf, _, rfl, h⟩ ⟨_, rfl, rfl⟩
  · have h := h.2.2.2.2.2.1 hc
    refine G_tsInE (v := (3 : Int32)) (off := 81) (tgt := 82) pX10_count_1 hc (by decide) ?_
    refine G_aload_n (i := 0) pX10_count_82 rfl rfl ?_
    refine G_iconst pX10_count_83 ic_0 ?_
    refine G_iconst pX10_count_84 ic_0 ?_
    refine G_callV2i (b := 76) (ci := 10) (N := 29) pX10_count_85 (g_X10_between (0 : Int32) (0 : Int32) hrf _ h) mV_X10_between ml_RX10_324 (by decide) ⟨Nat.le_refl _, Nat.le_refl _, Nat.le_refl _⟩ (Nat.le_of_ble_eq_true rfl) ltk_76 shk_76 rfl ?_
    intro r6 rf m5 hrf h hr6
    exact G_ireturn (len := 1) pX10_count_88 ⟨hrf, _, rfl, h⟩ ⟨_, rfl, rfl⟩
  · have h := h.2.2.2.2.2.2.1 hc
    refine G_tsInE (v := (4 : Int32)) (off := 88) (tgt := 89) pX10_count_1 hc (by decide) ?_
    refine G_aload_n (i := 0) pX10_count_89 rfl rfl ?_
    refine G_bipush pX10_count_90 bi_40 ?_
    refine G_bipush pX10_count_92 bi_40 ?_
    refine G_callV2i (b := 76) (ci := 10) (N := 29) pX10_count_94 (g_X10_between (40 : Int32) (40 : Int32) hrf _ h) mV_X10_between ml_RX10_324 (by decide) ⟨Nat.le_refl _, Nat.le_refl _, Nat.le_refl _⟩ (Nat.le_of_ble_eq_true rfl) ltk_76 shk_76 rfl ?_
    intro r8 rf m7 hrf h hr8
    exact G_ireturn (len := 1) pX10_count_97 ⟨hrf, _, rfl, h⟩ ⟨_, rfl, rfl⟩
  · have h := h.2.2.2.2.2.2.2.1 hc
    refine G_tsInE (v := (5 : Int32)) (off := 97) (tgt := 98) pX10_count_1 hc (by decide) ?_
    refine G_aload_n (i := 0) pX10_count_98 rfl rfl ?_
    refine G_bipush pX10_count_99 bi_16 ?_
    refine G_bipush pX10_count_101 bi_24 ?_
    refine G_callV2i (b := 76) (ci := 10) (N := 29) pX10_count_103 (g_X10_between (16 : Int32) (24 : Int32) hrf _ h) mV_X10_between ml_RX10_324 (by decide) ⟨Nat.le_refl _, Nat.le_refl _, Nat.le_refl _⟩ (Nat.le_of_ble_eq_true rfl) ltk_76 shk_76 rfl ?_
    intro r10 rf m9 hrf h hr10
    exact G_ireturn (len := 1) pX10_count_106 ⟨hrf, _, rfl, h⟩ ⟨_, rfl, rfl⟩
  · have h := h.2.2.2.2.2.2.2.2.1 hc
    refine G_tsInE (v := (6 : Int32)) (off := 106) (tgt := 107) pX10_count_1 hc (by decide) ?_
    refine G_aload_n (i := 0) pX10_count_107 rfl rfl ?_
    refine G_callV0i (b := 76) (ci := 10) (N := 29) pX10_count_108 (g_X10_resting hrf _ h) mV_X10_resting ml_RX10_219 (by decide) ⟨Nat.le_refl _, Nat.le_refl _, Nat.le_refl _⟩ (Nat.le_of_ble_eq_true rfl) ltk_76 shk_76 rfl ?_
    intro r12 rf m11 hrf h hr12
    exact G_ireturn (len := 1) pX10_count_111 ⟨hrf, _, rfl, h⟩ ⟨_, rfl, rfl⟩
  · have h := h.2.2.2.2.2.2.2.2.2.1 hc
    refine G_tsInE (v := (7 : Int32)) (off := 111) (tgt := 112) pX10_count_1 hc (by decide) ?_
    refine G_aload_n (i := 0) pX10_count_112 rfl rfl ?_
    refine G_getR (ci := 10) (j := 0) (N := 29) pX10_count_113 fl_RX10_9 rfl ltk_76 shk_76 (by decide) rfl (hrf.lit 76 0 rfl) ?_
    refine G_bipush pX10_count_116 bi_7 ?_
    refine G_ialdL (j := 7) pX10_count_118 ltk_77 shk_77 (vpl (by decide)) (by decide) ?_
    exact G_ireturn (len := 1) pX10_count_119 ⟨hrf, _, rfl, h⟩ ⟨_, rfl, rfl⟩
  · have h := h.2.2.2.2.2.2.2.2.2.2.1 hc
    refine G_tsInE (v := (8 : Int32)) (off := 119) (tgt := 120) pX10_count_1 hc (by decide) ?_
    refine G_aload_n (i := 0) pX10_count_120 rfl rfl ?_
    refine G_getR (ci := 10) (j := 0) (N := 29) pX10_count_121 fl_RX10_9 rfl ltk_76 shk_76 (by decide) rfl (hrf.lit 76 0 rfl) ?_
    refine G_bipush pX10_count_124 bi_8 ?_
    refine G_ialdL (j := 8) pX10_count_126 ltk_77 shk_77 (vpl (by decide)) (by decide) ?_
    exact G_ireturn (len := 1) pX10_count_127 ⟨hrf, _, rfl, h⟩ ⟨_, rfl, rfl⟩
  · have h := h.2.2.2.2.2.2.2.2.2.2.2.1 hc
    refine G_tsInE (v := (9 : Int32)) (off := 127) (tgt := 128) pX10_count_1 hc (by decide) ?_
    refine G_aload_n (i := 0) pX10_count_128 rfl rfl ?_
    refine G_getI (ci := 10) (j := 24) (N := 29) pX10_count_129 fl_RX10_277 rfl ltk_76 shk_76 (by decide) rfl ?_
    exact G_ireturn (len := 1) pX10_count_132 ⟨hrf, _, rfl, h⟩ ⟨_, rfl, rfl⟩
  · have h := h.2.2.2.2.2.2.2.2.2.2.2.2 hc
    refine G_tsInE (v := (10 : Int32)) (off := 132) (tgt := 133) pX10_count_1 hc (by decide) ?_
    refine G_aload_n (i := 0) pX10_count_133 rfl rfl ?_
    refine G_getR (ci := 10) (j := 0) (N := 29) pX10_count_134 fl_RX10_9 rfl ltk_76 shk_76 (by decide) rfl (hrf.lit 76 0 rfl) ?_
    refine G_iconst pX10_count_137 ic_5 ?_
    refine G_ialdL (j := 5) pX10_count_138 ltk_77 shk_77 (vpl (by decide)) (by decide) ?_
    exact G_ireturn (len := 1) pX10_count_139 ⟨hrf, _, rfl, h⟩ ⟨_, rfl, rfl⟩
def L_X10_told (a1 : Int32) (mem : MMt) (Q : Int32 → MMt → Prop) : Prop := L_X10_isIn a1.toInt64 (1 : Int64) (5 : Int64) mem (fun r2 m1 => ((r2 = 0 → L_X10_error (1 : Int32) m1 (fun r5 m4 => Q r5 m4)) ∧ (¬ r2 = 0 → (vp_in a1 6 ∧ Q (m1 79 a1.toNatClampNeg) m1))))
set_option maxRecDepth 4000 in
theorem g_X10_told {sx : Nat × (Nat → Int32)} {rf : RFt} {Q : Int32 → MMt → Prop} (a1 : Int32) (hrf : RFok rf) (mem : MMt) (h : L_X10_told a1 mem Q) : Ct sx yX10_told cX10_told 2 (some .int) 2 [.ref 76, .int a1] NX NX rf mem (QQi (RFok) Q) := by
  refine Ct_of [some (.ref 76), some (.int a1)] (by decide +kernel) (by simp [Lof, Value.category]) rfl ?_
  unfold L_X10_told at h
  refine G_iload_n (i := 1) pX10_told_0 rfl rfl ?_
  refine G_i2l pX10_told_1 ?_
  refine G_lconst pX10_told_2 lc_1 ?_
  refine G_ldc2 pX10_told_3 rfl wcl_RX10_275 ?_
  refine G_callS3i pX10_told_6 (g_X10_isIn a1.toInt64 (1 : Int64) (5 : Int64) hrf _ h) mS_X10_isIn ml_RX10_53 (by decide) ⟨Nat.le_refl _, Nat.le_refl _, Nat.le_refl _⟩ (Nat.le_of_ble_eq_true rfl) ?_
  intro r2 rf m1 hrf h hr2
  refine G_if_eq pX10_told_9 (fun c3 => ?_) (fun c3 => ?_)
  · have h := h.1 c3
    refine G_aload_n (i := 0) pX10_told_21 rfl rfl ?_
    refine G_iconst pX10_told_22 ic_1 ?_
    refine G_callV1i (b := 76) (ci := 10) (N := 29) pX10_told_23 (g_X10_error (1 : Int32) hrf _ h) mV_X10_error ml_RX10_79 (by decide) ⟨Nat.le_refl _, Nat.le_refl _, Nat.le_refl _⟩ (Nat.le_of_ble_eq_true rfl) ltk_76 shk_76 rfl ?_
    intro r5 rf m4 hrf h hr5
    exact G_ireturn (len := 1) pX10_told_26 ⟨hrf, _, rfl, h⟩ ⟨_, rfl, rfl⟩
  · have h := h.2 c3
    refine G_aload_n (i := 0) pX10_told_12 rfl rfl ?_
    refine G_getR (ci := 10) (j := 4) (N := 29) pX10_told_13 fl_RX10_16 rfl ltk_76 shk_76 (by decide) rfl (hrf.lit 76 4 rfl) ?_
    refine G_iload_n (i := 1) pX10_told_16 rfl rfl ?_
    obtain ⟨hi6, h⟩ := h
    refine G_iald pX10_told_17 ltk_79 shk_79 hi6 ?_
    refine G_goto pX10_told_18 ?_
    exact G_ireturn (len := 1) pX10_told_26 ⟨hrf, _, rfl, h⟩ ⟨_, rfl, rfl⟩
