def L_X9_within (a1 : Int32) (a2 : Int32) (a3 : Int32) (mem : MMt) (Q : Int32 → MMt → Prop) : Prop := ((a1 < a2 → Q (0 : Int32) mem) ∧ (¬ a1 < a2 → ((a3 < a1 → Q (0 : Int32) mem) ∧ (¬ a3 < a1 → Q (1 : Int32) mem))))
set_option maxRecDepth 4000 in
theorem g_X9_within {sx : Nat × (Nat → Int32)} {M : RFt → Prop} {rf : RFt} {Q : Int32 → MMt → Prop} (a1 : Int32) (a2 : Int32) (a3 : Int32) (hrf : M rf) (mem : MMt) (h : L_X9_within a1 a2 a3 mem Q) : Ct sx yX9_within cX9_within 3 (some .boolean) 1 [.int a1, .int a2, .int a3] NX NX rf mem (QQi (M) Q) := by
  refine Ct_of [some (.int a1), some (.int a2), some (.int a3)] (by decide +kernel) (by simp [Lof, Value.category]) rfl ?_
  unfold L_X9_within at h
  refine G_iload_n (i := 0) pX9_within_0 rfl rfl ?_
  refine G_iload_n (i := 1) pX9_within_1 rfl rfl ?_
  refine G_icmp_lt pX9_within_2 (fun c1 => ?_) (fun c1 => ?_)
  · have h := h.1 c1
    refine G_iconst pX9_within_14 ic_0 ?_
    exact G_ireturn (len := 1) pX9_within_15 ⟨hrf, _, rfl, h⟩ ⟨_, rfl, rfl⟩
  · have h := h.2 c1
    refine G_iload_n (i := 0) pX9_within_5 rfl rfl ?_
    refine G_iload_n (i := 2) pX9_within_6 rfl rfl ?_
    refine G_icmp_gt pX9_within_7 (fun c2 => ?_) (fun c2 => ?_)
    · have h := h.1 c2
      refine G_iconst pX9_within_14 ic_0 ?_
      exact G_ireturn (len := 1) pX9_within_15 ⟨hrf, _, rfl, h⟩ ⟨_, rfl, rfl⟩
    · have h := h.2 c2
      refine G_iconst pX9_within_10 ic_1 ?_
      refine G_goto pX9_within_11 ?_
      exact G_ireturn (len := 1) pX9_within_15 ⟨hrf, _, rfl, h⟩ ⟨_, rfl, rfl⟩
def L_X9_isKm (a1 : Int32) (mem : MMt) (Q : Int32 → MMt → Prop) : Prop := L_X9_within a1 (0 : Int32) (69 : Int32) mem (fun r2 m1 => Q r2 m1)
set_option maxRecDepth 4000 in
theorem g_X9_isKm {sx : Nat × (Nat → Int32)} {M : RFt → Prop} {rf : RFt} {Q : Int32 → MMt → Prop} (a1 : Int32) (hrf : M rf) (mem : MMt) (h : L_X9_isKm a1 mem Q) : Ct sx yX9_isKm cX9_isKm 1 (some .boolean) 2 [.int a1] NX NX rf mem (QQi (M) Q) := by
  refine Ct_of [some (.int a1)] (by decide +kernel) (by simp [Lof, Value.category]) rfl ?_
  unfold L_X9_isKm at h
  refine G_iload_n (i := 0) pX9_isKm_0 rfl rfl ?_
  refine G_iconst pX9_isKm_1 ic_0 ?_
  refine G_bipush pX9_isKm_2 bi_69 ?_
  refine G_callS3i pX9_isKm_4 (g_X9_within a1 (0 : Int32) (69 : Int32) hrf _ h) mS_X9_within ml_RX9_104 (by decide) ⟨Nat.le_refl _, Nat.le_refl _, Nat.le_refl _⟩ (Nat.le_of_ble_eq_true rfl) ?_
  intro r2 rf m1 hrf h hr2
  exact G_ireturn (len := 1) pX9_isKm_7 ⟨hrf, _, rfl, h⟩ hr2
def L_X9_isFloor (a1 : Int32) (mem : MMt) (Q : Int32 → MMt → Prop) : Prop := L_X9_within a1 (0 : Int32) (40 : Int32) mem (fun r2 m1 => Q r2 m1)
set_option maxRecDepth 4000 in
theorem g_X9_isFloor {sx : Nat × (Nat → Int32)} {M : RFt → Prop} {rf : RFt} {Q : Int32 → MMt → Prop} (a1 : Int32) (hrf : M rf) (mem : MMt) (h : L_X9_isFloor a1 mem Q) : Ct sx yX9_isFloor cX9_isFloor 1 (some .boolean) 2 [.int a1] NX NX rf mem (QQi (M) Q) := by
  refine Ct_of [some (.int a1)] (by decide +kernel) (by simp [Lof, Value.category]) rfl ?_
  unfold L_X9_isFloor at h
  refine G_iload_n (i := 0) pX9_isFloor_0 rfl rfl ?_
  refine G_iconst pX9_isFloor_1 ic_0 ?_
  refine G_bipush pX9_isFloor_2 bi_40 ?_
  refine G_callS3i pX9_isFloor_4 (g_X9_within a1 (0 : Int32) (40 : Int32) hrf _ h) mS_X9_within ml_RX9_104 (by decide) ⟨Nat.le_refl _, Nat.le_refl _, Nat.le_refl _⟩ (Nat.le_of_ble_eq_true rfl) ?_
  intro r2 rf m1 hrf h hr2
  exact G_ireturn (len := 1) pX9_isFloor_7 ⟨hrf, _, rfl, h⟩ hr2
def L_X9_error (a1 : Int32) (mem : MMt) (Q : Int32 → MMt → Prop) : Prop := (vp_in a1 6 ∧ (vp_in a1 6 ∧ ∀ m2 : MMt, m2 = up2 mem 67 a1.toNatClampNeg ((mem 67 a1.toNatClampNeg) + (1 : Int32)) → Q ((-1000000000 : Int32) - a1) m2))
set_option maxRecDepth 4000 in
theorem g_X9_error {sx : Nat × (Nat → Int32)} {rf : RFt} {Q : Int32 → MMt → Prop} (a1 : Int32) (hrf : RFok rf) (mem : MMt) (h : L_X9_error a1 mem Q) : Ct sx yX9_error cX9_error 2 (some .int) 1 [.ref 0, .int a1] NX NX rf mem (QQi (RFok) Q) := by
  refine Ct_of [some (.ref 0), some (.int a1)] (by decide +kernel) (by simp [Lof, Value.category]) rfl ?_
  unfold L_X9_error at h
  refine G_aload_n (i := 0) pX9_error_0 rfl rfl ?_
  refine G_getR (ci := 9) (j := 10) (N := 12) pX9_error_1 fl_RX9_68 rfl ltk_0 shk_0 (by decide) rfl (hrf.lit 0 10 rfl) ?_
  refine G_iload_n (i := 1) pX9_error_4 rfl rfl ?_
  refine G_dup2 pX9_error_5 rfl rfl ?_
  obtain ⟨hi1, h⟩ := h
  refine G_iald pX9_error_6 ltk_67 shk_67 hi1 ?_
  refine G_iconst pX9_error_7 ic_1 ?_
  refine G_iadd pX9_error_8 ?_
  obtain ⟨hi3, h⟩ := h
  obtain ⟨m2, em2⟩ : ∃ z : MMt, z = up2 mem 67 a1.toNatClampNeg ((mem 67 a1.toNatClampNeg) + (1 : Int32)) := ⟨_, rfl⟩
  have h := h m2 em2
  refine G_iastW pX9_error_9 ltk_67 shk_67 hi3 em2.symm ?_
  refine G_ldcw pX9_error_10 rfl wc_RX9_330 ?_
  refine G_iload_n (i := 1) pX9_error_13 rfl rfl ?_
  refine G_isub pX9_error_14 ?_
  exact G_ireturn (len := 1) pX9_error_15 ⟨hrf, _, rfl, h⟩ ⟨_, rfl, rfl⟩
def L_X1_turnInto (q0 : Nat) (a1 : Int32) (mem : MMt) (Q : MMt → Prop) : Prop := (∀ m1 : MMt, m1 = up2 mem q0 0 (a1 / (10 : Int32)) → (∀ m2 : MMt, m2 = up2 m1 q0 1 (a1 - a1 / (10 : Int32) * (10 : Int32)) → Q m2))
set_option maxRecDepth 4000 in
theorem g_X1_turnInto {sx : Nat × (Nat → Int32)} {M : RFt → Prop} {rf : RFt} {Q : MMt → Prop} (q0 : Nat) (a1 : Int32) (hq0 : IS 1 q0) (hrf : M rf) (mem : MMt) (h : L_X1_turnInto q0 a1 mem Q) : Ct sx yX1_turnInto cX1_turnInto 2 none 1 [.ref q0, .int a1] NX NX rf mem (QQv (M) Q) := by
  refine Ct_of [some (.ref q0), some (.int a1)] (by decide +kernel) (by simp [Lof, Value.category]) rfl ?_
  unfold L_X1_turnInto at h
  refine G_aload_n (i := 0) pX1_turnInto_0 rfl rfl ?_
  refine G_iload_n (i := 1) pX1_turnInto_1 rfl rfl ?_
  refine G_bipush pX1_turnInto_2 bi_10 ?_
  refine G_idiv pX1_turnInto_4 (by decide) ?_
  obtain ⟨m1, em1⟩ : ∃ z : MMt, z = up2 mem q0 0 (a1 / (10 : Int32)) := ⟨_, rfl⟩
  have h := h m1 em1
  refine G_putIW (ci := 1) (j := 0) (N := 5) pX1_turnInto_5 fw_RX1_9 rfl hq0.2 hq0.sh1 (by decide) rfl (fun _ => ⟨rfl, rfl⟩) em1.symm ?_
  refine G_aload_n (i := 0) pX1_turnInto_8 rfl rfl ?_
  refine G_iload_n (i := 1) pX1_turnInto_9 rfl rfl ?_
  refine G_bipush pX1_turnInto_10 bi_10 ?_
  refine G_irem pX1_turnInto_12 (by decide) ?_
  obtain ⟨m2, em2⟩ : ∃ z : MMt, z = up2 m1 q0 1 (a1 - a1 / (10 : Int32) * (10 : Int32)) := ⟨_, rfl⟩
  have h := h m2 em2
  refine G_putIW (ci := 1) (j := 1) (N := 5) pX1_turnInto_13 fw_RX1_15 rfl hq0.2 hq0.sh1 (by decide) rfl (fun _ => ⟨rfl, rfl⟩) em2.symm ?_
  exact G_return (len := 1) pX1_turnInto_16 ⟨hrf, rfl, h⟩ rfl
def L_X1_standAt (q0 : Nat) (a1 : Int32) (mem : MMt) (Q : MMt → Prop) : Prop := (∀ m1 : MMt, m1 = up2 mem q0 2 a1 → (∀ m2 : MMt, m2 = up2 m1 q0 4 a1 → (∀ m3 : MMt, m3 = up2 m2 q0 3 (0 : Int32) → Q m3)))
set_option maxRecDepth 4000 in
theorem g_X1_standAt {sx : Nat × (Nat → Int32)} {M : RFt → Prop} {rf : RFt} {Q : MMt → Prop} (q0 : Nat) (a1 : Int32) (hq0 : IS 1 q0) (hrf : M rf) (mem : MMt) (h : L_X1_standAt q0 a1 mem Q) : Ct sx yX1_standAt cX1_standAt 2 none 1 [.ref q0, .int a1] NX NX rf mem (QQv (M) Q) := by
  refine Ct_of [some (.ref q0), some (.int a1)] (by decide +kernel) (by simp [Lof, Value.category]) rfl ?_
  unfold L_X1_standAt at h
  refine G_aload_n (i := 0) pX1_standAt_0 rfl rfl ?_
  refine G_iload_n (i := 1) pX1_standAt_1 rfl rfl ?_
  obtain ⟨m1, em1⟩ : ∃ z : MMt, z = up2 mem q0 2 a1 := ⟨_, rfl⟩
  have h := h m1 em1
  refine G_putIW (ci := 1) (j := 2) (N := 5) pX1_standAt_2 fw_RX1_18 rfl hq0.2 hq0.sh1 (by decide) rfl (fun _ => ⟨rfl, rfl⟩) em1.symm ?_
  refine G_aload_n (i := 0) pX1_standAt_5 rfl rfl ?_
  refine G_iload_n (i := 1) pX1_standAt_6 rfl rfl ?_
  obtain ⟨m2, em2⟩ : ∃ z : MMt, z = up2 m1 q0 4 a1 := ⟨_, rfl⟩
  have h := h m2 em2
  refine G_putIW (ci := 1) (j := 4) (N := 5) pX1_standAt_7 fw_RX1_24 rfl hq0.2 hq0.sh1 (by decide) rfl (fun _ => ⟨rfl, rfl⟩) em2.symm ?_
  refine G_aload_n (i := 0) pX1_standAt_10 rfl rfl ?_
  refine G_iconst pX1_standAt_11 ic_0 ?_
  obtain ⟨m3, em3⟩ : ∃ z : MMt, z = up2 m2 q0 3 (0 : Int32) := ⟨_, rfl⟩
  have h := h m3 em3
  refine G_putIW (ci := 1) (j := 3) (N := 5) pX1_standAt_12 fw_RX1_21 rfl hq0.2 hq0.sh1 (by decide) rfl (fun _ => ⟨rfl, rfl⟩) em3.symm ?_
  exact G_return (len := 1) pX1_standAt_15 ⟨hrf, rfl, h⟩ rfl
def L_X9_good (a1 : Int32) (a2 : Int32) (mem : MMt) (Q : Int32 → MMt → Prop) : Prop := L_X9_isKm a1 mem (fun r2 m1 => ((r2 = 0 → L_X9_error (1 : Int32) m1 (fun r5 m4 => Q r5 m4)) ∧ (¬ r2 = 0 → L_X9_isFloor a2 m1 (fun r7 m6 => ((¬ r7 = 0 → (((m6 1 1) < (8 : Int32) → (vp_in (m6 1 1) 8 ∧ L_X1_turnInto (1 + 2 + (m6 1 1).toNatClampNeg) a1 m6 (fun m11 => L_X1_standAt (1 + 2 + (m6 1 1).toNatClampNeg) a2 m11 (fun m12 => (∀ m13 : MMt, m13 = up2 m12 1 1 ((m12 1 1) + (1 : Int32)) → Q ((m13 1 1) - (1 : Int32)) m13))))) ∧ (¬ (m6 1 1) < (8 : Int32) → L_X9_error (4 : Int32) m6 (fun r15 m14 => Q r15 m14)))) ∧ (r7 = 0 → L_X9_error (1 : Int32) m6 (fun r17 m16 => Q r17 m16)))))))
set_option maxRecDepth 4000 in
theorem g_X9_good {sx : Nat × (Nat → Int32)} {rf : RFt} {Q : Int32 → MMt → Prop} (a1 : Int32) (a2 : Int32) (hrf : RFok rf) (mem : MMt) (h : L_X9_good a1 a2 mem Q) : Ct sx yX9_good cX9_good 4 (some .int) 3 [.ref 0, .int a1, .int a2] NX NX rf mem (QQi (RFok) Q) := by
  refine Ct_of [some (.ref 0), some (.int a1), some (.int a2), none] (by decide +kernel) (by simp [Lof, Value.category]) rfl ?_
  unfold L_X9_good at h
  refine G_iload_n (i := 1) pX9_good_0 rfl rfl ?_
  refine G_callS1i pX9_good_1 (g_X9_isKm a1 hrf _ h) mS_X9_isKm ml_RX9_73 (by decide) ⟨Nat.le_refl _, Nat.le_refl _, Nat.le_refl _⟩ (Nat.le_of_ble_eq_true rfl) ?_
  intro r2 rf m1 hrf h hr2
  refine G_if_eq pX9_good_4 (fun c3 => ?_) (fun c3 => ?_)
  · have h := h.1 c3
    refine G_aload_n (i := 0) pX9_good_14 rfl rfl ?_
    refine G_iconst pX9_good_15 ic_1 ?_
    refine G_callV1i (b := 0) (ci := 9) (N := 12) pX9_good_16 (g_X9_error (1 : Int32) hrf _ h) mV_X9_error ml_RX9_80 (by decide) ⟨Nat.le_refl _, Nat.le_refl _, Nat.le_refl _⟩ (Nat.le_of_ble_eq_true rfl) ltk_0 shk_0 rfl ?_
    intro r5 rf m4 hrf h hr5
    exact G_ireturn (len := 1) pX9_good_19 ⟨hrf, _, rfl, h⟩ ⟨_, rfl, rfl⟩
  · have h := h.2 c3
    refine G_iload_n (i := 2) pX9_good_7 rfl rfl ?_
    refine G_callS1i pX9_good_8 (g_X9_isFloor a2 hrf _ h) mS_X9_isFloor ml_RX9_77 (by decide) ⟨Nat.le_refl _, Nat.le_refl _, Nat.le_refl _⟩ (Nat.le_of_ble_eq_true rfl) ?_
    intro r7 rf m6 hrf h hr7
    refine G_if_ne pX9_good_11 (fun c8 => ?_) (fun c8 => ?_)
    · have h := h.1 c8
      refine G_aload_n (i := 0) pX9_good_20 rfl rfl ?_
      refine G_getR (ci := 9) (j := 0) (N := 12) pX9_good_21 fl_RX9_10 rfl ltk_0 shk_0 (by decide) rfl (hrf.lit 0 0 rfl) ?_
      refine G_getI (ci := 0) (j := 1) (N := 4) pX9_good_24 fl_RX9_84 rfl ltk_1 shk_1 (by decide) rfl ?_
      refine G_bipush pX9_good_27 bi_8 ?_
      refine G_icmp_lt pX9_good_29 (fun c9 => ?_) (fun c9 => ?_)
      · have h := h.1 c9
        refine G_aload_n (i := 0) pX9_good_38 rfl rfl ?_
        refine G_getR (ci := 9) (j := 0) (N := 12) pX9_good_39 fl_RX9_10 rfl ltk_0 shk_0 (by decide) rfl (hrf.lit 0 0 rfl) ?_
        refine G_getR (ci := 0) (j := 0) (N := 4) pX9_good_42 fl_RX9_88 rfl ltk_1 shk_1 (by decide) rfl (hrf.lit 1 0 rfl) ?_
        refine G_aload_n (i := 0) pX9_good_45 rfl rfl ?_
        refine G_getR (ci := 9) (j := 0) (N := 12) pX9_good_46 fl_RX9_10 rfl ltk_0 shk_0 (by decide) rfl (hrf.lit 0 0 rfl) ?_
        refine G_getI (ci := 0) (j := 1) (N := 4) pX9_good_49 fl_RX9_84 rfl ltk_1 shk_1 (by decide) rfl ?_
        obtain ⟨hi10, h⟩ := h
        refine G_aald pX9_good_52 ltk_2 shk_2 (by decide) hi10 (gd_rf (IS_lit shk_1 ltk_1) hrf hi10) ?_
        refine G_astore_n (i := 3) (L' := [some (.ref 0), some (.int a1), some (.int a2), some (.ref (1 + 2 + (m6 1 1).toNatClampNeg))]) pX9_good_53 rfl rfl ?_
        refine G_aload_n (i := 3) pX9_good_54 rfl rfl ?_
        refine G_iload_n (i := 1) pX9_good_55 rfl rfl ?_
        refine G_callV1v (b := 1 + 2 + (m6 1 1).toNatClampNeg) (ci := 1) (N := 5) pX9_good_56 (g_X1_turnInto (1 + 2 + (m6 1 1).toNatClampNeg) a1 (gd_in (IS_lit shk_1 ltk_1) hi10) hrf _ h) mV_X1_turnInto ml_RX9_92 (by decide) ⟨Nat.le_refl _, Nat.le_refl _, Nat.le_refl _⟩ (Nat.le_of_ble_eq_true rfl) (gd_in (IS_lit shk_1 ltk_1) hi10).2 (gd_in (IS_lit shk_1 ltk_1) hi10).sh1 rfl ?_
        intro rf m11 hrf h
        refine G_aload_n (i := 3) pX9_good_59 rfl rfl ?_
        refine G_iload_n (i := 2) pX9_good_60 rfl rfl ?_
        refine G_callV1v (b := 1 + 2 + (m6 1 1).toNatClampNeg) (ci := 1) (N := 5) pX9_good_61 (g_X1_standAt (1 + 2 + (m6 1 1).toNatClampNeg) a2 (gd_in (IS_lit shk_1 ltk_1) hi10) hrf _ h) mV_X1_standAt ml_RX9_98 (by decide) ⟨Nat.le_refl _, Nat.le_refl _, Nat.le_refl _⟩ (Nat.le_of_ble_eq_true rfl) (gd_in (IS_lit shk_1 ltk_1) hi10).2 (gd_in (IS_lit shk_1 ltk_1) hi10).sh1 rfl ?_
        intro rf m12 hrf h
        refine G_aload_n (i := 0) pX9_good_64 rfl rfl ?_
        refine G_getR (ci := 9) (j := 0) (N := 12) pX9_good_65 fl_RX9_10 rfl ltk_0 shk_0 (by decide) rfl (hrf.lit 0 0 rfl) ?_
        refine G_dup pX9_good_68 rfl ?_
        refine G_getI (ci := 0) (j := 1) (N := 4) pX9_good_69 fl_RX9_84 rfl ltk_1 shk_1 (by decide) rfl ?_
        refine G_iconst pX9_good_72 ic_1 ?_
        refine G_iadd pX9_good_73 ?_
        obtain ⟨m13, em13⟩ : ∃ z : MMt, z = up2 m12 1 1 ((m12 1 1) + (1 : Int32)) := ⟨_, rfl⟩
        have h := h m13 em13
        refine G_putIW (ci := 0) (j := 1) (N := 4) pX9_good_74 fw_RX9_84 rfl ltk_1 shk_1 (by decide) rfl (fun _ => ⟨rfl, rfl⟩) em13.symm ?_
        refine G_aload_n (i := 0) pX9_good_77 rfl rfl ?_
        refine G_getR (ci := 9) (j := 0) (N := 12) pX9_good_78 fl_RX9_10 rfl ltk_0 shk_0 (by decide) rfl (hrf.lit 0 0 rfl) ?_
        refine G_getI (ci := 0) (j := 1) (N := 4) pX9_good_81 fl_RX9_84 rfl ltk_1 shk_1 (by decide) rfl ?_
        refine G_iconst pX9_good_84 ic_1 ?_
        refine G_isub pX9_good_85 ?_
        exact G_ireturn (len := 1) pX9_good_86 ⟨hrf, _, rfl, h⟩ ⟨_, rfl, rfl⟩
      · have h := h.2 c9
        refine G_aload_n (i := 0) pX9_good_32 rfl rfl ?_
        refine G_iconst pX9_good_33 ic_4 ?_
        refine G_callV1i (b := 0) (ci := 9) (N := 12) pX9_good_34 (g_X9_error (4 : Int32) hrf _ h) mV_X9_error ml_RX9_80 (by decide) ⟨Nat.le_refl _, Nat.le_refl _, Nat.le_refl _⟩ (Nat.le_of_ble_eq_true rfl) ltk_0 shk_0 rfl ?_
        intro r15 rf m14 hrf h hr15
        exact G_ireturn (len := 1) pX9_good_37 ⟨hrf, _, rfl, h⟩ ⟨_, rfl, rfl⟩
    · have h := h.2 c8
      refine G_aload_n (i := 0) pX9_good_14 rfl rfl ?_
      refine G_iconst pX9_good_15 ic_1 ?_
      refine G_callV1i (b := 0) (ci := 9) (N := 12) pX9_good_16 (g_X9_error (1 : Int32) hrf _ h) mV_X9_error ml_RX9_80 (by decide) ⟨Nat.le_refl _, Nat.le_refl _, Nat.le_refl _⟩ (Nat.le_of_ble_eq_true rfl) ltk_0 shk_0 rfl ?_
      intro r17 rf m16 hrf h hr17
      exact G_ireturn (len := 1) pX9_good_19 ⟨hrf, _, rfl, h⟩ ⟨_, rfl, rfl⟩
def L_X9_isGood (a1 : Int32) (mem : MMt) (Q : Int32 → MMt → Prop) : Prop := L_X9_within a1 (0 : Int32) ((mem 1 1) - (1 : Int32)) mem (fun r2 m1 => Q r2 m1)
set_option maxRecDepth 4000 in
theorem g_X9_isGood {sx : Nat × (Nat → Int32)} {rf : RFt} {Q : Int32 → MMt → Prop} (a1 : Int32) (hrf : RFok rf) (mem : MMt) (h : L_X9_isGood a1 mem Q) : Ct sx yX9_isGood cX9_isGood 2 (some .boolean) 2 [.ref 0, .int a1] NX NX rf mem (QQi (RFok) Q) := by
  refine Ct_of [some (.ref 0), some (.int a1)] (by decide +kernel) (by simp [Lof, Value.category]) rfl ?_
  unfold L_X9_isGood at h
  refine G_iload_n (i := 1) pX9_isGood_0 rfl rfl ?_
  refine G_iconst pX9_isGood_1 ic_0 ?_
  refine G_aload_n (i := 0) pX9_isGood_2 rfl rfl ?_
  refine G_getR (ci := 9) (j := 0) (N := 12) pX9_isGood_3 fl_RX9_10 rfl ltk_0 shk_0 (by decide) rfl (hrf.lit 0 0 rfl) ?_
  refine G_getI (ci := 0) (j := 1) (N := 4) pX9_isGood_6 fl_RX9_84 rfl ltk_1 shk_1 (by decide) rfl ?_
  refine G_iconst pX9_isGood_9 ic_1 ?_
  refine G_isub pX9_isGood_10 ?_
  refine G_callS3i pX9_isGood_11 (g_X9_within a1 (0 : Int32) ((mem 1 1) - (1 : Int32)) hrf _ h) mS_X9_within ml_RX9_104 (by decide) ⟨Nat.le_refl _, Nat.le_refl _, Nat.le_refl _⟩ (Nat.le_of_ble_eq_true rfl) ?_
  intro r2 rf m1 hrf h hr2
  exact G_ireturn (len := 1) pX9_isGood_14 ⟨hrf, _, rfl, h⟩ hr2
def L_X1_load (q0 : Nat) (mem : MMt) (Q : Int32 → MMt → Prop) : Prop := (∀ v1 : Int32, v1 = mem q0 0 → ((v1 < (1 : Int32) → Q ((mem q0 1) + (1 : Int32)) mem) ∧ ((6 : Int32) < v1 → Q ((mem q0 1) + (1 : Int32)) mem) ∧ (v1 = (1 : Int32) → Q ((3 : Int32) * ((mem q0 1) + (1 : Int32))) mem) ∧ (v1 = (2 : Int32) → Q ((mem q0 1) + (1 : Int32)) mem) ∧ (v1 = (3 : Int32) → Q (0 : Int32) mem) ∧ (v1 = (4 : Int32) → Q (((mem q0 1) + (1 : Int32)) + (5 : Int32)) mem) ∧ (v1 = (5 : Int32) → Q (mem q0 1) mem) ∧ (v1 = (6 : Int32) → Q (((3 : Int32) * ((mem q0 1) + (1 : Int32))) + (20 : Int32)) mem)))
set_option maxRecDepth 4000 in
theorem g_X1_load {sx : Nat × (Nat → Int32)} {M : RFt → Prop} {rf : RFt} {Q : Int32 → MMt → Prop} (q0 : Nat) (hq0 : IS 1 q0) (hrf : M rf) (mem : MMt) (h : L_X1_load q0 mem Q) : Ct sx yX1_load cX1_load 1 (some .int) 1 [.ref q0] NX NX rf mem (QQi (M) Q) := by
  refine Ct_of [some (.ref q0)] (by decide +kernel) (by simp [Lof, Value.category]) rfl ?_
  unfold L_X1_load at h
  refine G_aload_n (i := 0) pX1_load_0 rfl rfl ?_
  refine G_getI (ci := 1) (j := 0) (N := 5) pX1_load_1 fl_RX1_9 rfl hq0.2 hq0.sh1 (by decide) rfl ?_
  refine G_nmI (fun v1 e1 => ?_)
  have h := h v1 e1
  by_cases c2 : v1 < (1 : Int32)
  · have h := h.1 c2
    refine G_tsOut (tgt := 81) pX1_load_4 (Or.inl (ts_lt c2 (by decide))) (by decide) ?_
    refine G_aload_n (i := 0) pX1_load_81 rfl rfl ?_
    refine G_getI (ci := 1) (j := 1) (N := 5) pX1_load_82 fl_RX1_15 rfl hq0.2 hq0.sh1 (by decide) rfl ?_
    refine G_iconst pX1_load_85 ic_1 ?_
    refine G_iadd pX1_load_86 ?_
    exact G_ireturn (len := 1) pX1_load_87 ⟨hrf, _, rfl, h⟩ ⟨_, rfl, rfl⟩
  by_cases c3 : (6 : Int32) < v1
  · have h := h.2.1 c3
    refine G_tsOut (tgt := 81) pX1_load_4 (Or.inr (ts_gt c3 (by decide))) (by decide) ?_
    refine G_aload_n (i := 0) pX1_load_81 rfl rfl ?_
    refine G_getI (ci := 1) (j := 1) (N := 5) pX1_load_82 fl_RX1_15 rfl hq0.2 hq0.sh1 (by decide) rfl ?_
    refine G_iconst pX1_load_85 ic_1 ?_
    refine G_iadd pX1_load_86 ?_
    exact G_ireturn (len := 1) pX1_load_87 ⟨hrf, _, rfl, h⟩ ⟨_, rfl, rfl⟩
  rcases tsx_1_6 c2 c3 with hc | hc | hc | hc | hc | hc
  · have h := h.2.2.1 hc
    refine G_tsInE (v := (1 : Int32)) (off := 40) (tgt := 44) pX1_load_4 hc (by decide) ?_
    refine G_iconst pX1_load_44 ic_3 ?_
    refine G_aload_n (i := 0) pX1_load_45 rfl rfl ?_
    refine G_getI (ci := 1) (j := 1) (N := 5) pX1_load_46 fl_RX1_15 rfl hq0.2 hq0.sh1 (by decide) rfl ?_
    refine G_iconst pX1_load_49 ic_1 ?_
    refine G_iadd pX1_load_50 ?_
    refine G_imul pX1_load_51 ?_
    exact G_ireturn (len := 1) pX1_load_52 ⟨hrf, _, rfl, h⟩ ⟨_, rfl, rfl⟩
  · have h := h.2.2.2.1 hc
    refine G_tsInE (v := (2 : Int32)) (off := 77) (tgt := 81) pX1_load_4 hc (by decide) ?_
    refine G_aload_n (i := 0) pX1_load_81 rfl rfl ?_
    refine G_getI (ci := 1) (j := 1) (N := 5) pX1_load_82 fl_RX1_15 rfl hq0.2 hq0.sh1 (by decide) rfl ?_
    refine G_iconst pX1_load_85 ic_1 ?_
    refine G_iadd pX1_load_86 ?_
    exact G_ireturn (len := 1) pX1_load_87 ⟨hrf, _, rfl, h⟩ ⟨_, rfl, rfl⟩
  · have h := h.2.2.2.2.1 hc
    refine G_tsInE (v := (3 : Int32)) (off := 70) (tgt := 74) pX1_load_4 hc (by decide) ?_
    refine G_iconst pX1_load_74 ic_0 ?_
    exact G_ireturn (len := 1) pX1_load_75 ⟨hrf, _, rfl, h⟩ ⟨_, rfl, rfl⟩
  · have h := h.2.2.2.2.2.1 hc
    refine G_tsInE (v := (4 : Int32)) (off := 61) (tgt := 65) pX1_load_4 hc (by decide) ?_
    refine G_aload_n (i := 0) pX1_load_65 rfl rfl ?_
    refine G_getI (ci := 1) (j := 1) (N := 5) pX1_load_66 fl_RX1_15 rfl hq0.2 hq0.sh1 (by decide) rfl ?_
    refine G_iconst pX1_load_69 ic_1 ?_
    refine G_iadd pX1_load_70 ?_
    refine G_iconst pX1_load_71 ic_5 ?_
    refine G_iadd pX1_load_72 ?_
    exact G_ireturn (len := 1) pX1_load_73 ⟨hrf, _, rfl, h⟩ ⟨_, rfl, rfl⟩
  · have h := h.2.2.2.2.2.2.1 hc
    refine G_tsInE (v := (5 : Int32)) (off := 72) (tgt := 76) pX1_load_4 hc (by decide) ?_
    refine G_aload_n (i := 0) pX1_load_76 rfl rfl ?_
    refine G_getI (ci := 1) (j := 1) (N := 5) pX1_load_77 fl_RX1_15 rfl hq0.2 hq0.sh1 (by decide) rfl ?_
    exact G_ireturn (len := 1) pX1_load_80 ⟨hrf, _, rfl, h⟩ ⟨_, rfl, rfl⟩
  · have h := h.2.2.2.2.2.2.2 hc
    refine G_tsInE (v := (6 : Int32)) (off := 49) (tgt := 53) pX1_load_4 hc (by decide) ?_
    refine G_iconst pX1_load_53 ic_3 ?_
    refine G_aload_n (i := 0) pX1_load_54 rfl rfl ?_
    refine G_getI (ci := 1) (j := 1) (N := 5) pX1_load_55 fl_RX1_15 rfl hq0.2 hq0.sh1 (by decide) rfl ?_
    refine G_iconst pX1_load_58 ic_1 ?_
    refine G_iadd pX1_load_59 ?_
    refine G_imul pX1_load_60 ?_
    refine G_bipush pX1_load_61 bi_20 ?_
    refine G_iadd pX1_load_63 ?_
    exact G_ireturn (len := 1) pX1_load_64 ⟨hrf, _, rfl, h⟩ ⟨_, rfl, rfl⟩
def L_X2_leaf (a1 : Int32) (a2 : Int32) (a3 : Int32) (a4 : Int32) (mem : MMt) (Q : Int32 → MMt → Prop) : Prop := (∀ v1 : Int32, v1 = a1 - (10000 : Int32) → ((v1 < (0 : Int32) → Q a1 mem) ∧ ((2 : Int32) < v1 → Q a1 mem) ∧ (v1 = (0 : Int32) → Q a2 mem) ∧ (v1 = (1 : Int32) → Q a3 mem) ∧ (v1 = (2 : Int32) → Q a4 mem)))
set_option maxRecDepth 4000 in
theorem g_X2_leaf {sx : Nat × (Nat → Int32)} {M : RFt → Prop} {rf : RFt} {Q : Int32 → MMt → Prop} (a1 : Int32) (a2 : Int32) (a3 : Int32) (a4 : Int32) (hrf : M rf) (mem : MMt) (h : L_X2_leaf a1 a2 a3 a4 mem Q) : Ct sx yX2_leaf cX2_leaf 4 (some .int) 1 [.int a1, .int a2, .int a3, .int a4] NX NX rf mem (QQi (M) Q) := by
  refine Ct_of [some (.int a1), some (.int a2), some (.int a3), some (.int a4)] (by decide +kernel) (by simp [Lof, Value.category]) rfl ?_
  unfold L_X2_leaf at h
  refine G_iload_n (i := 0) pX2_leaf_0 rfl rfl ?_
  refine G_sipush pX2_leaf_1 si_10000 ?_
  refine G_isub pX2_leaf_4 ?_
  refine G_nmI (fun v1 e1 => ?_)
  have h := h v1 e1
  by_cases c2 : v1 < (0 : Int32)
  · have h := h.1 c2
    refine G_tsOut (tgt := 38) pX2_leaf_5 (Or.inl (ts_lt c2 (by decide))) (by decide) ?_
    refine G_iload_n (i := 0) pX2_leaf_38 rfl rfl ?_
    exact G_ireturn (len := 1) pX2_leaf_39 ⟨hrf, _, rfl, h⟩ ⟨_, rfl, rfl⟩
  by_cases c3 : (2 : Int32) < v1
  · have h := h.2.1 c3
    refine G_tsOut (tgt := 38) pX2_leaf_5 (Or.inr (ts_gt c3 (by decide))) (by decide) ?_
    refine G_iload_n (i := 0) pX2_leaf_38 rfl rfl ?_
    exact G_ireturn (len := 1) pX2_leaf_39 ⟨hrf, _, rfl, h⟩ ⟨_, rfl, rfl⟩
  rcases tsx_0_2 c2 c3 with hc | hc | hc
  · have h := h.2.2.1 hc
    refine G_tsInE (v := (0 : Int32)) (off := 27) (tgt := 32) pX2_leaf_5 hc (by decide) ?_
    refine G_iload_n (i := 1) pX2_leaf_32 rfl rfl ?_
    exact G_ireturn (len := 1) pX2_leaf_33 ⟨hrf, _, rfl, h⟩ ⟨_, rfl, rfl⟩
  · have h := h.2.2.2.1 hc
    refine G_tsInE (v := (1 : Int32)) (off := 29) (tgt := 34) pX2_leaf_5 hc (by decide) ?_
    refine G_iload_n (i := 2) pX2_leaf_34 rfl rfl ?_
    exact G_ireturn (len := 1) pX2_leaf_35 ⟨hrf, _, rfl, h⟩ ⟨_, rfl, rfl⟩
  · have h := h.2.2.2.2 hc
    refine G_tsInE (v := (2 : Int32)) (off := 31) (tgt := 36) pX2_leaf_5 hc (by decide) ?_
    refine G_iload_n (i := 3) pX2_leaf_36 rfl rfl ?_
    exact G_ireturn (len := 1) pX2_leaf_37 ⟨hrf, _, rfl, h⟩ ⟨_, rfl, rfl⟩
def L_X2_joined (a1 : Int32) (a2 : Int32) (a3 : Int32) (mem : MMt) (Q : Int32 → MMt → Prop) : Prop := ((a1 < (37 : Int32) → ((¬ a2 = 0 → Q (1 : Int32) mem) ∧ (a2 = 0 → ((a3 = 0 → Q (0 : Int32) mem) ∧ (¬ a3 = 0 → Q (1 : Int32) mem))))) ∧ ((62 : Int32) < a1 → ((¬ a2 = 0 → Q (1 : Int32) mem) ∧ (a2 = 0 → ((a3 = 0 → Q (0 : Int32) mem) ∧ (¬ a3 = 0 → Q (1 : Int32) mem))))) ∧ (a1 = (37 : Int32) → ((¬ a3 = 0 → (¬ a3 = 0 ∧ Q (a2 - a2 / a3 * a3) mem)) ∧ (a3 = 0 → Q (0 : Int32) mem))) ∧ (a1 = (38 : Int32) → ((a2 = 0 → Q (0 : Int32) mem) ∧ (¬ a2 = 0 → ((a3 = 0 → Q (0 : Int32) mem) ∧ (¬ a3 = 0 → Q (1 : Int32) mem))))) ∧ (a1 = (39 : Int32) → ((¬ a2 = 0 → Q (1 : Int32) mem) ∧ (a2 = 0 → ((a3 = 0 → Q (0 : Int32) mem) ∧ (¬ a3 = 0 → Q (1 : Int32) mem))))) ∧ (a1 = (40 : Int32) → ((¬ a2 = 0 → Q (1 : Int32) mem) ∧ (a2 = 0 → ((a3 = 0 → Q (0 : Int32) mem) ∧ (¬ a3 = 0 → Q (1 : Int32) mem))))) ∧ (a1 = (41 : Int32) → ((¬ a2 = 0 → Q (1 : Int32) mem) ∧ (a2 = 0 → ((a3 = 0 → Q (0 : Int32) mem) ∧ (¬ a3 = 0 → Q (1 : Int32) mem))))) ∧ (a1 = (42 : Int32) → Q (a2 * a3) mem) ∧ (a1 = (43 : Int32) → Q (a2 + a3) mem) ∧ (a1 = (44 : Int32) → ((¬ a2 = 0 → Q (1 : Int32) mem) ∧ (a2 = 0 → ((a3 = 0 → Q (0 : Int32) mem) ∧ (¬ a3 = 0 → Q (1 : Int32) mem))))) ∧ (a1 = (45 : Int32) → Q (a2 - a3) mem) ∧ (a1 = (46 : Int32) → ((¬ a2 = 0 → Q (1 : Int32) mem) ∧ (a2 = 0 → ((a3 = 0 → Q (0 : Int32) mem) ∧ (¬ a3 = 0 → Q (1 : Int32) mem))))) ∧ (a1 = (47 : Int32) → ((¬ a3 = 0 → (¬ a3 = 0 ∧ Q (a2 / a3) mem)) ∧ (a3 = 0 → Q (0 : Int32) mem))) ∧ (a1 = (48 : Int32) → ((¬ a2 = 0 → Q (1 : Int32) mem) ∧ (a2 = 0 → ((a3 = 0 → Q (0 : Int32) mem) ∧ (¬ a3 = 0 → Q (1 : Int32) mem))))) ∧ (a1 = (49 : Int32) → ((¬ a2 = 0 → Q (1 : Int32) mem) ∧ (a2 = 0 → ((a3 = 0 → Q (0 : Int32) mem) ∧ (¬ a3 = 0 → Q (1 : Int32) mem))))) ∧ (a1 = (50 : Int32) → ((¬ a2 = 0 → Q (1 : Int32) mem) ∧ (a2 = 0 → ((a3 = 0 → Q (0 : Int32) mem) ∧ (¬ a3 = 0 → Q (1 : Int32) mem))))) ∧ (a1 = (51 : Int32) → ((¬ a2 = 0 → Q (1 : Int32) mem) ∧ (a2 = 0 → ((a3 = 0 → Q (0 : Int32) mem) ∧ (¬ a3 = 0 → Q (1 : Int32) mem))))) ∧ (a1 = (52 : Int32) → ((¬ a2 = 0 → Q (1 : Int32) mem) ∧ (a2 = 0 → ((a3 = 0 → Q (0 : Int32) mem) ∧ (¬ a3 = 0 → Q (1 : Int32) mem))))) ∧ (a1 = (53 : Int32) → ((¬ a2 = 0 → Q (1 : Int32) mem) ∧ (a2 = 0 → ((a3 = 0 → Q (0 : Int32) mem) ∧ (¬ a3 = 0 → Q (1 : Int32) mem))))) ∧ (a1 = (54 : Int32) → ((¬ a2 = 0 → Q (1 : Int32) mem) ∧ (a2 = 0 → ((a3 = 0 → Q (0 : Int32) mem) ∧ (¬ a3 = 0 → Q (1 : Int32) mem))))) ∧ (a1 = (55 : Int32) → ((¬ a2 = 0 → Q (1 : Int32) mem) ∧ (a2 = 0 → ((a3 = 0 → Q (0 : Int32) mem) ∧ (¬ a3 = 0 → Q (1 : Int32) mem))))) ∧ (a1 = (56 : Int32) → ((¬ a2 = 0 → Q (1 : Int32) mem) ∧ (a2 = 0 → ((a3 = 0 → Q (0 : Int32) mem) ∧ (¬ a3 = 0 → Q (1 : Int32) mem))))) ∧ (a1 = (57 : Int32) → ((¬ a2 = 0 → Q (1 : Int32) mem) ∧ (a2 = 0 → ((a3 = 0 → Q (0 : Int32) mem) ∧ (¬ a3 = 0 → Q (1 : Int32) mem))))) ∧ (a1 = (58 : Int32) → ((¬ a2 = 0 → Q (1 : Int32) mem) ∧ (a2 = 0 → ((a3 = 0 → Q (0 : Int32) mem) ∧ (¬ a3 = 0 → Q (1 : Int32) mem))))) ∧ (a1 = (59 : Int32) → ((¬ a2 = 0 → Q (1 : Int32) mem) ∧ (a2 = 0 → ((a3 = 0 → Q (0 : Int32) mem) ∧ (¬ a3 = 0 → Q (1 : Int32) mem))))) ∧ (a1 = (60 : Int32) → ((a3 ≤ a2 → Q (0 : Int32) mem) ∧ (¬ a3 ≤ a2 → Q (1 : Int32) mem))) ∧ (a1 = (61 : Int32) → ((¬ a2 = a3 → Q (0 : Int32) mem) ∧ (a2 = a3 → Q (1 : Int32) mem))) ∧ (a1 = (62 : Int32) → ((a2 ≤ a3 → Q (0 : Int32) mem) ∧ (¬ a2 ≤ a3 → Q (1 : Int32) mem))))
set_option maxRecDepth 4000 in
theorem g_X2_joined {sx : Nat × (Nat → Int32)} {M : RFt → Prop} {rf : RFt} {Q : Int32 → MMt → Prop} (a1 : Int32) (a2 : Int32) (a3 : Int32) (hrf : M rf) (mem : MMt) (h : L_X2_joined a1 a2 a3 mem Q) : Ct sx yX2_joined cX2_joined 3 (some .int) 1 [.int a1, .int a2, .int a3] NX NX rf mem (QQi (M) Q) := by
  refine Ct_of [some (.int a1), some (.int a2), some (.int a3)] (by decide +kernel) (by simp [Lof, Value.category]) rfl ?_
  unfold L_X2_joined at h
  refine G_iload_n (i := 0) pX2_joined_0 rfl rfl ?_
  by_cases c3 : a1 < (37 : Int32)
  · have h := h.1 c3
    refine G_tsOut (tgt := 203) pX2_joined_1 (Or.inl (ts_lt c3 (by decide))) (by decide) ?_
    refine G_iload_n (i := 1) pX2_joined_203 rfl rfl ?_
    refine G_if_ne pX2_joined_204 (fun c1 => ?_) (fun c1 => ?_)
    · have h := h.1 c1
      refine G_iconst pX2_joined_211 ic_1 ?_
      refine G_goto pX2_joined_212 ?_
      exact G_ireturn (len := 1) pX2_joined_216 ⟨hrf, _, rfl, h⟩ ⟨_, rfl, rfl⟩
    · have h := h.2 c1
      refine G_iload_n (i := 2) pX2_joined_207 rfl rfl ?_
      refine G_if_eq pX2_joined_208 (fun c2 => ?_) (fun c2 => ?_)
      · have h := h.1 c2
        refine G_iconst pX2_joined_215 ic_0 ?_
        exact G_ireturn (len := 1) pX2_joined_216 ⟨hrf, _, rfl, h⟩ ⟨_, rfl, rfl⟩
      · have h := h.2 c2
        refine G_iconst pX2_joined_211 ic_1 ?_
        refine G_goto pX2_joined_212 ?_
        exact G_ireturn (len := 1) pX2_joined_216 ⟨hrf, _, rfl, h⟩ ⟨_, rfl, rfl⟩
  by_cases c4 : (62 : Int32) < a1
  · have h := h.2.1 c4
    refine G_tsOut (tgt := 203) pX2_joined_1 (Or.inr (ts_gt c4 (by decide))) (by decide) ?_
    refine G_iload_n (i := 1) pX2_joined_203 rfl rfl ?_
    refine G_if_ne pX2_joined_204 (fun c1 => ?_) (fun c1 => ?_)
    · have h := h.1 c1
      refine G_iconst pX2_joined_211 ic_1 ?_
      refine G_goto pX2_joined_212 ?_
      exact G_ireturn (len := 1) pX2_joined_216 ⟨hrf, _, rfl, h⟩ ⟨_, rfl, rfl⟩
    · have h := h.2 c1
      refine G_iload_n (i := 2) pX2_joined_207 rfl rfl ?_
      refine G_if_eq pX2_joined_208 (fun c2 => ?_) (fun c2 => ?_)
      · have h := h.1 c2
        refine G_iconst pX2_joined_215 ic_0 ?_
        exact G_ireturn (len := 1) pX2_joined_216 ⟨hrf, _, rfl, h⟩ ⟨_, rfl, rfl⟩
      · have h := h.2 c2
        refine G_iconst pX2_joined_211 ic_1 ?_
        refine G_goto pX2_joined_212 ?_
        exact G_ireturn (len := 1) pX2_joined_216 ⟨hrf, _, rfl, h⟩ ⟨_, rfl, rfl⟩
  rcases tsx_37_62 c3 c4 with hc | hc | hc | hc | hc | hc | hc | hc | hc | hc | hc | hc | hc | hc | hc | hc | hc | hc | hc | hc | hc | hc | hc | hc | hc | hc
  · have h := h.2.2.1 hc
    refine G_tsInE (v := (37 : Int32)) (off := 143) (tgt := 144) pX2_joined_1 hc (by decide) ?_
    refine G_iload_n (i := 2) pX2_joined_144 rfl rfl ?_
    refine G_if_ne pX2_joined_145 (fun c5 => ?_) (fun c5 => ?_)
    · have h := h.1 c5
      refine G_iload_n (i := 1) pX2_joined_152 rfl rfl ?_
      refine G_iload_n (i := 2) pX2_joined_153 rfl rfl ?_
      obtain ⟨hz, h⟩ := h
      refine G_irem pX2_joined_154 hz ?_
      exact G_ireturn (len := 1) pX2_joined_155 ⟨hrf, _, rfl, h⟩ ⟨_, rfl, rfl⟩
    · have h := h.2 c5
      refine G_iconst pX2_joined_148 ic_0 ?_
      refine G_goto pX2_joined_149 ?_
      exact G_ireturn (len := 1) pX2_joined_155 ⟨hrf, _, rfl, h⟩ ⟨_, rfl, rfl⟩
  · have h := h.2.2.2.1 hc
    refine G_tsInE (v := (38 : Int32)) (off := 188) (tgt := 189) pX2_joined_1 hc (by decide) ?_
    refine G_iload_n (i := 1) pX2_joined_189 rfl rfl ?_
    refine G_if_eq pX2_joined_190 (fun c6 => ?_) (fun c6 => ?_)
    · have h := h.1 c6
      refine G_iconst pX2_joined_201 ic_0 ?_
      exact G_ireturn (len := 1) pX2_joined_202 ⟨hrf, _, rfl, h⟩ ⟨_, rfl, rfl⟩
    · have h := h.2 c6
      refine G_iload_n (i := 2) pX2_joined_193 rfl rfl ?_
      refine G_if_eq pX2_joined_194 (fun c7 => ?_) (fun c7 => ?_)
      · have h := h.1 c7
        refine G_iconst pX2_joined_201 ic_0 ?_
        exact G_ireturn (len := 1) pX2_joined_202 ⟨hrf, _, rfl, h⟩ ⟨_, rfl, rfl⟩
      · have h := h.2 c7
        refine G_iconst pX2_joined_197 ic_1 ?_
        refine G_goto pX2_joined_198 ?_
        exact G_ireturn (len := 1) pX2_joined_202 ⟨hrf, _, rfl, h⟩ ⟨_, rfl, rfl⟩
  · have h := h.2.2.2.2.1 hc
    refine G_tsInE (v := (39 : Int32)) (off := 202) (tgt := 203) pX2_joined_1 hc (by decide) ?_
    refine G_iload_n (i := 1) pX2_joined_203 rfl rfl ?_
    refine G_if_ne pX2_joined_204 (fun c8 => ?_) (fun c8 => ?_)
    · have h := h.1 c8
      refine G_iconst pX2_joined_211 ic_1 ?_
      refine G_goto pX2_joined_212 ?_
      exact G_ireturn (len := 1) pX2_joined_216 ⟨hrf, _, rfl, h⟩ ⟨_, rfl, rfl⟩
    · have h := h.2 c8
      refine G_iload_n (i := 2) pX2_joined_207 rfl rfl ?_
      refine G_if_eq pX2_joined_208 (fun c9 => ?_) (fun c9 => ?_)
      · have h := h.1 c9
        refine G_iconst pX2_joined_215 ic_0 ?_
        exact G_ireturn (len := 1) pX2_joined_216 ⟨hrf, _, rfl, h⟩ ⟨_, rfl, rfl⟩
      · have h := h.2 c9
        refine G_iconst pX2_joined_211 ic_1 ?_
        refine G_goto pX2_joined_212 ?_
        exact G_ireturn (len := 1) pX2_joined_216 ⟨hrf, _, rfl, h⟩ ⟨_, rfl, rfl⟩
  · have h := h.2.2.2.2.2.1 hc
    refine G_tsInE (v := (40 : Int32)) (off := 202) (tgt := 203) pX2_joined_1 hc (by decide) ?_
    refine G_iload_n (i := 1) pX2_joined_203 rfl rfl ?_
    refine G_if_ne pX2_joined_204 (fun c10 => ?_) (fun c10 => ?_)
    · have h := h.1 c10
      refine G_iconst pX2_joined_211 ic_1 ?_
      refine G_goto pX2_joined_212 ?_
      exact G_ireturn (len := 1) pX2_joined_216 ⟨hrf, _, rfl, h⟩ ⟨_, rfl, rfl⟩
    · have h := h.2 c10
      refine G_iload_n (i := 2) pX2_joined_207 rfl rfl ?_
      refine G_if_eq pX2_joined_208 (fun c11 => ?_) (fun c11 => ?_)
      · have h := h.1 c11
        refine G_iconst pX2_joined_215 ic_0 ?_
        exact G_ireturn (len := 1) pX2_joined_216 ⟨hrf, _, rfl, h⟩ ⟨_, rfl, rfl⟩
      · have h := h.2 c11
        refine G_iconst pX2_joined_211 ic_1 ?_
        refine G_goto pX2_joined_212 ?_
        exact G_ireturn (len := 1) pX2_joined_216 ⟨hrf, _, rfl, h⟩ ⟨_, rfl, rfl⟩
  · have h := h.2.2.2.2.2.2.1 hc
    refine G_tsInE (v := (41 : Int32)) (off := 202) (tgt := 203) pX2_joined_1 hc (by decide) ?_
    refine G_iload_n (i := 1) pX2_joined_203 rfl rfl ?_
    refine G_if_ne pX2_joined_204 (fun c12 => ?_) (fun c12 => ?_)
    · have h := h.1 c12
      refine G_iconst pX2_joined_211 ic_1 ?_
      refine G_goto pX2_joined_212 ?_
      exact G_ireturn (len := 1) pX2_joined_216 ⟨hrf, _, rfl, h⟩ ⟨_, rfl, rfl⟩
    · have h := h.2 c12
      refine G_iload_n (i := 2) pX2_joined_207 rfl rfl ?_
      refine G_if_eq pX2_joined_208 (fun c13 => ?_) (fun c13 => ?_)
      · have h := h.1 c13
        refine G_iconst pX2_joined_215 ic_0 ?_
        exact G_ireturn (len := 1) pX2_joined_216 ⟨hrf, _, rfl, h⟩ ⟨_, rfl, rfl⟩
      · have h := h.2 c13
        refine G_iconst pX2_joined_211 ic_1 ?_
        refine G_goto pX2_joined_212 ?_
        exact G_ireturn (len := 1) pX2_joined_216 ⟨hrf, _, rfl, h⟩ ⟨_, rfl, rfl⟩
  · have h := h.2.2.2.2.2.2.2.1 hc
    refine G_tsInE (v := (42 : Int32)) (off := 127) (tgt := 128) pX2_joined_1 hc (by decide) ?_
    refine G_iload_n (i := 1) pX2_joined_128 rfl rfl ?_
    refine G_iload_n (i := 2) pX2_joined_129 rfl rfl ?_
    refine G_imul pX2_joined_130 ?_
    exact G_ireturn (len := 1) pX2_joined_131 ⟨hrf, _, rfl, h⟩ ⟨_, rfl, rfl⟩
  · have h := h.2.2.2.2.2.2.2.2.1 hc
    refine G_tsInE (v := (43 : Int32)) (off := 119) (tgt := 120) pX2_joined_1 hc (by decide) ?_
    refine G_iload_n (i := 1) pX2_joined_120 rfl rfl ?_
    refine G_iload_n (i := 2) pX2_joined_121 rfl rfl ?_
    refine G_iadd pX2_joined_122 ?_
    exact G_ireturn (len := 1) pX2_joined_123 ⟨hrf, _, rfl, h⟩ ⟨_, rfl, rfl⟩
  · have h := h.2.2.2.2.2.2.2.2.2.1 hc
    refine G_tsInE (v := (44 : Int32)) (off := 202) (tgt := 203) pX2_joined_1 hc (by decide) ?_
    refine G_iload_n (i := 1) pX2_joined_203 rfl rfl ?_
    refine G_if_ne pX2_joined_204 (fun c14 => ?_) (fun c14 => ?_)
    · have h := h.1 c14
      refine G_iconst pX2_joined_211 ic_1 ?_
      refine G_goto pX2_joined_212 ?_
      exact G_ireturn (len := 1) pX2_joined_216 ⟨hrf, _, rfl, h⟩ ⟨_, rfl, rfl⟩
    · have h := h.2 c14
      refine G_iload_n (i := 2) pX2_joined_207 rfl rfl ?_
      refine G_if_eq pX2_joined_208 (fun c15 => ?_) (fun c15 => ?_)
      · have h := h.1 c15
        refine G_iconst pX2_joined_215 ic_0 ?_
        exact G_ireturn (len := 1) pX2_joined_216 ⟨hrf, _, rfl, h⟩ ⟨_, rfl, rfl⟩
      · have h := h.2 c15
        refine G_iconst pX2_joined_211 ic_1 ?_
        refine G_goto pX2_joined_212 ?_
        exact G_ireturn (len := 1) pX2_joined_216 ⟨hrf, _, rfl, h⟩ ⟨_, rfl, rfl⟩
  · have h := h.2.2.2.2.2.2.2.2.2.2.1 hc
    refine G_tsInE (v := (45 : Int32)) (off := 123) (tgt := 124) pX2_joined_1 hc (by decide) ?_
    refine G_iload_n (i := 1) pX2_joined_124 rfl rfl ?_
    refine G_iload_n (i := 2) pX2_joined_125 rfl rfl ?_
    refine G_isub pX2_joined_126 ?_
    exact G_ireturn (len := 1) pX2_joined_127 ⟨hrf, _, rfl, h⟩ ⟨_, rfl, rfl⟩
  · have h := h.2.2.2.2.2.2.2.2.2.2.2.1 hc
    refine G_tsInE (v := (46 : Int32)) (off := 202) (tgt := 203) pX2_joined_1 hc (by decide) ?_
    refine G_iload_n (i := 1) pX2_joined_203 rfl rfl ?_
    refine G_if_ne pX2_joined_204 (fun c16 => ?_) (fun c16 => ?_)
    · have h := h.1 c16
      refine G_iconst pX2_joined_211 ic_1 ?_
      refine G_goto pX2_joined_212 ?_
      exact G_ireturn (len := 1) pX2_joined_216 ⟨hrf, _, rfl, h⟩ ⟨_, rfl, rfl⟩
    · have h := h.2 c16
      refine G_iload_n (i := 2) pX2_joined_207 rfl rfl ?_
      refine G_if_eq pX2_joined_208 (fun c17 => ?_) (fun c17 => ?_)
      · have h := h.1 c17
        refine G_iconst pX2_joined_215 ic_0 ?_
        exact G_ireturn (len := 1) pX2_joined_216 ⟨hrf, _, rfl, h⟩ ⟨_, rfl, rfl⟩
      · have h := h.2 c17
        refine G_iconst pX2_joined_211 ic_1 ?_
        refine G_goto pX2_joined_212 ?_
        exact G_ireturn (len := 1) pX2_joined_216 ⟨hrf, _, rfl, h⟩ ⟨_, rfl, rfl⟩
  · have h := h.2.2.2.2.2.2.2.2.2.2.2.2.1 hc
    refine G_tsInE (v := (47 : Int32)) (off := 131) (tgt := 132) pX2_joined_1 hc (by decide) ?_
    refine G_iload_n (i := 2) pX2_joined_132 rfl rfl ?_
    refine G_if_ne pX2_joined_133 (fun c18 => ?_) (fun c18 => ?_)
    · have h := h.1 c18
      refine G_iload_n (i := 1) pX2_joined_140 rfl rfl ?_
      refine G_iload_n (i := 2) pX2_joined_141 rfl rfl ?_
      obtain ⟨hz, h⟩ := h
      refine G_idiv pX2_joined_142 hz ?_
      exact G_ireturn (len := 1) pX2_joined_143 ⟨hrf, _, rfl, h⟩ ⟨_, rfl, rfl⟩
    · have h := h.2 c18
      refine G_iconst pX2_joined_136 ic_0 ?_
      refine G_goto pX2_joined_137 ?_
      exact G_ireturn (len := 1) pX2_joined_143 ⟨hrf, _, rfl, h⟩ ⟨_, rfl, rfl⟩
  · have h := h.2.2.2.2.2.2.2.2.2.2.2.2.2.1 hc
    refine G_tsInE (v := (48 : Int32)) (off := 202) (tgt := 203) pX2_joined_1 hc (by decide) ?_
    refine G_iload_n (i := 1) pX2_joined_203 rfl rfl ?_
    refine G_if_ne pX2_joined_204 (fun c19 => ?_) (fun c19 => ?_)
    · have h := h.1 c19
      refine G_iconst pX2_joined_211 ic_1 ?_
      refine G_goto pX2_joined_212 ?_
      exact G_ireturn (len := 1) pX2_joined_216 ⟨hrf, _, rfl, h⟩ ⟨_, rfl, rfl⟩
    · have h := h.2 c19
      refine G_iload_n (i := 2) pX2_joined_207 rfl rfl ?_
      refine G_if_eq pX2_joined_208 (fun c20 => ?_) (fun c20 => ?_)
      · have h := h.1 c20
        refine G_iconst pX2_joined_215 ic_0 ?_
        exact G_ireturn (len := 1) pX2_joined_216 ⟨hrf, _, rfl, h⟩ ⟨_, rfl, rfl⟩
      · have h := h.2 c20
        refine G_iconst pX2_joined_211 ic_1 ?_
        refine G_goto pX2_joined_212 ?_
        exact G_ireturn (len := 1) pX2_joined_216 ⟨hrf, _, rfl, h⟩ ⟨_, rfl, rfl⟩
  · have h := h.2.2.2.2.2.2.2.2.2.2.2.2.2.2.1 hc
    refine G_tsInE (v := (49 : Int32)) (off := 202) (tgt := 203) pX2_joined_1 hc (by decide) ?_
    refine G_iload_n (i := 1) pX2_joined_203 rfl rfl ?_
    refine G_if_ne pX2_joined_204 (fun c21 => ?_) (fun c21 => ?_)
    · have h := h.1 c21
      refine G_iconst pX2_joined_211 ic_1 ?_
      refine G_goto pX2_joined_212 ?_
      exact G_ireturn (len := 1) pX2_joined_216 ⟨hrf, _, rfl, h⟩ ⟨_, rfl, rfl⟩
    · have h := h.2 c21
      refine G_iload_n (i := 2) pX2_joined_207 rfl rfl ?_
      refine G_if_eq pX2_joined_208 (fun c22 => ?_) (fun c22 => ?_)
      · have h := h.1 c22
        refine G_iconst pX2_joined_215 ic_0 ?_
        exact G_ireturn (len := 1) pX2_joined_216 ⟨hrf, _, rfl, h⟩ ⟨_, rfl, rfl⟩
      · have h := h.2 c22
        refine G_iconst pX2_joined_211 ic_1 ?_
        refine G_goto pX2_joined_212 ?_
        exact G_ireturn (len := 1) pX2_joined_216 ⟨hrf, _, rfl, h⟩ ⟨_, rfl, rfl⟩
  · have h := h.2.2.2.2.2.2.2.2.2.2.2.2.2.2.2.1 hc
    refine G_tsInE (v := (50 : Int32)) (off := 202) (tgt := 203) pX2_joined_1 hc (by decide) ?_
    refine G_iload_n (i := 1) pX2_joined_203 rfl rfl ?_
    refine G_if_ne pX2_joined_204 (fun c23 => ?_) (fun c23 => ?_)
    · have h := h.1 c23
      refine G_iconst pX2_joined_211 ic_1 ?_
      refine G_goto pX2_joined_212 ?_
      exact G_ireturn (len := 1) pX2_joined_216 ⟨hrf, _, rfl, h⟩ ⟨_, rfl, rfl⟩
    · have h := h.2 c23
      refine G_iload_n (i := 2) pX2_joined_207 rfl rfl ?_
      refine G_if_eq pX2_joined_208 (fun c24 => ?_) (fun c24 => ?_)
      · have h := h.1 c24
        refine G_iconst pX2_joined_215 ic_0 ?_
        exact G_ireturn (len := 1) pX2_joined_216 ⟨hrf, _, rfl, h⟩ ⟨_, rfl, rfl⟩
      · have h := h.2 c24
        refine G_iconst pX2_joined_211 ic_1 ?_
        refine G_goto pX2_joined_212 ?_
        exact G_ireturn (len := 1) pX2_joined_216 ⟨hrf, _, rfl, h⟩ ⟨_, rfl, rfl⟩
  · have h := h.2.2.2.2.2.2.2.2.2.2.2.2.2.2.2.2.1 hc
    refine G_tsInE (v := (51 : Int32)) (off := 202) (tgt := 203) pX2_joined_1 hc (by decide) ?_
    refine G_iload_n (i := 1) pX2_joined_203 rfl rfl ?_
    refine G_if_ne pX2_joined_204 (fun c25 => ?_) (fun c25 => ?_)
    · have h := h.1 c25
      refine G_iconst pX2_joined_211 ic_1 ?_
      refine G_goto pX2_joined_212 ?_
      exact G_ireturn (len := 1) pX2_joined_216 ⟨hrf, _, rfl, h⟩ ⟨_, rfl, rfl⟩
    · have h := h.2 c25
      refine G_iload_n (i := 2) pX2_joined_207 rfl rfl ?_
      refine G_if_eq pX2_joined_208 (fun c26 => ?_) (fun c26 => ?_)
      · have h := h.1 c26
        refine G_iconst pX2_joined_215 ic_0 ?_
        exact G_ireturn (len := 1) pX2_joined_216 ⟨hrf, _, rfl, h⟩ ⟨_, rfl, rfl⟩
      · have h := h.2 c26
        refine G_iconst pX2_joined_211 ic_1 ?_
        refine G_goto pX2_joined_212 ?_
        exact G_ireturn (len := 1) pX2_joined_216 ⟨hrf, _, rfl, h⟩ ⟨_, rfl, rfl⟩
  · have h := h.2.2.2.2.2.2.2.2.2.2.2.2.2.2.2.2.2.1 hc
    refine G_tsInE (v := (52 : Int32)) (off := 202) (tgt := 203) pX2_joined_1 hc (by decide) ?_
    refine G_iload_n (i := 1) pX2_joined_203 rfl rfl ?_
    refine G_if_ne pX2_joined_204 (fun c27 => ?_) (fun c27 => ?_)
    · have h := h.1 c27
      refine G_iconst pX2_joined_211 ic_1 ?_
      refine G_goto pX2_joined_212 ?_
      exact G_ireturn (len := 1) pX2_joined_216 ⟨hrf, _, rfl, h⟩ ⟨_, rfl, rfl⟩
    · have h := h.2 c27
      refine G_iload_n (i := 2) pX2_joined_207 rfl rfl ?_
      refine G_if_eq pX2_joined_208 (fun c28 => ?_) (fun c28 => ?_)
      · have h := h.1 c28
        refine G_iconst pX2_joined_215 ic_0 ?_
        exact G_ireturn (len := 1) pX2_joined_216 ⟨hrf, _, rfl, h⟩ ⟨_, rfl, rfl⟩
      · have h := h.2 c28
        refine G_iconst pX2_joined_211 ic_1 ?_
        refine G_goto pX2_joined_212 ?_
        exact G_ireturn (len := 1) pX2_joined_216 ⟨hrf, _, rfl, h⟩ ⟨_, rfl, rfl⟩
  · have h := h.2.2.2.2.2.2.2.2.2.2.2.2.2.2.2.2.2.2.1 hc
    refine G_tsInE (v := (53 : Int32)) (off := 202) (tgt := 203) pX2_joined_1 hc (by decide) ?_
    refine G_iload_n (i := 1) pX2_joined_203 rfl rfl ?_
    refine G_if_ne pX2_joined_204 (fun c29 => ?_) (fun c29 => ?_)
    · have h := h.1 c29
      refine G_iconst pX2_joined_211 ic_1 ?_
      refine G_goto pX2_joined_212 ?_
      exact G_ireturn (len := 1) pX2_joined_216 ⟨hrf, _, rfl, h⟩ ⟨_, rfl, rfl⟩
    · have h := h.2 c29
      refine G_iload_n (i := 2) pX2_joined_207 rfl rfl ?_
      refine G_if_eq pX2_joined_208 (fun c30 => ?_) (fun c30 => ?_)
      · have h := h.1 c30
        refine G_iconst pX2_joined_215 ic_0 ?_
        exact G_ireturn (len := 1) pX2_joined_216 ⟨hrf, _, rfl, h⟩ ⟨_, rfl, rfl⟩
      · have h := h.2 c30
        refine G_iconst pX2_joined_211 ic_1 ?_
        refine G_goto pX2_joined_212 ?_
        exact G_ireturn (len := 1) pX2_joined_216 ⟨hrf, _, rfl, h⟩ ⟨_, rfl, rfl⟩
  · have h := h.2.2.2.2.2.2.2.2.2.2.2.2.2.2.2.2.2.2.2.1 hc
    refine G_tsInE (v := (54 : Int32)) (off := 202) (tgt := 203) pX2_joined_1 hc (by decide) ?_
    refine G_iload_n (i := 1) pX2_joined_203 rfl rfl ?_
    refine G_if_ne pX2_joined_204 (fun c31 => ?_) (fun c31 => ?_)
    · have h := h.1 c31
      refine G_iconst pX2_joined_211 ic_1 ?_
      refine G_goto pX2_joined_212 ?_
      exact G_ireturn (len := 1) pX2_joined_216 ⟨hrf, _, rfl, h⟩ ⟨_, rfl, rfl⟩
    · have h := h.2 c31
      refine G_iload_n (i := 2) pX2_joined_207 rfl rfl ?_
      refine G_if_eq pX2_joined_208 (fun c32 => ?_) (fun c32 => ?_)
      · have h := h.1 c32
        refine G_iconst pX2_joined_215 ic_0 ?_
        exact G_ireturn (len := 1) pX2_joined_216 ⟨hrf, _, rfl, h⟩ ⟨_, rfl, rfl⟩
      · have h := h.2 c32
        refine G_iconst pX2_joined_211 ic_1 ?_
        refine G_goto pX2_joined_212 ?_
        exact G_ireturn (len := 1) pX2_joined_216 ⟨hrf, _, rfl, h⟩ ⟨_, rfl, rfl⟩
  · have h := h.2.2.2.2.2.2.2.2.2.2.2.2.2.2.2.2.2.2.2.2.1 hc
    refine G_tsInE (v := (55 : Int32)) (off := 202) (tgt := 203) pX2_joined_1 hc (by decide) ?_
    refine G_iload_n (i := 1) pX2_joined_203 rfl rfl ?_
    refine G_if_ne pX2_joined_204 (fun c33 => ?_) (fun c33 => ?_)
    · have h := h.1 c33
      refine G_iconst pX2_joined_211 ic_1 ?_
      refine G_goto pX2_joined_212 ?_
      exact G_ireturn (len := 1) pX2_joined_216 ⟨hrf, _, rfl, h⟩ ⟨_, rfl, rfl⟩
    · have h := h.2 c33
      refine G_iload_n (i := 2) pX2_joined_207 rfl rfl ?_
      refine G_if_eq pX2_joined_208 (fun c34 => ?_) (fun c34 => ?_)
      · have h := h.1 c34
        refine G_iconst pX2_joined_215 ic_0 ?_
        exact G_ireturn (len := 1) pX2_joined_216 ⟨hrf, _, rfl, h⟩ ⟨_, rfl, rfl⟩
      · have h := h.2 c34
        refine G_iconst pX2_joined_211 ic_1 ?_
        refine G_goto pX2_joined_212 ?_
        exact G_ireturn (len := 1) pX2_joined_216 ⟨hrf, _, rfl, h⟩ ⟨_, rfl, rfl⟩
  · have h := h.2.2.2.2.2.2.2.2.2.2.2.2.2.2.2.2.2.2.2.2.2.1 hc
    refine G_tsInE (v := (56 : Int32)) (off := 202) (tgt := 203) pX2_joined_1 hc (by decide) ?_
    refine G_iload_n (i := 1) pX2_joined_203 rfl rfl ?_
    refine G_if_ne pX2_joined_204 (fun c35 => ?_) (fun c35 => ?_)
    · have h := h.1 c35
      refine G_iconst pX2_joined_211 ic_1 ?_
      refine G_goto pX2_joined_212 ?_
      exact G_ireturn (len := 1) pX2_joined_216 ⟨hrf, _, rfl, h⟩ ⟨_, rfl, rfl⟩
    · have h := h.2 c35
      refine G_iload_n (i := 2) pX2_joined_207 rfl rfl ?_
      refine G_if_eq pX2_joined_208 (fun c36 => ?_) (fun c36 => ?_)
      · have h := h.1 c36
        refine G_iconst pX2_joined_215 ic_0 ?_
        exact G_ireturn (len := 1) pX2_joined_216 ⟨hrf, _, rfl, h⟩ ⟨_, rfl, rfl⟩
      · have h := h.2 c36
        refine G_iconst pX2_joined_211 ic_1 ?_
        refine G_goto pX2_joined_212 ?_
        exact G_ireturn (len := 1) pX2_joined_216 ⟨hrf, _, rfl, h⟩ ⟨_, rfl, rfl⟩
  · have h := h.2.2.2.2.2.2.2.2.2.2.2.2.2.2.2.2.2.2.2.2.2.2.1 hc
    refine G_tsInE (v := (57 : Int32)) (off := 202) (tgt := 203) pX2_joined_1 hc (by decide) ?_
    refine G_iload_n (i := 1) pX2_joined_203 rfl rfl ?_
    refine G_if_ne pX2_joined_204 (fun c37 => ?_) (fun c37 => ?_)
    · have h := h.1 c37
      refine G_iconst pX2_joined_211 ic_1 ?_
      refine G_goto pX2_joined_212 ?_
      exact G_ireturn (len := 1) pX2_joined_216 ⟨hrf, _, rfl, h⟩ ⟨_, rfl, rfl⟩
    · have h := h.2 c37
      refine G_iload_n (i := 2) pX2_joined_207 rfl rfl ?_
      refine G_if_eq pX2_joined_208 (fun c38 => ?_) (fun c38 => ?_)
      · have h := h.1 c38
        refine G_iconst pX2_joined_215 ic_0 ?_
        exact G_ireturn (len := 1) pX2_joined_216 ⟨hrf, _, rfl, h⟩ ⟨_, rfl, rfl⟩
      · have h := h.2 c38
        refine G_iconst pX2_joined_211 ic_1 ?_
        refine G_goto pX2_joined_212 ?_
        exact G_ireturn (len := 1) pX2_joined_216 ⟨hrf, _, rfl, h⟩ ⟨_, rfl, rfl⟩
  · have h := h.2.2.2.2.2.2.2.2.2.2.2.2.2.2.2.2.2.2.2.2.2.2.2.1 hc
    refine G_tsInE (v := (58 : Int32)) (off := 202) (tgt := 203) pX2_joined_1 hc (by decide) ?_
    refine G_iload_n (i := 1) pX2_joined_203 rfl rfl ?_
    refine G_if_ne pX2_joined_204 (fun c39 => ?_) (fun c39 => ?_)
    · have h := h.1 c39
      refine G_iconst pX2_joined_211 ic_1 ?_
      refine G_goto pX2_joined_212 ?_
      exact G_ireturn (len := 1) pX2_joined_216 ⟨hrf, _, rfl, h⟩ ⟨_, rfl, rfl⟩
    · have h := h.2 c39
      refine G_iload_n (i := 2) pX2_joined_207 rfl rfl ?_
      refine G_if_eq pX2_joined_208 (fun c40 => ?_) (fun c40 => ?_)
      · have h := h.1 c40
        refine G_iconst pX2_joined_215 ic_0 ?_
        exact G_ireturn (len := 1) pX2_joined_216 ⟨hrf, _, rfl, h⟩ ⟨_, rfl, rfl⟩
      · have h := h.2 c40
        refine G_iconst pX2_joined_211 ic_1 ?_
        refine G_goto pX2_joined_212 ?_
        exact G_ireturn (len := 1) pX2_joined_216 ⟨hrf, _, rfl, h⟩ ⟨_, rfl, rfl⟩
  · have h := h.2.2.2.2.2.2.2.2.2.2.2.2.2.2.2.2.2.2.2.2.2.2.2.2.1 hc
    refine G_tsInE (v := (59 : Int32)) (off := 202) (tgt := 203) pX2_joined_1 hc (by decide) ?_
    refine G_iload_n (i := 1) pX2_joined_203 rfl rfl ?_
    refine G_if_ne pX2_joined_204 (fun c41 => ?_) (fun c41 => ?_)
    · have h := h.1 c41
      refine G_iconst pX2_joined_211 ic_1 ?_
      refine G_goto pX2_joined_212 ?_
      exact G_ireturn (len := 1) pX2_joined_216 ⟨hrf, _, rfl, h⟩ ⟨_, rfl, rfl⟩
    · have h := h.2 c41
      refine G_iload_n (i := 2) pX2_joined_207 rfl rfl ?_
      refine G_if_eq pX2_joined_208 (fun c42 => ?_) (fun c42 => ?_)
      · have h := h.1 c42
        refine G_iconst pX2_joined_215 ic_0 ?_
        exact G_ireturn (len := 1) pX2_joined_216 ⟨hrf, _, rfl, h⟩ ⟨_, rfl, rfl⟩
      · have h := h.2 c42
        refine G_iconst pX2_joined_211 ic_1 ?_
        refine G_goto pX2_joined_212 ?_
        exact G_ireturn (len := 1) pX2_joined_216 ⟨hrf, _, rfl, h⟩ ⟨_, rfl, rfl⟩
  · have h := h.2.2.2.2.2.2.2.2.2.2.2.2.2.2.2.2.2.2.2.2.2.2.2.2.2.1 hc
    refine G_tsInE (v := (60 : Int32)) (off := 155) (tgt := 156) pX2_joined_1 hc (by decide) ?_
    refine G_iload_n (i := 1) pX2_joined_156 rfl rfl ?_
    refine G_iload_n (i := 2) pX2_joined_157 rfl rfl ?_
    refine G_icmp_ge pX2_joined_158 (fun c43 => ?_) (fun c43 => ?_)
    · have h := h.1 c43
      refine G_iconst pX2_joined_165 ic_0 ?_
      exact G_ireturn (len := 1) pX2_joined_166 ⟨hrf, _, rfl, h⟩ ⟨_, rfl, rfl⟩
    · have h := h.2 c43
      refine G_iconst pX2_joined_161 ic_1 ?_
      refine G_goto pX2_joined_162 ?_
      exact G_ireturn (len := 1) pX2_joined_166 ⟨hrf, _, rfl, h⟩ ⟨_, rfl, rfl⟩
  · have h := h.2.2.2.2.2.2.2.2.2.2.2.2.2.2.2.2.2.2.2.2.2.2.2.2.2.2.1 hc
    refine G_tsInE (v := (61 : Int32)) (off := 166) (tgt := 167) pX2_joined_1 hc (by decide) ?_
    refine G_iload_n (i := 1) pX2_joined_167 rfl rfl ?_
    refine G_iload_n (i := 2) pX2_joined_168 rfl rfl ?_
    refine G_icmp_ne pX2_joined_169 (fun c44 => ?_) (fun c44 => ?_)
    · have h := h.1 c44
      refine G_iconst pX2_joined_176 ic_0 ?_
      exact G_ireturn (len := 1) pX2_joined_177 ⟨hrf, _, rfl, h⟩ ⟨_, rfl, rfl⟩
    · have h := h.2 c44
      refine G_iconst pX2_joined_172 ic_1 ?_
      refine G_goto pX2_joined_173 ?_
      exact G_ireturn (len := 1) pX2_joined_177 ⟨hrf, _, rfl, h⟩ ⟨_, rfl, rfl⟩
  · have h := h.2.2.2.2.2.2.2.2.2.2.2.2.2.2.2.2.2.2.2.2.2.2.2.2.2.2.2 hc
    refine G_tsInE (v := (62 : Int32)) (off := 177) (tgt := 178) pX2_joined_1 hc (by decide) ?_
    refine G_iload_n (i := 1) pX2_joined_178 rfl rfl ?_
    refine G_iload_n (i := 2) pX2_joined_179 rfl rfl ?_
    refine G_icmp_le pX2_joined_180 (fun c45 => ?_) (fun c45 => ?_)
    · have h := h.1 c45
      refine G_iconst pX2_joined_187 ic_0 ?_
      exact G_ireturn (len := 1) pX2_joined_188 ⟨hrf, _, rfl, h⟩ ⟨_, rfl, rfl⟩
    · have h := h.2 c45
      refine G_iconst pX2_joined_183 ic_1 ?_
      refine G_goto pX2_joined_184 ?_
      exact G_ireturn (len := 1) pX2_joined_188 ⟨hrf, _, rfl, h⟩ ⟨_, rfl, rfl⟩
def B_X2_worked_98 (q0 : Nat) (X6 : Int32 × Int32 × MMt → Prop) (x0 : Nat) (x1 : Int32) (x2 : Int32) (x3 : Int32) (x4 : Int32) (x5 : Int32) (s0 : Int32) (s1 : Int32) (mem : MMt) (Q : Int32 → MMt → Prop) : Prop := (vp_in s1 50 ∧ ∀ m1 : MMt, m1 = up2 mem (x0 + 2) s1.toNatClampNeg s0 → (∀ v3 : Int32, v3 = x5 + (1 : Int32) → X6 (x4, v3, m1)))
set_option maxRecDepth 4000 in
theorem gB_X2_worked_98 {sx : Nat × (Nat → Int32)} {X6 : Int32 × Int32 × MMt → Prop} {rf : RFt} {Q : Int32 → MMt → Prop} (q0 : Nat) (hq0 : IS 2 q0) (hrf : RFok rf) (x0 : Nat) (x1 : Int32) (x2 : Int32) (x3 : Int32) (x4 : Int32) (x5 : Int32) (s0 : Int32) (s1 : Int32) (hx0 : IS 2 x0) (hX6 : ∀ (rf : RFt) (x4 : Int32) (x5 : Int32) (mem : MMt), RFok rf → X6 (x4, x5, mem) → G sx yX2_worked cX2_worked 7 (some .int) 2 NX NX (QQi (RFok) Q) NX rf mem 6 [some (.ref x0), some (.int x1), some (.int x2), some (.int x3), some (.int x4), some (.int x5), none] []) (mem : MMt) (h : B_X2_worked_98 q0 X6 x0 x1 x2 x3 x4 x5 s0 s1 mem Q) : G sx yX2_worked cX2_worked 7 (some .int) 2 NX NX (QQi (RFok) Q) NX rf mem 98 [some (.ref x0), some (.int x1), some (.int x2), some (.int x3), some (.int x4), some (.int x5), none] [.int s0, .int s1, .ref (x0 + 2)] := by
  unfold B_X2_worked_98 at h
  obtain ⟨hi2, h⟩ := h
  obtain ⟨m1, em1⟩ : ∃ z : MMt, z = up2 mem (x0 + 2) s1.toNatClampNeg s0 := ⟨_, rfl⟩
  have h := h m1 em1
  refine G_iastW pX2_worked_98 (lay_2_3 hx0).2.1 (lay_2_3 hx0).1 hi2 em1.symm ?_
  refine G_goto pX2_worked_99 ?_
  obtain ⟨v3, e3⟩ : ∃ z : Int32, z = x5 + (1 : Int32) := ⟨_, rfl⟩
  have h := h v3 e3
  refine G_iincW (L' := [some (.ref x0), some (.int x1), some (.int x2), some (.int x3), some (.int x4), some (.int v3), none]) pX2_worked_145 rfl ic_1 e3.symm rfl ?_
  refine G_goto pX2_worked_148 ?_
  exact hX6 _ _ _ _ hrf h
def B_X2_worked_102 (q0 : Nat) (X6 : Int32 × Int32 × MMt → Prop) (x0 : Nat) (x1 : Int32) (x2 : Int32) (x3 : Int32) (x4 : Int32) (x5 : Int32) (x6 : Int32) (mem : MMt) (Q : Int32 → MMt → Prop) : Prop := ((x4 ≤ (1 : Int32) → (∀ v2 : Int32, v2 = x5 + (1 : Int32) → X6 (x4, v2, mem))) ∧ (¬ x4 ≤ (1 : Int32) → (∀ v3 : Int32, v3 = x4 + (-1 : Int32) → (vp_in (v3 - (1 : Int32)) 50 ∧ (vp_in v3 50 ∧ L_X2_joined (x6 - (20000 : Int32)) (mem (x0 + 2) (v3 - (1 : Int32)).toNatClampNeg) (mem (x0 + 2) v3.toNatClampNeg) mem (fun r7 m6 => (vp_in (v3 - (1 : Int32)) 50 ∧ ∀ m8 : MMt, m8 = up2 m6 (x0 + 2) (v3 - (1 : Int32)).toNatClampNeg r7 → (∀ v10 : Int32, v10 = x5 + (1 : Int32) → X6 (v3, v10, m8)))))))))
set_option maxRecDepth 4000 in
theorem gB_X2_worked_102 {sx : Nat × (Nat → Int32)} {X6 : Int32 × Int32 × MMt → Prop} {rf : RFt} {Q : Int32 → MMt → Prop} (q0 : Nat) (hq0 : IS 2 q0) (hrf : RFok rf) (x0 : Nat) (x1 : Int32) (x2 : Int32) (x3 : Int32) (x4 : Int32) (x5 : Int32) (x6 : Int32) (hx0 : IS 2 x0) (hX6 : ∀ (rf : RFt) (x4 : Int32) (x5 : Int32) (mem : MMt), RFok rf → X6 (x4, x5, mem) → G sx yX2_worked cX2_worked 7 (some .int) 2 NX NX (QQi (RFok) Q) NX rf mem 6 [some (.ref x0), some (.int x1), some (.int x2), some (.int x3), some (.int x4), some (.int x5), none] []) (mem : MMt) (h : B_X2_worked_102 q0 X6 x0 x1 x2 x3 x4 x5 x6 mem Q) : G sx yX2_worked cX2_worked 7 (some .int) 2 NX NX (QQi (RFok) Q) NX rf mem 102 [some (.ref x0), some (.int x1), some (.int x2), some (.int x3), some (.int x4), some (.int x5), some (.int x6)] [] := by
  unfold B_X2_worked_102 at h
  refine G_iload (i := 4) pX2_worked_102 rfl ?_
  refine G_iconst pX2_worked_104 ic_1 ?_
  refine G_icmp_le pX2_worked_105 (fun c1 => ?_) (fun c1 => ?_)
  · have h := h.1 c1
    obtain ⟨v2, e2⟩ : ∃ z : Int32, z = x5 + (1 : Int32) := ⟨_, rfl⟩
    have h := h v2 e2
    refine G_iincW (L' := [some (.ref x0), some (.int x1), some (.int x2), some (.int x3), some (.int x4), some (.int v2), some (.int x6)]) pX2_worked_145 rfl ic_1 e2.symm rfl ?_
    refine G_goto pX2_worked_148 ?_
    refine G_wk (L2 := [some (.ref x0), some (.int x1), some (.int x2), some (.int x3), some (.int x4), some (.int v2), none]) ⟨Or.inr rfl, Or.inr rfl, Or.inr rfl, Or.inr rfl, Or.inr rfl, Or.inr rfl, Or.inl rfl, trivial⟩ ?_
    exact hX6 _ _ _ _ hrf h
  · have h := h.2 c1
    obtain ⟨v3, e3⟩ : ∃ z : Int32, z = x4 + (-1 : Int32) := ⟨_, rfl⟩
    have h := h v3 e3
    refine G_iincW (L' := [some (.ref x0), some (.int x1), some (.int x2), some (.int x3), some (.int v3), some (.int x5), some (.int x6)]) pX2_worked_108 rfl ic_m1 e3.symm rfl ?_
    refine G_aload_n (i := 0) pX2_worked_111 rfl rfl ?_
    refine G_getR (ci := 2) (j := 3) (N := 4) pX2_worked_112 fl_RX2_15 rfl hx0.2 hx0.sh2 (by decide) rfl ((lay_2_3 hx0).2.2 hrf) ?_
    refine G_iload (i := 4) pX2_worked_115 rfl ?_
    refine G_iconst pX2_worked_117 ic_1 ?_
    refine G_isub pX2_worked_118 ?_
    refine G_iload (i := 6) pX2_worked_119 rfl ?_
    refine G_sipush pX2_worked_121 si_20000 ?_
    refine G_isub pX2_worked_124 ?_
    refine G_aload_n (i := 0) pX2_worked_125 rfl rfl ?_
    refine G_getR (ci := 2) (j := 3) (N := 4) pX2_worked_126 fl_RX2_15 rfl hx0.2 hx0.sh2 (by decide) rfl ((lay_2_3 hx0).2.2 hrf) ?_
    refine G_iload (i := 4) pX2_worked_129 rfl ?_
    refine G_iconst pX2_worked_131 ic_1 ?_
    refine G_isub pX2_worked_132 ?_
    obtain ⟨hi4, h⟩ := h
    refine G_iald pX2_worked_133 (lay_2_3 hx0).2.1 (lay_2_3 hx0).1 hi4 ?_
    refine G_aload_n (i := 0) pX2_worked_134 rfl rfl ?_
    refine G_getR (ci := 2) (j := 3) (N := 4) pX2_worked_135 fl_RX2_15 rfl hx0.2 hx0.sh2 (by decide) rfl ((lay_2_3 hx0).2.2 hrf) ?_
    refine G_iload (i := 4) pX2_worked_138 rfl ?_
    obtain ⟨hi5, h⟩ := h
    refine G_iald pX2_worked_140 (lay_2_3 hx0).2.1 (lay_2_3 hx0).1 hi5 ?_
    refine G_callS3i pX2_worked_141 (g_X2_joined (x6 - (20000 : Int32)) (mem (x0 + 2) (v3 - (1 : Int32)).toNatClampNeg) (mem (x0 + 2) v3.toNatClampNeg) hrf _ h) mS_X2_joined ml_RX2_42 (by decide) ⟨Nat.le_refl _, Nat.le_refl _, Nat.le_refl _⟩ (Nat.le_of_ble_eq_true rfl) ?_
    intro r7 rf m6 hrf h hr7
    obtain ⟨hi9, h⟩ := h
    obtain ⟨m8, em8⟩ : ∃ z : MMt, z = up2 m6 (x0 + 2) (v3 - (1 : Int32)).toNatClampNeg r7 := ⟨_, rfl⟩
    have h := h m8 em8
    refine G_iastW pX2_worked_144 (lay_2_3 hx0).2.1 (lay_2_3 hx0).1 hi9 em8.symm ?_
    obtain ⟨v10, e10⟩ : ∃ z : Int32, z = x5 + (1 : Int32) := ⟨_, rfl⟩
    have h := h v10 e10
    refine G_iincW (L' := [some (.ref x0), some (.int x1), some (.int x2), some (.int x3), some (.int v3), some (.int v10), some (.int x6)]) pX2_worked_145 rfl ic_1 e10.symm rfl ?_
    refine G_goto pX2_worked_148 ?_
    refine G_wk (L2 := [some (.ref x0), some (.int x1), some (.int x2), some (.int x3), some (.int v3), some (.int v10), none]) ⟨Or.inr rfl, Or.inr rfl, Or.inr rfl, Or.inr rfl, Or.inr rfl, Or.inr rfl, Or.inl rfl, trivial⟩ ?_
    exact hX6 _ _ _ _ hrf h
def B_X2_worked_60 (q0 : Nat) (X6 : Int32 × Int32 × MMt → Prop) (x0 : Nat) (x1 : Int32) (x2 : Int32) (x3 : Int32) (x4 : Int32) (x5 : Int32) (x6 : Int32) (mem : MMt) (Q : Int32 → MMt → Prop) : Prop := ((¬ x6 = (20033 : Int32) → B_X2_worked_102 q0 X6 x0 x1 x2 x3 x4 x5 x6 mem Q) ∧ (x6 = (20033 : Int32) → ((x4 ≤ 0 → B_X2_worked_102 q0 X6 x0 x1 x2 x3 x4 x5 x6 mem Q) ∧ (¬ x4 ≤ 0 → (vp_in (x4 - (1 : Int32)) 50 ∧ ((¬ (mem (x0 + 2) (x4 - (1 : Int32)).toNatClampNeg) = 0 → B_X2_worked_98 q0 X6 x0 x1 x2 x3 x4 x5 (0 : Int32) (x4 - (1 : Int32)) mem Q) ∧ ((mem (x0 + 2) (x4 - (1 : Int32)).toNatClampNeg) = 0 → B_X2_worked_98 q0 X6 x0 x1 x2 x3 x4 x5 (1 : Int32) (x4 - (1 : Int32)) mem Q)))))))
set_option maxRecDepth 4000 in
theorem gB_X2_worked_60 {sx : Nat × (Nat → Int32)} {X6 : Int32 × Int32 × MMt → Prop} {rf : RFt} {Q : Int32 → MMt → Prop} (q0 : Nat) (hq0 : IS 2 q0) (hrf : RFok rf) (x0 : Nat) (x1 : Int32) (x2 : Int32) (x3 : Int32) (x4 : Int32) (x5 : Int32) (x6 : Int32) (hx0 : IS 2 x0) (hX6 : ∀ (rf : RFt) (x4 : Int32) (x5 : Int32) (mem : MMt), RFok rf → X6 (x4, x5, mem) → G sx yX2_worked cX2_worked 7 (some .int) 2 NX NX (QQi (RFok) Q) NX rf mem 6 [some (.ref x0), some (.int x1), some (.int x2), some (.int x3), some (.int x4), some (.int x5), none] []) (mem : MMt) (h : B_X2_worked_60 q0 X6 x0 x1 x2 x3 x4 x5 x6 mem Q) : G sx yX2_worked cX2_worked 7 (some .int) 2 NX NX (QQi (RFok) Q) NX rf mem 60 [some (.ref x0), some (.int x1), some (.int x2), some (.int x3), some (.int x4), some (.int x5), some (.int x6)] [] := by
  unfold B_X2_worked_60 at h
  refine G_iload (i := 6) pX2_worked_60 rfl ?_
  refine G_sipush pX2_worked_62 si_20033 ?_
  refine G_icmp_ne pX2_worked_65 (fun c1 => ?_) (fun c1 => ?_)
  · have h := h.1 c1
    exact gB_X2_worked_102 q0 hq0 hrf x0 x1 x2 x3 x4 x5 x6 hx0 hX6 _ h
  · have h := h.2 c1
    refine G_iload (i := 4) pX2_worked_68 rfl ?_
    refine G_if_le pX2_worked_70 (fun c2 => ?_) (fun c2 => ?_)
    · have h := h.1 c2
      exact gB_X2_worked_102 q0 hq0 hrf x0 x1 x2 x3 x4 x5 x6 hx0 hX6 _ h
    · have h := h.2 c2
      refine G_aload_n (i := 0) pX2_worked_73 rfl rfl ?_
      refine G_getR (ci := 2) (j := 3) (N := 4) pX2_worked_74 fl_RX2_15 rfl hx0.2 hx0.sh2 (by decide) rfl ((lay_2_3 hx0).2.2 hrf) ?_
      refine G_iload (i := 4) pX2_worked_77 rfl ?_
      refine G_iconst pX2_worked_79 ic_1 ?_
      refine G_isub pX2_worked_80 ?_
      refine G_aload_n (i := 0) pX2_worked_81 rfl rfl ?_
      refine G_getR (ci := 2) (j := 3) (N := 4) pX2_worked_82 fl_RX2_15 rfl hx0.2 hx0.sh2 (by decide) rfl ((lay_2_3 hx0).2.2 hrf) ?_
      refine G_iload (i := 4) pX2_worked_85 rfl ?_
      refine G_iconst pX2_worked_87 ic_1 ?_
      refine G_isub pX2_worked_88 ?_
      obtain ⟨hi3, h⟩ := h
      refine G_iald pX2_worked_89 (lay_2_3 hx0).2.1 (lay_2_3 hx0).1 hi3 ?_
      refine G_if_ne pX2_worked_90 (fun c4 => ?_) (fun c4 => ?_)
      · have h := h.1 c4
        refine G_iconst pX2_worked_97 ic_0 ?_
        refine G_wk (L2 := [some (.ref x0), some (.int x1), some (.int x2), some (.int x3), some (.int x4), some (.int x5), none]) ⟨Or.inr rfl, Or.inr rfl, Or.inr rfl, Or.inr rfl, Or.inr rfl, Or.inr rfl, Or.inl rfl, trivial⟩ ?_
        exact gB_X2_worked_98 q0 hq0 hrf x0 x1 x2 x3 x4 x5 (0 : Int32) (x4 - (1 : Int32)) hx0 hX6 _ h
      · have h := h.2 c4
        refine G_iconst pX2_worked_93 ic_1 ?_
        refine G_goto pX2_worked_94 ?_
        refine G_wk (L2 := [some (.ref x0), some (.int x1), some (.int x2), some (.int x3), some (.int x4), some (.int x5), none]) ⟨Or.inr rfl, Or.inr rfl, Or.inr rfl, Or.inr rfl, Or.inr rfl, Or.inr rfl, Or.inl rfl, trivial⟩ ?_
        exact gB_X2_worked_98 q0 hq0 hrf x0 x1 x2 x3 x4 x5 (1 : Int32) (x4 - (1 : Int32)) hx0 hX6 _ h
def B_X2_worked_6 (q0 : Nat) (x0 : Nat) (x1 : Int32) (x2 : Int32) (x3 : Int32) (x4 : Int32) (x5 : Int32) (mem : MMt) (Q : Int32 → MMt → Prop) : Prop := LOOP (σ := Int32 × Int32 × MMt) (fun X6 z => (fun (x4 : Int32) (x5 : Int32) (mem : MMt) => (((mem x0 2) ≤ x5 → Q (mem (x0 + 2) 0) mem) ∧ (¬ (mem x0 2) ≤ x5 → (vp_in x5 50 ∧ (∀ v3 : Int32, v3 = mem (x0 + 1) x5.toNatClampNeg → (((20000 : Int32) ≤ v3 → B_X2_worked_60 q0 X6 x0 x1 x2 x3 x4 x5 v3 mem Q) ∧ (¬ (20000 : Int32) ≤ v3 → (((50 : Int32) ≤ x4 → B_X2_worked_60 q0 X6 x0 x1 x2 x3 x4 x5 v3 mem Q) ∧ (¬ (50 : Int32) ≤ x4 → L_X2_leaf v3 x1 x2 x3 mem (fun r7 m6 => (vp_in x4 50 ∧ ∀ m8 : MMt, m8 = up2 m6 (x0 + 2) x4.toNatClampNeg r7 → (∀ v10 : Int32, v10 = x4 + (1 : Int32) → (∀ v11 : Int32, v11 = x5 + (1 : Int32) → X6 (v10, v11, m8)))))))))))))) z.1 z.2.1 z.2.2) (x4, x5, mem)
set_option maxRecDepth 4000 in
theorem gB_X2_worked_6 {sx : Nat × (Nat → Int32)} {rf : RFt} {Q : Int32 → MMt → Prop} (q0 : Nat) (hq0 : IS 2 q0) (hrf : RFok rf) (x0 : Nat) (x1 : Int32) (x2 : Int32) (x3 : Int32) (x4 : Int32) (x5 : Int32) (hx0 : IS 2 x0) (mem : MMt) (h : B_X2_worked_6 q0 x0 x1 x2 x3 x4 x5 mem Q) : G sx yX2_worked cX2_worked 7 (some .int) 2 NX NX (QQi (RFok) Q) NX rf mem 6 [some (.ref x0), some (.int x1), some (.int x2), some (.int x3), some (.int x4), some (.int x5), none] [] := by
  obtain ⟨I, ⟨n, h0⟩, hI⟩ := h
  have key : ∀ (n : Nat) (rf : RFt) (x4 : Int32) (x5 : Int32) (mem : MMt), RFok rf → I n (x4, x5, mem) → G sx yX2_worked cX2_worked 7 (some .int) 2 NX NX (QQi (RFok) Q) NX rf mem 6 [some (.ref x0), some (.int x1), some (.int x2), some (.int x3), some (.int x4), some (.int x5), none] [] := by
    intro n
    induction n using Nat.strongRecOn with
    | _ n ih =>
    intro rf x4 x5 mem hrf h0
    have hX6 : ∀ (rf : RFt) (x4 : Int32) (x5 : Int32) (mem : MMt), RFok rf → (fun s' => ∃ m, m < n ∧ I m s') (x4, x5, mem) → G sx yX2_worked cX2_worked 7 (some .int) 2 NX NX (QQi (RFok) Q) NX rf mem 6 [some (.ref x0), some (.int x1), some (.int x2), some (.int x3), some (.int x4), some (.int x5), none] [] := fun rf x4 x5 mem hrf ⟨m, hm, hi⟩ => ih m hm rf x4 x5 mem hrf hi
    have h := hI n _ h0
    clear ih h0
    try dsimp only at h
    refine G_iload (i := 5) pX2_worked_6 rfl ?_
    refine G_aload_n (i := 0) pX2_worked_8 rfl rfl ?_
    refine G_getI (ci := 2) (j := 2) (N := 4) pX2_worked_9 fl_RX2_26 rfl hx0.2 hx0.sh2 (by decide) rfl ?_
    refine G_icmp_ge pX2_worked_12 (fun c1 => ?_) (fun c1 => ?_)
    · have h := h.1 c1
      refine G_aload_n (i := 0) pX2_worked_151 rfl rfl ?_
      refine G_getR (ci := 2) (j := 3) (N := 4) pX2_worked_152 fl_RX2_15 rfl hx0.2 hx0.sh2 (by decide) rfl ((lay_2_3 hx0).2.2 hrf) ?_
      refine G_iconst pX2_worked_155 ic_0 ?_
      refine G_ialdL (j := 0) pX2_worked_156 (lay_2_3 hx0).2.1 (lay_2_3 hx0).1 (vpl (by decide)) (by decide) ?_
      exact G_ireturn (len := 1) pX2_worked_157 ⟨hrf, _, rfl, h⟩ ⟨_, rfl, rfl⟩
    · have h := h.2 c1
      refine G_aload_n (i := 0) pX2_worked_15 rfl rfl ?_
      refine G_getR (ci := 2) (j := 1) (N := 4) pX2_worked_16 fl_RX2_9 rfl hx0.2 hx0.sh2 (by decide) rfl ((lay_2_1 hx0).2.2 hrf) ?_
      refine G_iload (i := 5) pX2_worked_19 rfl ?_
      obtain ⟨hi2, h⟩ := h
      refine G_iald pX2_worked_21 (lay_2_1 hx0).2.1 (lay_2_1 hx0).1 hi2 ?_
      obtain ⟨v3, e3⟩ : ∃ z : Int32, z = mem (x0 + 1) x5.toNatClampNeg := ⟨_, rfl⟩
      have h := h v3 e3
      refine G_istoreW (L' := [some (.ref x0), some (.int x1), some (.int x2), some (.int x3), some (.int x4), some (.int x5), some (.int v3)]) pX2_worked_22 e3.symm rfl ?_
      refine G_iload (i := 6) pX2_worked_24 rfl ?_
      refine G_sipush pX2_worked_26 si_20000 ?_
      refine G_icmp_ge pX2_worked_29 (fun c4 => ?_) (fun c4 => ?_)
      · have h := h.1 c4
        exact gB_X2_worked_60 q0 hq0 hrf x0 x1 x2 x3 x4 x5 v3 hx0 hX6 _ h
      · have h := h.2 c4
        refine G_iload (i := 4) pX2_worked_32 rfl ?_
        refine G_bipush pX2_worked_34 bi_50 ?_
        refine G_icmp_ge pX2_worked_36 (fun c5 => ?_) (fun c5 => ?_)
        · have h := h.1 c5
          exact gB_X2_worked_60 q0 hq0 hrf x0 x1 x2 x3 x4 x5 v3 hx0 hX6 _ h
        · have h := h.2 c5
          refine G_aload_n (i := 0) pX2_worked_39 rfl rfl ?_
          refine G_getR (ci := 2) (j := 3) (N := 4) pX2_worked_40 fl_RX2_15 rfl hx0.2 hx0.sh2 (by decide) rfl ((lay_2_3 hx0).2.2 hrf) ?_
          refine G_iload (i := 4) pX2_worked_43 rfl ?_
          refine G_iload (i := 6) pX2_worked_45 rfl ?_
          refine G_iload_n (i := 1) pX2_worked_47 rfl rfl ?_
          refine G_iload_n (i := 2) pX2_worked_48 rfl rfl ?_
          refine G_iload_n (i := 3) pX2_worked_49 rfl rfl ?_
          refine G_callS4i pX2_worked_50 (g_X2_leaf v3 x1 x2 x3 hrf _ h) mS_X2_leaf ml_RX2_38 (by decide) ⟨Nat.le_refl _, Nat.le_refl _, Nat.le_refl _⟩ (Nat.le_of_ble_eq_true rfl) ?_
          intro r7 rf m6 hrf h hr7
          obtain ⟨hi9, h⟩ := h
          obtain ⟨m8, em8⟩ : ∃ z : MMt, z = up2 m6 (x0 + 2) x4.toNatClampNeg r7 := ⟨_, rfl⟩
          have h := h m8 em8
          refine G_iastW pX2_worked_53 (lay_2_3 hx0).2.1 (lay_2_3 hx0).1 hi9 em8.symm ?_
          obtain ⟨v10, e10⟩ : ∃ z : Int32, z = x4 + (1 : Int32) := ⟨_, rfl⟩
          have h := h v10 e10
          refine G_iincW (L' := [some (.ref x0), some (.int x1), some (.int x2), some (.int x3), some (.int v10), some (.int x5), some (.int v3)]) pX2_worked_54 rfl ic_1 e10.symm rfl ?_
          refine G_goto pX2_worked_57 ?_
          obtain ⟨v11, e11⟩ : ∃ z : Int32, z = x5 + (1 : Int32) := ⟨_, rfl⟩
          have h := h v11 e11
          refine G_iincW (L' := [some (.ref x0), some (.int x1), some (.int x2), some (.int x3), some (.int v10), some (.int v11), some (.int v3)]) pX2_worked_145 rfl ic_1 e11.symm rfl ?_
          refine G_goto pX2_worked_148 ?_
          refine G_wk (L2 := [some (.ref x0), some (.int x1), some (.int x2), some (.int x3), some (.int v10), some (.int v11), none]) ⟨Or.inr rfl, Or.inr rfl, Or.inr rfl, Or.inr rfl, Or.inr rfl, Or.inr rfl, Or.inl rfl, trivial⟩ ?_
          exact hX6 _ _ _ _ hrf h
  exact key n rf _ _ _ hrf h0
def L_X2_worked (q0 : Nat) (a1 : Int32) (a2 : Int32) (a3 : Int32) (mem : MMt) (Q : Int32 → MMt → Prop) : Prop := B_X2_worked_6 q0 q0 a1 a2 a3 (0 : Int32) (0 : Int32) mem Q
set_option maxRecDepth 4000 in
theorem g_X2_worked {sx : Nat × (Nat → Int32)} {rf : RFt} {Q : Int32 → MMt → Prop} (q0 : Nat) (a1 : Int32) (a2 : Int32) (a3 : Int32) (hq0 : IS 2 q0) (hrf : RFok rf) (mem : MMt) (h : L_X2_worked q0 a1 a2 a3 mem Q) : Ct sx yX2_worked cX2_worked 7 (some .int) 2 [.ref q0, .int a1, .int a2, .int a3] NX NX rf mem (QQi (RFok) Q) := by
  refine Ct_of [some (.ref q0), some (.int a1), some (.int a2), some (.int a3), none, none, none] (by decide +kernel) (by simp [Lof, Value.category]) rfl ?_
  unfold L_X2_worked at h
  refine G_iconst pX2_worked_0 ic_0 ?_
  refine G_istore (i := 4) (L' := [some (.ref q0), some (.int a1), some (.int a2), some (.int a3), some (.int (0 : Int32)), none, none]) pX2_worked_1 rfl ?_
  refine G_iconst pX2_worked_3 ic_0 ?_
  refine G_istore (i := 5) (L' := [some (.ref q0), some (.int a1), some (.int a2), some (.int a3), some (.int (0 : Int32)), some (.int (0 : Int32)), none]) pX2_worked_4 rfl ?_
  exact gB_X2_worked_6 q0 hq0 hrf q0 a1 a2 a3 (0 : Int32) (0 : Int32) hq0 _ h
def L_J9_min_7cf53 (a1 : Int32) (a2 : Int32) (mem : MMt) (Q : Int32 → MMt → Prop) : Prop := ((a2 < a1 → Q a2 mem) ∧ (¬ a2 < a1 → Q a1 mem))
set_option maxRecDepth 4000 in
theorem g_J9_min_7cf53 {sx : Nat × (Nat → Int32)} {nx : Nat} {M : RFt → Prop} {rf : RFt} {Q : Int32 → MMt → Prop} (a1 : Int32) (a2 : Int32) (hrf : M rf) (mem : MMt) (h : L_J9_min_7cf53 a1 a2 mem Q) : Ct sx yJ9_min_7cf53 cJ9_min_7cf53 2 (some .int) 1 [.int a1, .int a2] nx nx rf mem (QQi (M) Q) := by
  refine Ct_of [some (.int a1), some (.int a2)] (by decide +kernel) (by simp [Lof, Value.category]) rfl ?_
  unfold L_J9_min_7cf53 at h
  refine G_iload_n (i := 0) pJ9_min_7cf53_0 rfl rfl ?_
  refine G_iload_n (i := 1) pJ9_min_7cf53_1 rfl rfl ?_
  refine G_icmp_gt pJ9_min_7cf53_2 (fun c1 => ?_) (fun c1 => ?_)
  · have h := h.1 c1
    refine G_iload_n (i := 1) pJ9_min_7cf53_9 rfl rfl ?_
    exact G_ireturn (len := 1) pJ9_min_7cf53_10 ⟨hrf, _, rfl, h⟩ ⟨_, rfl, rfl⟩
  · have h := h.2 c1
    refine G_iload_n (i := 0) pJ9_min_7cf53_5 rfl rfl ?_
    refine G_goto pJ9_min_7cf53_6 ?_
    exact G_ireturn (len := 1) pJ9_min_7cf53_10 ⟨hrf, _, rfl, h⟩ ⟨_, rfl, rfl⟩
def L_J9_max_7cf53 (a1 : Int32) (a2 : Int32) (mem : MMt) (Q : Int32 → MMt → Prop) : Prop := ((a1 < a2 → Q a2 mem) ∧ (¬ a1 < a2 → Q a1 mem))
set_option maxRecDepth 4000 in
theorem g_J9_max_7cf53 {sx : Nat × (Nat → Int32)} {nx : Nat} {M : RFt → Prop} {rf : RFt} {Q : Int32 → MMt → Prop} (a1 : Int32) (a2 : Int32) (hrf : M rf) (mem : MMt) (h : L_J9_max_7cf53 a1 a2 mem Q) : Ct sx yJ9_max_7cf53 cJ9_max_7cf53 2 (some .int) 1 [.int a1, .int a2] nx nx rf mem (QQi (M) Q) := by
  refine Ct_of [some (.int a1), some (.int a2)] (by decide +kernel) (by simp [Lof, Value.category]) rfl ?_
  unfold L_J9_max_7cf53 at h
  refine G_iload_n (i := 0) pJ9_max_7cf53_0 rfl rfl ?_
  refine G_iload_n (i := 1) pJ9_max_7cf53_1 rfl rfl ?_
  refine G_icmp_lt pJ9_max_7cf53_2 (fun c1 => ?_) (fun c1 => ?_)
  · have h := h.1 c1
    refine G_iload_n (i := 1) pJ9_max_7cf53_9 rfl rfl ?_
    exact G_ireturn (len := 1) pJ9_max_7cf53_10 ⟨hrf, _, rfl, h⟩ ⟨_, rfl, rfl⟩
  · have h := h.2 c1
    refine G_iload_n (i := 0) pJ9_max_7cf53_5 rfl rfl ?_
    refine G_goto pJ9_max_7cf53_6 ?_
    exact G_ireturn (len := 1) pJ9_max_7cf53_10 ⟨hrf, _, rfl, h⟩ ⟨_, rfl, rfl⟩
def L_X9_held (a1 : Int32) (a2 : Int32) (a3 : Int32) (mem : MMt) (Q : Int32 → MMt → Prop) : Prop := L_J9_min_7cf53 a3 a1 mem (fun r2 m1 => L_J9_max_7cf53 a2 r2 m1 (fun r4 m3 => Q r4 m3))
set_option maxRecDepth 4000 in
theorem g_X9_held {sx : Nat × (Nat → Int32)} {M : RFt → Prop} {rf : RFt} {Q : Int32 → MMt → Prop} (a1 : Int32) (a2 : Int32) (a3 : Int32) (hrf : M rf) (mem : MMt) (h : L_X9_held a1 a2 a3 mem Q) : Ct sx yX9_held cX9_held 3 (some .int) 2 [.int a1, .int a2, .int a3] NX NX rf mem (QQi (M) Q) := by
  refine Ct_of [some (.int a1), some (.int a2), some (.int a3)] (by decide +kernel) (by simp [Lof, Value.category]) rfl ?_
  unfold L_X9_held at h
  refine G_iload_n (i := 1) pX9_held_0 rfl rfl ?_
  refine G_iload_n (i := 2) pX9_held_1 rfl rfl ?_
  refine G_iload_n (i := 0) pX9_held_2 rfl rfl ?_
  refine G_callS2i pX9_held_3 (g_J9_min_7cf53 a3 a1 hrf _ h) mS_J9_min_7cf53 ml_RX9_307 (by decide) ⟨Nat.le_refl _, Nat.le_refl _, Nat.le_refl _⟩ (Nat.le_of_ble_eq_true rfl) ?_
  intro r2 rf m1 hrf h hr2
  refine G_callS2i pX9_held_6 (g_J9_max_7cf53 a2 r2 hrf _ h) mS_J9_max_7cf53 ml_RX9_334 (by decide) ⟨Nat.le_refl _, Nat.le_refl _, Nat.le_refl _⟩ (Nat.le_of_ble_eq_true rfl) ?_
  intro r4 rf m3 hrf h hr4
  exact G_ireturn (len := 1) pX9_held_9 ⟨hrf, _, rfl, h⟩ ⟨_, rfl, rfl⟩
def L_X2_give (q0 : Nat) (a1 : Int32) (a2 : Int32) (a3 : Int32) (mem : MMt) (Q : Int32 → MMt → Prop) : Prop := ((¬ (mem q0 0) = 0 → ((¬ (mem q0 2) = 0 → L_X2_worked q0 a1 a2 a3 mem (fun r4 m3 => L_X9_held r4 (-99 : Int32) (99 : Int32) m3 (fun r6 m5 => Q r6 m5))) ∧ ((mem q0 2) = 0 → L_X9_held (a2 * (a1 + (1 : Int32))) (-99 : Int32) (99 : Int32) mem (fun r8 m7 => Q r8 m7)))) ∧ ((mem q0 0) = 0 → ((¬ (mem q0 2) = 0 → L_X2_worked q0 a1 a2 a3 mem (fun r11 m10 => L_X9_held r11 (-9 : Int32) (9 : Int32) m10 (fun r13 m12 => Q r13 m12))) ∧ ((mem q0 2) = 0 → L_X9_held ((a1 - (20 : Int32)) / (5 : Int32)) (-9 : Int32) (9 : Int32) mem (fun r15 m14 => Q r15 m14)))))
set_option maxRecDepth 4000 in
theorem g_X2_give {sx : Nat × (Nat → Int32)} {rf : RFt} {Q : Int32 → MMt → Prop} (q0 : Nat) (a1 : Int32) (a2 : Int32) (a3 : Int32) (hq0 : IS 2 q0) (hrf : RFok rf) (mem : MMt) (h : L_X2_give q0 a1 a2 a3 mem Q) : Ct sx yX2_give cX2_give 4 (some .int) 3 [.ref q0, .int a1, .int a2, .int a3] NX NX rf mem (QQi (RFok) Q) := by
  refine Ct_of [some (.ref q0), some (.int a1), some (.int a2), some (.int a3)] (by decide +kernel) (by simp [Lof, Value.category]) rfl ?_
  unfold L_X2_give at h
  refine G_aload_n (i := 0) pX2_give_0 rfl rfl ?_
  refine G_getI (ci := 2) (j := 0) (N := 4) pX2_give_1 fl_RX2_18 rfl hq0.2 hq0.sh2 (by decide) rfl ?_
  refine G_if_ne pX2_give_4 (fun c1 => ?_) (fun c1 => ?_)
  · have h := h.1 c1
    refine G_aload_n (i := 0) pX2_give_38 rfl rfl ?_
    refine G_getI (ci := 2) (j := 2) (N := 4) pX2_give_39 fl_RX2_26 rfl hq0.2 hq0.sh2 (by decide) rfl ?_
    refine G_if_ne pX2_give_42 (fun c2 => ?_) (fun c2 => ?_)
    · have h := h.1 c2
      refine G_aload_n (i := 0) pX2_give_53 rfl rfl ?_
      refine G_iload_n (i := 1) pX2_give_54 rfl rfl ?_
      refine G_iload_n (i := 2) pX2_give_55 rfl rfl ?_
      refine G_iload_n (i := 3) pX2_give_56 rfl rfl ?_
      refine G_callV3i (b := q0) (ci := 2) (N := 4) pX2_give_57 (g_X2_worked q0 a1 a2 a3 hq0 hrf _ h) mV_X2_worked ml_RX2_35 (by decide) ⟨Nat.le_refl _, Nat.le_refl _, Nat.le_refl _⟩ (Nat.le_of_ble_eq_true rfl) hq0.2 hq0.sh2 rfl ?_
      intro r4 rf m3 hrf h hr4
      refine G_bipush pX2_give_60 bi_m99 ?_
      refine G_bipush pX2_give_62 bi_99 ?_
      refine G_callSN3i pX2_give_64 (g_X9_held r4 (-99 : Int32) (99 : Int32) hrf _ h) mS_X9_held (by decide) (by decide) ⟨Nat.le_refl _, Nat.le_refl _, Nat.le_refl _⟩ (Nat.le_of_ble_eq_true rfl) ?_
      intro r6 rf m5 hrf h hr6
      exact G_ireturn (len := 1) pX2_give_67 ⟨hrf, _, rfl, h⟩ ⟨_, rfl, rfl⟩
    · have h := h.2 c2
      refine G_iload_n (i := 2) pX2_give_45 rfl rfl ?_
      refine G_iload_n (i := 1) pX2_give_46 rfl rfl ?_
      refine G_iconst pX2_give_47 ic_1 ?_
      refine G_iadd pX2_give_48 ?_
      refine G_imul pX2_give_49 ?_
      refine G_goto pX2_give_50 ?_
      refine G_bipush pX2_give_60 bi_m99 ?_
      refine G_bipush pX2_give_62 bi_99 ?_
      refine G_callSN3i pX2_give_64 (g_X9_held (a2 * (a1 + (1 : Int32))) (-99 : Int32) (99 : Int32) hrf _ h) mS_X9_held (by decide) (by decide) ⟨Nat.le_refl _, Nat.le_refl _, Nat.le_refl _⟩ (Nat.le_of_ble_eq_true rfl) ?_
      intro r8 rf m7 hrf h hr8
      exact G_ireturn (len := 1) pX2_give_67 ⟨hrf, _, rfl, h⟩ ⟨_, rfl, rfl⟩
  · have h := h.2 c1
    refine G_aload_n (i := 0) pX2_give_7 rfl rfl ?_
    refine G_getI (ci := 2) (j := 2) (N := 4) pX2_give_8 fl_RX2_26 rfl hq0.2 hq0.sh2 (by decide) rfl ?_
    refine G_if_ne pX2_give_11 (fun c9 => ?_) (fun c9 => ?_)
    · have h := h.1 c9
      refine G_aload_n (i := 0) pX2_give_23 rfl rfl ?_
      refine G_iload_n (i := 1) pX2_give_24 rfl rfl ?_
      refine G_iload_n (i := 2) pX2_give_25 rfl rfl ?_
      refine G_iload_n (i := 3) pX2_give_26 rfl rfl ?_
      refine G_callV3i (b := q0) (ci := 2) (N := 4) pX2_give_27 (g_X2_worked q0 a1 a2 a3 hq0 hrf _ h) mV_X2_worked ml_RX2_35 (by decide) ⟨Nat.le_refl _, Nat.le_refl _, Nat.le_refl _⟩ (Nat.le_of_ble_eq_true rfl) hq0.2 hq0.sh2 rfl ?_
      intro r11 rf m10 hrf h hr11
      refine G_bipush pX2_give_30 bi_m9 ?_
      refine G_bipush pX2_give_32 bi_9 ?_
      refine G_callSN3i pX2_give_34 (g_X9_held r11 (-9 : Int32) (9 : Int32) hrf _ h) mS_X9_held (by decide) (by decide) ⟨Nat.le_refl _, Nat.le_refl _, Nat.le_refl _⟩ (Nat.le_of_ble_eq_true rfl) ?_
      intro r13 rf m12 hrf h hr13
      exact G_ireturn (len := 1) pX2_give_37 ⟨hrf, _, rfl, h⟩ ⟨_, rfl, rfl⟩
    · have h := h.2 c9
      refine G_iload_n (i := 1) pX2_give_14 rfl rfl ?_
      refine G_bipush pX2_give_15 bi_20 ?_
      refine G_isub pX2_give_17 ?_
      refine G_iconst pX2_give_18 ic_5 ?_
      refine G_idiv pX2_give_19 (by decide) ?_
      refine G_goto pX2_give_20 ?_
      refine G_bipush pX2_give_30 bi_m9 ?_
      refine G_bipush pX2_give_32 bi_9 ?_
      refine G_callSN3i pX2_give_34 (g_X9_held ((a1 - (20 : Int32)) / (5 : Int32)) (-9 : Int32) (9 : Int32) hrf _ h) mS_X9_held (by decide) (by decide) ⟨Nat.le_refl _, Nat.le_refl _, Nat.le_refl _⟩ (Nat.le_of_ble_eq_true rfl) ?_
      intro r15 rf m14 hrf h hr15
      exact G_ireturn (len := 1) pX2_give_37 ⟨hrf, _, rfl, h⟩ ⟨_, rfl, rfl⟩
def L_X5_pullOf (a1 : Nat) (mem : MMt) (Q : Int32 → MMt → Prop) : Prop := (∀ v1 : Int32, v1 = ((mem a1 1) * (41 : Int32)) + (mem a1 2) → L_X9_within v1 (0 : Int32) ((410 : Int32) - (1 : Int32)) mem (fun r3 m2 => ((¬ r3 = 0 → (vp_in v1 410 ∧ ((¬ (m2 21 v1.toNatClampNeg) = (100 : Int32) → (vp_in v1 410 ∧ Q (m2 21 v1.toNatClampNeg) m2)) ∧ ((m2 21 v1.toNatClampNeg) = (100 : Int32) → L_X2_give 15 (m2 a1 2) (m2 a1 1) (0 : Int32) m2 (fun r9 m8 => (vp_in v1 410 ∧ ∀ m10 : MMt, m10 = up2 m8 21 v1.toNatClampNeg r9.toInt8.toInt32.toInt8.toInt32 → (vp_in v1 410 ∧ Q (m10 21 v1.toNatClampNeg) m10))))))) ∧ (r3 = 0 → L_X2_give 15 (m2 a1 2) (m2 a1 1) (0 : Int32) m2 (fun r14 m13 => Q r14 m13)))))
set_option maxRecDepth 4000 in
theorem g_X5_pullOf {sx : Nat × (Nat → Int32)} {rf : RFt} {Q : Int32 → MMt → Prop} (a1 : Nat) (ha1 : IS 1 a1) (hrf : RFok rf) (mem : MMt) (h : L_X5_pullOf a1 mem Q) : Ct sx yX5_pullOf cX5_pullOf 3 (some .int) 4 [.ref 11, .ref a1] NX NX rf mem (QQi (RFok) Q) := by
  refine Ct_of [some (.ref 11), some (.ref a1), none] (by decide +kernel) (by simp [Lof, Value.category]) rfl ?_
  unfold L_X5_pullOf at h
  refine G_aload_n (i := 1) pX5_pullOf_0 rfl rfl ?_
  refine G_getI (ci := 1) (j := 1) (N := 5) pX5_pullOf_1 fl_RX5_75 rfl ha1.2 ha1.sh1 (by decide) rfl ?_
  refine G_bipush pX5_pullOf_4 bi_41 ?_
  refine G_imul pX5_pullOf_6 ?_
  refine G_aload_n (i := 1) pX5_pullOf_7 rfl rfl ?_
  refine G_getI (ci := 1) (j := 2) (N := 5) pX5_pullOf_8 fl_RX5_80 rfl ha1.2 ha1.sh1 (by decide) rfl ?_
  refine G_iadd pX5_pullOf_11 ?_
  obtain ⟨v1, e1⟩ : ∃ z : Int32, z = ((mem a1 1) * (41 : Int32)) + (mem a1 2) := ⟨_, rfl⟩
  have h := h v1 e1
  refine G_istore_nW (L' := [some (.ref 11), some (.ref a1), some (.int v1)]) pX5_pullOf_12 rfl e1.symm rfl ?_
  refine G_iload_n (i := 2) pX5_pullOf_13 rfl rfl ?_
  refine G_iconst pX5_pullOf_14 ic_0 ?_
  refine G_aload_n (i := 0) pX5_pullOf_15 rfl rfl ?_
  refine G_getR (ci := 5) (j := 9) (N := 10) pX5_pullOf_16 fl_RX5_41 rfl ltk_11 shk_11 (by decide) rfl (hrf.lit 11 9 rfl) ?_
  refine G_alen (v := (410 : Int32)) pX5_pullOf_19 ltk_21 shk_21 (by decide) (by decide) ?_
  refine G_iconst pX5_pullOf_20 ic_1 ?_
  refine G_isub pX5_pullOf_21 ?_
  refine G_callSN3i pX5_pullOf_22 (g_X9_within v1 (0 : Int32) ((410 : Int32) - (1 : Int32)) hrf _ h) mS_X9_within (by decide) (by decide) ⟨Nat.le_refl _, Nat.le_refl _, Nat.le_refl _⟩ (Nat.le_of_ble_eq_true rfl) ?_
  intro r3 rf m2 hrf h hr3
  refine G_if_ne pX5_pullOf_25 (fun c4 => ?_) (fun c4 => ?_)
  · have h := h.1 c4
    refine G_aload_n (i := 0) pX5_pullOf_45 rfl rfl ?_
    refine G_getR (ci := 5) (j := 9) (N := 10) pX5_pullOf_46 fl_RX5_41 rfl ltk_11 shk_11 (by decide) rfl (hrf.lit 11 9 rfl) ?_
    refine G_iload_n (i := 2) pX5_pullOf_49 rfl rfl ?_
    obtain ⟨hi5, h⟩ := h
    refine G_bald pX5_pullOf_50 ltk_21 shk_21 hi5 ?_
    refine G_bipush pX5_pullOf_51 bi_100 ?_
    refine G_icmp_ne pX5_pullOf_53 (fun c6 => ?_) (fun c6 => ?_)
    · have h := h.1 c6
      refine G_aload_n (i := 0) pX5_pullOf_79 rfl rfl ?_
      refine G_getR (ci := 5) (j := 9) (N := 10) pX5_pullOf_80 fl_RX5_41 rfl ltk_11 shk_11 (by decide) rfl (hrf.lit 11 9 rfl) ?_
      refine G_iload_n (i := 2) pX5_pullOf_83 rfl rfl ?_
      obtain ⟨hi7, h⟩ := h
      refine G_bald pX5_pullOf_84 ltk_21 shk_21 hi7 ?_
      exact G_ireturn (len := 1) pX5_pullOf_85 ⟨hrf, _, rfl, h⟩ ⟨_, rfl, rfl⟩
    · have h := h.2 c6
      refine G_aload_n (i := 0) pX5_pullOf_56 rfl rfl ?_
      refine G_getR (ci := 5) (j := 9) (N := 10) pX5_pullOf_57 fl_RX5_41 rfl ltk_11 shk_11 (by decide) rfl (hrf.lit 11 9 rfl) ?_
      refine G_iload_n (i := 2) pX5_pullOf_60 rfl rfl ?_
      refine G_aload_n (i := 0) pX5_pullOf_61 rfl rfl ?_
      refine G_getR (ci := 5) (j := 7) (N := 10) pX5_pullOf_62 fl_RX5_34 rfl ltk_11 shk_11 (by decide) rfl (hrf.lit 11 7 rfl) ?_
      refine G_aload_n (i := 1) pX5_pullOf_65 rfl rfl ?_
      refine G_getI (ci := 1) (j := 2) (N := 5) pX5_pullOf_66 fl_RX5_80 rfl ha1.2 ha1.sh1 (by decide) rfl ?_
      refine G_aload_n (i := 1) pX5_pullOf_69 rfl rfl ?_
      refine G_getI (ci := 1) (j := 1) (N := 5) pX5_pullOf_70 fl_RX5_75 rfl ha1.2 ha1.sh1 (by decide) rfl ?_
      refine G_iconst pX5_pullOf_73 ic_0 ?_
      refine G_callV3i (b := 15) (ci := 2) (N := 4) pX5_pullOf_74 (g_X2_give 15 (m2 a1 2) (m2 a1 1) (0 : Int32) (IS_lit shk_15 ltk_15) hrf _ h) mV_X2_give ml_RX5_87 (by decide) ⟨Nat.le_refl _, Nat.le_refl _, Nat.le_refl _⟩ (Nat.le_of_ble_eq_true rfl) ltk_15 shk_15 rfl ?_
      intro r9 rf m8 hrf h hr9
      refine G_i2b pX5_pullOf_77 ?_
      obtain ⟨hi11, h⟩ := h
      obtain ⟨m10, em10⟩ : ∃ z : MMt, z = up2 m8 21 v1.toNatClampNeg r9.toInt8.toInt32.toInt8.toInt32 := ⟨_, rfl⟩
      have h := h m10 em10
      refine G_bastW pX5_pullOf_78 ltk_21 shk_21 hi11 em10.symm ?_
      refine G_aload_n (i := 0) pX5_pullOf_79 rfl rfl ?_
      refine G_getR (ci := 5) (j := 9) (N := 10) pX5_pullOf_80 fl_RX5_41 rfl ltk_11 shk_11 (by decide) rfl (hrf.lit 11 9 rfl) ?_
      refine G_iload_n (i := 2) pX5_pullOf_83 rfl rfl ?_
      obtain ⟨hi12, h⟩ := h
      refine G_bald pX5_pullOf_84 ltk_21 shk_21 hi12 ?_
      exact G_ireturn (len := 1) pX5_pullOf_85 ⟨hrf, _, rfl, h⟩ ⟨_, rfl, rfl⟩
  · have h := h.2 c4
    refine G_aload_n (i := 0) pX5_pullOf_28 rfl rfl ?_
    refine G_getR (ci := 5) (j := 7) (N := 10) pX5_pullOf_29 fl_RX5_34 rfl ltk_11 shk_11 (by decide) rfl (hrf.lit 11 7 rfl) ?_
    refine G_aload_n (i := 1) pX5_pullOf_32 rfl rfl ?_
    refine G_getI (ci := 1) (j := 2) (N := 5) pX5_pullOf_33 fl_RX5_80 rfl ha1.2 ha1.sh1 (by decide) rfl ?_
    refine G_aload_n (i := 1) pX5_pullOf_36 rfl rfl ?_
    refine G_getI (ci := 1) (j := 1) (N := 5) pX5_pullOf_37 fl_RX5_75 rfl ha1.2 ha1.sh1 (by decide) rfl ?_
    refine G_iconst pX5_pullOf_40 ic_0 ?_
    refine G_callV3i (b := 15) (ci := 2) (N := 4) pX5_pullOf_41 (g_X2_give 15 (m2 a1 2) (m2 a1 1) (0 : Int32) (IS_lit shk_15 ltk_15) hrf _ h) mV_X2_give ml_RX5_87 (by decide) ⟨Nat.le_refl _, Nat.le_refl _, Nat.le_refl _⟩ (Nat.le_of_ble_eq_true rfl) ltk_15 shk_15 rfl ?_
    intro r14 rf m13 hrf h hr14
    exact G_ireturn (len := 1) pX5_pullOf_44 ⟨hrf, _, rfl, h⟩ ⟨_, rfl, rfl⟩
def L_X1_pulled (q0 : Nat) (a1 : Int32) (mem : MMt) (Q : Int32 → MMt → Prop) : Prop := (∀ v1 : Int32, v1 = mem q0 0 → ((v1 < (3 : Int32) → Q a1 mem) ∧ ((6 : Int32) < v1 → Q a1 mem) ∧ (v1 = (3 : Int32) → Q ((0 : Int32) - (a1 / (2 : Int32))) mem) ∧ (v1 = (4 : Int32) → Q a1 mem) ∧ (v1 = (5 : Int32) → Q ((0 : Int32) - (a1 / (2 : Int32))) mem) ∧ (v1 = (6 : Int32) → Q ((2 : Int32) * a1) mem)))
set_option maxRecDepth 4000 in
theorem g_X1_pulled {sx : Nat × (Nat → Int32)} {M : RFt → Prop} {rf : RFt} {Q : Int32 → MMt → Prop} (q0 : Nat) (a1 : Int32) (hq0 : IS 1 q0) (hrf : M rf) (mem : MMt) (h : L_X1_pulled q0 a1 mem Q) : Ct sx yX1_pulled cX1_pulled 2 (some .int) 1 [.ref q0, .int a1] NX NX rf mem (QQi (M) Q) := by
  refine Ct_of [some (.ref q0), some (.int a1)] (by decide +kernel) (by simp [Lof, Value.category]) rfl ?_
  unfold L_X1_pulled at h
  refine G_aload_n (i := 0) pX1_pulled_0 rfl rfl ?_
  refine G_getI (ci := 1) (j := 0) (N := 5) pX1_pulled_1 fl_RX1_9 rfl hq0.2 hq0.sh1 (by decide) rfl ?_
  refine G_nmI (fun v1 e1 => ?_)
  have h := h v1 e1
  by_cases c2 : v1 < (3 : Int32)
  · have h := h.1 c2
    refine G_tsOut (tgt := 46) pX1_pulled_4 (Or.inl (ts_lt c2 (by decide))) (by decide) ?_
    refine G_iload_n (i := 1) pX1_pulled_46 rfl rfl ?_
    exact G_ireturn (len := 1) pX1_pulled_47 ⟨hrf, _, rfl, h⟩ ⟨_, rfl, rfl⟩
  by_cases c3 : (6 : Int32) < v1
  · have h := h.2.1 c3
    refine G_tsOut (tgt := 46) pX1_pulled_4 (Or.inr (ts_gt c3 (by decide))) (by decide) ?_
    refine G_iload_n (i := 1) pX1_pulled_46 rfl rfl ?_
    exact G_ireturn (len := 1) pX1_pulled_47 ⟨hrf, _, rfl, h⟩ ⟨_, rfl, rfl⟩
  rcases tsx_3_6 c2 c3 with hc | hc | hc | hc
  · have h := h.2.2.1 hc
    refine G_tsInE (v := (3 : Int32)) (off := 32) (tgt := 36) pX1_pulled_4 hc (by decide) ?_
    refine G_iconst pX1_pulled_36 ic_0 ?_
    refine G_iload_n (i := 1) pX1_pulled_37 rfl rfl ?_
    refine G_iconst pX1_pulled_38 ic_2 ?_
    refine G_idiv pX1_pulled_39 (by decide) ?_
    refine G_isub pX1_pulled_40 ?_
    exact G_ireturn (len := 1) pX1_pulled_41 ⟨hrf, _, rfl, h⟩ ⟨_, rfl, rfl⟩
  · have h := h.2.2.2.1 hc
    refine G_tsInE (v := (4 : Int32)) (off := 42) (tgt := 46) pX1_pulled_4 hc (by decide) ?_
    refine G_iload_n (i := 1) pX1_pulled_46 rfl rfl ?_
    exact G_ireturn (len := 1) pX1_pulled_47 ⟨hrf, _, rfl, h⟩ ⟨_, rfl, rfl⟩
  · have h := h.2.2.2.2.1 hc
    refine G_tsInE (v := (5 : Int32)) (off := 32) (tgt := 36) pX1_pulled_4 hc (by decide) ?_
    refine G_iconst pX1_pulled_36 ic_0 ?_
    refine G_iload_n (i := 1) pX1_pulled_37 rfl rfl ?_
    refine G_iconst pX1_pulled_38 ic_2 ?_
    refine G_idiv pX1_pulled_39 (by decide) ?_
    refine G_isub pX1_pulled_40 ?_
    exact G_ireturn (len := 1) pX1_pulled_41 ⟨hrf, _, rfl, h⟩ ⟨_, rfl, rfl⟩
  · have h := h.2.2.2.2.2 hc
    refine G_tsInE (v := (6 : Int32)) (off := 38) (tgt := 42) pX1_pulled_4 hc (by decide) ?_
    refine G_iconst pX1_pulled_42 ic_2 ?_
    refine G_iload_n (i := 1) pX1_pulled_43 rfl rfl ?_
    refine G_imul pX1_pulled_44 ?_
    exact G_ireturn (len := 1) pX1_pulled_45 ⟨hrf, _, rfl, h⟩ ⟨_, rfl, rfl⟩
def L_X1_drag (q0 : Nat) (mem : MMt) (Q : Int32 → MMt → Prop) : Prop := (∀ v1 : Int32, v1 = mem q0 0 → ((v1 < (1 : Int32) → Q ((mem q0 1) - (mem q0 1) / (2 : Int32) * (2 : Int32)) mem) ∧ ((6 : Int32) < v1 → Q ((mem q0 1) - (mem q0 1) / (2 : Int32) * (2 : Int32)) mem) ∧ (v1 = (1 : Int32) → Q (0 : Int32) mem) ∧ (v1 = (2 : Int32) → Q ((mem q0 1) - (mem q0 1) / (2 : Int32) * (2 : Int32)) mem) ∧ (v1 = (3 : Int32) → Q (2 : Int32) mem) ∧ (v1 = (4 : Int32) → Q ((mem q0 1) - (mem q0 1) / (2 : Int32) * (2 : Int32)) mem) ∧ (v1 = (5 : Int32) → Q (1 : Int32) mem) ∧ (v1 = (6 : Int32) → Q (0 : Int32) mem)))
set_option maxRecDepth 4000 in
theorem g_X1_drag {sx : Nat × (Nat → Int32)} {M : RFt → Prop} {rf : RFt} {Q : Int32 → MMt → Prop} (q0 : Nat) (hq0 : IS 1 q0) (hrf : M rf) (mem : MMt) (h : L_X1_drag q0 mem Q) : Ct sx yX1_drag cX1_drag 1 (some .int) 1 [.ref q0] NX NX rf mem (QQi (M) Q) := by
  refine Ct_of [some (.ref q0)] (by decide +kernel) (by simp [Lof, Value.category]) rfl ?_
  unfold L_X1_drag at h
  refine G_aload_n (i := 0) pX1_drag_0 rfl rfl ?_
  refine G_getI (ci := 1) (j := 0) (N := 5) pX1_drag_1 fl_RX1_9 rfl hq0.2 hq0.sh1 (by decide) rfl ?_
  refine G_nmI (fun v1 e1 => ?_)
  have h := h v1 e1
  by_cases c2 : v1 < (1 : Int32)
  · have h := h.1 c2
    refine G_tsOut (tgt := 50) pX1_drag_4 (Or.inl (ts_lt c2 (by decide))) (by decide) ?_
    refine G_aload_n (i := 0) pX1_drag_50 rfl rfl ?_
    refine G_getI (ci := 1) (j := 1) (N := 5) pX1_drag_51 fl_RX1_15 rfl hq0.2 hq0.sh1 (by decide) rfl ?_
    refine G_iconst pX1_drag_54 ic_2 ?_
    refine G_irem pX1_drag_55 (by decide) ?_
    exact G_ireturn (len := 1) pX1_drag_56 ⟨hrf, _, rfl, h⟩ ⟨_, rfl, rfl⟩
  by_cases c3 : (6 : Int32) < v1
  · have h := h.2.1 c3
    refine G_tsOut (tgt := 50) pX1_drag_4 (Or.inr (ts_gt c3 (by decide))) (by decide) ?_
    refine G_aload_n (i := 0) pX1_drag_50 rfl rfl ?_
    refine G_getI (ci := 1) (j := 1) (N := 5) pX1_drag_51 fl_RX1_15 rfl hq0.2 hq0.sh1 (by decide) rfl ?_
    refine G_iconst pX1_drag_54 ic_2 ?_
    refine G_irem pX1_drag_55 (by decide) ?_
    exact G_ireturn (len := 1) pX1_drag_56 ⟨hrf, _, rfl, h⟩ ⟨_, rfl, rfl⟩
  rcases tsx_1_6 c2 c3 with hc | hc | hc | hc | hc | hc
  · have h := h.2.2.1 hc
    refine G_tsInE (v := (1 : Int32)) (off := 40) (tgt := 44) pX1_drag_4 hc (by decide) ?_
    refine G_iconst pX1_drag_44 ic_0 ?_
    exact G_ireturn (len := 1) pX1_drag_45 ⟨hrf, _, rfl, h⟩ ⟨_, rfl, rfl⟩
  · have h := h.2.2.2.1 hc
    refine G_tsInE (v := (2 : Int32)) (off := 46) (tgt := 50) pX1_drag_4 hc (by decide) ?_
    refine G_aload_n (i := 0) pX1_drag_50 rfl rfl ?_
    refine G_getI (ci := 1) (j := 1) (N := 5) pX1_drag_51 fl_RX1_15 rfl hq0.2 hq0.sh1 (by decide) rfl ?_
    refine G_iconst pX1_drag_54 ic_2 ?_
    refine G_irem pX1_drag_55 (by decide) ?_
    exact G_ireturn (len := 1) pX1_drag_56 ⟨hrf, _, rfl, h⟩ ⟨_, rfl, rfl⟩
  · have h := h.2.2.2.2.1 hc
    refine G_tsInE (v := (3 : Int32)) (off := 42) (tgt := 46) pX1_drag_4 hc (by decide) ?_
    refine G_iconst pX1_drag_46 ic_2 ?_
    exact G_ireturn (len := 1) pX1_drag_47 ⟨hrf, _, rfl, h⟩ ⟨_, rfl, rfl⟩
  · have h := h.2.2.2.2.2.1 hc
    refine G_tsInE (v := (4 : Int32)) (off := 46) (tgt := 50) pX1_drag_4 hc (by decide) ?_
    refine G_aload_n (i := 0) pX1_drag_50 rfl rfl ?_
    refine G_getI (ci := 1) (j := 1) (N := 5) pX1_drag_51 fl_RX1_15 rfl hq0.2 hq0.sh1 (by decide) rfl ?_
    refine G_iconst pX1_drag_54 ic_2 ?_
    refine G_irem pX1_drag_55 (by decide) ?_
    exact G_ireturn (len := 1) pX1_drag_56 ⟨hrf, _, rfl, h⟩ ⟨_, rfl, rfl⟩
  · have h := h.2.2.2.2.2.2.1 hc
    refine G_tsInE (v := (5 : Int32)) (off := 44) (tgt := 48) pX1_drag_4 hc (by decide) ?_
    refine G_iconst pX1_drag_48 ic_1 ?_
    exact G_ireturn (len := 1) pX1_drag_49 ⟨hrf, _, rfl, h⟩ ⟨_, rfl, rfl⟩
  · have h := h.2.2.2.2.2.2.2 hc
    refine G_tsInE (v := (6 : Int32)) (off := 40) (tgt := 44) pX1_drag_4 hc (by decide) ?_
    refine G_iconst pX1_drag_44 ic_0 ?_
    exact G_ireturn (len := 1) pX1_drag_45 ⟨hrf, _, rfl, h⟩ ⟨_, rfl, rfl⟩
def L_X1_reach (q0 : Nat) (mem : MMt) (Q : Int32 → MMt → Prop) : Prop := (∀ v1 : Int32, v1 = mem q0 0 → ((v1 = (2 : Int32) → Q ((mem q0 1) + (2 : Int32)) mem) ∧ (v1 = (4 : Int32) → Q (((mem q0 1) + (2 : Int32)) / (2 : Int32)) mem) ∧ (¬ v1 = (2 : Int32) → ¬ v1 = (4 : Int32) → Q (40 : Int32) mem)))
set_option maxRecDepth 4000 in
theorem g_X1_reach {sx : Nat × (Nat → Int32)} {M : RFt → Prop} {rf : RFt} {Q : Int32 → MMt → Prop} (q0 : Nat) (hq0 : IS 1 q0) (hrf : M rf) (mem : MMt) (h : L_X1_reach q0 mem Q) : Ct sx yX1_reach cX1_reach 1 (some .int) 1 [.ref q0] NX NX rf mem (QQi (M) Q) := by
  refine Ct_of [some (.ref q0)] (by decide +kernel) (by simp [Lof, Value.category]) rfl ?_
  unfold L_X1_reach at h
  refine G_aload_n (i := 0) pX1_reach_0 rfl rfl ?_
  refine G_getI (ci := 1) (j := 0) (N := 5) pX1_reach_1 fl_RX1_9 rfl hq0.2 hq0.sh1 (by decide) rfl ?_
  refine G_nmI (fun v1 e1 => ?_)
  have h := h v1 e1
  by_cases c2 : v1 = (2 : Int32)
  · have h := h.1 c2
    refine G_lsE (v := (2 : Int32)) (off := 28) (tgt := 32) pX1_reach_4 c2 (by decide) (by decide) (by decide) ?_
    refine G_aload_n (i := 0) pX1_reach_32 rfl rfl ?_
    refine G_getI (ci := 1) (j := 1) (N := 5) pX1_reach_33 fl_RX1_15 rfl hq0.2 hq0.sh1 (by decide) rfl ?_
    refine G_iconst pX1_reach_36 ic_2 ?_
    refine G_iadd pX1_reach_37 ?_
    exact G_ireturn (len := 1) pX1_reach_38 ⟨hrf, _, rfl, h⟩ ⟨_, rfl, rfl⟩
  by_cases c3 : v1 = (4 : Int32)
  · have h := h.2.1 c3
    refine G_lsE (v := (4 : Int32)) (off := 35) (tgt := 39) pX1_reach_4 c3 (by decide) (by decide) (by decide) ?_
    refine G_aload_n (i := 0) pX1_reach_39 rfl rfl ?_
    refine G_getI (ci := 1) (j := 1) (N := 5) pX1_reach_40 fl_RX1_15 rfl hq0.2 hq0.sh1 (by decide) rfl ?_
    refine G_iconst pX1_reach_43 ic_2 ?_
    refine G_iadd pX1_reach_44 ?_
    refine G_iconst pX1_reach_45 ic_2 ?_
    refine G_idiv pX1_reach_46 (by decide) ?_
    exact G_ireturn (len := 1) pX1_reach_47 ⟨hrf, _, rfl, h⟩ ⟨_, rfl, rfl⟩
  refine G_ls (off := 44) (tgt := 48) pX1_reach_4 (by decide) ((lv_osw c2 (by decide)).trans ((lv_osw c3 (by decide)).trans rfl)) (by decide) ?_
  have h := h.2.2 c2 c3
  refine G_bipush pX1_reach_48 bi_40 ?_
  exact G_ireturn (len := 1) pX1_reach_50 ⟨hrf, _, rfl, h⟩ ⟨_, rfl, rfl⟩
def L_X1_copyFrom (q0 : Nat) (a1 : Nat) (mem : MMt) (Q : MMt → Prop) : Prop := (∀ m1 : MMt, m1 = up2 mem q0 0 (mem a1 0) → (∀ m2 : MMt, m2 = up2 m1 q0 1 (m1 a1 1) → (∀ m3 : MMt, m3 = up2 m2 q0 2 (m2 a1 2) → (∀ m4 : MMt, m4 = up2 m3 q0 3 (m3 a1 3) → (∀ m5 : MMt, m5 = up2 m4 q0 4 (m4 a1 4) → Q m5)))))
set_option maxRecDepth 4000 in
theorem g_X1_copyFrom {sx : Nat × (Nat → Int32)} {M : RFt → Prop} {rf : RFt} {Q : MMt → Prop} (q0 : Nat) (a1 : Nat) (hq0 : IS 1 q0) (ha1 : IS 1 a1) (hrf : M rf) (mem : MMt) (h : L_X1_copyFrom q0 a1 mem Q) : Ct sx yX1_copyFrom cX1_copyFrom 2 none 1 [.ref q0, .ref a1] NX NX rf mem (QQv (M) Q) := by
  refine Ct_of [some (.ref q0), some (.ref a1)] (by decide +kernel) (by simp [Lof, Value.category]) rfl ?_
  unfold L_X1_copyFrom at h
  refine G_aload_n (i := 0) pX1_copyFrom_0 rfl rfl ?_
  refine G_aload_n (i := 1) pX1_copyFrom_1 rfl rfl ?_
  refine G_getI (ci := 1) (j := 0) (N := 5) pX1_copyFrom_2 fl_RX1_9 rfl ha1.2 ha1.sh1 (by decide) rfl ?_
  obtain ⟨m1, em1⟩ : ∃ z : MMt, z = up2 mem q0 0 (mem a1 0) := ⟨_, rfl⟩
  have h := h m1 em1
  refine G_putIW (ci := 1) (j := 0) (N := 5) pX1_copyFrom_5 fw_RX1_9 rfl hq0.2 hq0.sh1 (by decide) rfl (fun _ => ⟨rfl, rfl⟩) em1.symm ?_
  refine G_aload_n (i := 0) pX1_copyFrom_8 rfl rfl ?_
  refine G_aload_n (i := 1) pX1_copyFrom_9 rfl rfl ?_
  refine G_getI (ci := 1) (j := 1) (N := 5) pX1_copyFrom_10 fl_RX1_15 rfl ha1.2 ha1.sh1 (by decide) rfl ?_
  obtain ⟨m2, em2⟩ : ∃ z : MMt, z = up2 m1 q0 1 (m1 a1 1) := ⟨_, rfl⟩
  have h := h m2 em2
  refine G_putIW (ci := 1) (j := 1) (N := 5) pX1_copyFrom_13 fw_RX1_15 rfl hq0.2 hq0.sh1 (by decide) rfl (fun _ => ⟨rfl, rfl⟩) em2.symm ?_
  refine G_aload_n (i := 0) pX1_copyFrom_16 rfl rfl ?_
  refine G_aload_n (i := 1) pX1_copyFrom_17 rfl rfl ?_
  refine G_getI (ci := 1) (j := 2) (N := 5) pX1_copyFrom_18 fl_RX1_18 rfl ha1.2 ha1.sh1 (by decide) rfl ?_
  obtain ⟨m3, em3⟩ : ∃ z : MMt, z = up2 m2 q0 2 (m2 a1 2) := ⟨_, rfl⟩
  have h := h m3 em3
  refine G_putIW (ci := 1) (j := 2) (N := 5) pX1_copyFrom_21 fw_RX1_18 rfl hq0.2 hq0.sh1 (by decide) rfl (fun _ => ⟨rfl, rfl⟩) em3.symm ?_
  refine G_aload_n (i := 0) pX1_copyFrom_24 rfl rfl ?_
  refine G_aload_n (i := 1) pX1_copyFrom_25 rfl rfl ?_
  refine G_getI (ci := 1) (j := 3) (N := 5) pX1_copyFrom_26 fl_RX1_21 rfl ha1.2 ha1.sh1 (by decide) rfl ?_
  obtain ⟨m4, em4⟩ : ∃ z : MMt, z = up2 m3 q0 3 (m3 a1 3) := ⟨_, rfl⟩
  have h := h m4 em4
  refine G_putIW (ci := 1) (j := 3) (N := 5) pX1_copyFrom_29 fw_RX1_21 rfl hq0.2 hq0.sh1 (by decide) rfl (fun _ => ⟨rfl, rfl⟩) em4.symm ?_
  refine G_aload_n (i := 0) pX1_copyFrom_32 rfl rfl ?_
  refine G_aload_n (i := 1) pX1_copyFrom_33 rfl rfl ?_
  refine G_getI (ci := 1) (j := 4) (N := 5) pX1_copyFrom_34 fl_RX1_24 rfl ha1.2 ha1.sh1 (by decide) rfl ?_
  obtain ⟨m5, em5⟩ : ∃ z : MMt, z = up2 m4 q0 4 (m4 a1 4) := ⟨_, rfl⟩
  have h := h m5 em5
  refine G_putIW (ci := 1) (j := 4) (N := 5) pX1_copyFrom_37 fw_RX1_24 rfl hq0.2 hq0.sh1 (by decide) rfl (fun _ => ⟨rfl, rfl⟩) em5.symm ?_
  exact G_return (len := 1) pX1_copyFrom_40 ⟨hrf, rfl, h⟩ rfl
def B_X1_stride_128 (q0 : Nat) (x0 : Nat) (x2 : Int32) (x3 : Int32) (mem : MMt) (Q : Int32 → MMt → Prop) : Prop := ((¬ (mem x0 2) = x2 → Q (1 : Int32) mem) ∧ ((mem x0 2) = x2 → (((mem x0 3) = x3 → Q (0 : Int32) mem) ∧ (¬ (mem x0 3) = x3 → Q (1 : Int32) mem))))
set_option maxRecDepth 4000 in
theorem gB_X1_stride_128 {sx : Nat × (Nat → Int32)} {M : RFt → Prop} {rf : RFt} {Q : Int32 → MMt → Prop} (q0 : Nat) (hq0 : IS 1 q0) (hrf : M rf) (x0 : Nat) (x2 : Int32) (x3 : Int32) (hx0 : IS 1 x0) (mem : MMt) (h : B_X1_stride_128 q0 x0 x2 x3 mem Q) : G sx yX1_stride cX1_stride 7 (some .boolean) 3 NX NX (QQi (M) Q) NX rf mem 128 [some (.ref x0), none, some (.int x2), some (.int x3), none, none, none] [] := by
  unfold B_X1_stride_128 at h
  refine G_aload_n (i := 0) pX1_stride_128 rfl rfl ?_
  refine G_getI (ci := 1) (j := 2) (N := 5) pX1_stride_129 fl_RX1_18 rfl hx0.2 hx0.sh1 (by decide) rfl ?_
  refine G_iload_n (i := 2) pX1_stride_132 rfl rfl ?_
  refine G_icmp_ne pX1_stride_133 (fun c1 => ?_) (fun c1 => ?_)
  · have h := h.1 c1
    refine G_iconst pX1_stride_144 ic_1 ?_
    refine G_goto pX1_stride_145 ?_
    exact G_ireturn (len := 1) pX1_stride_149 ⟨hrf, _, rfl, h⟩ ⟨_, rfl, rfl⟩
  · have h := h.2 c1
    refine G_aload_n (i := 0) pX1_stride_136 rfl rfl ?_
    refine G_getI (ci := 1) (j := 3) (N := 5) pX1_stride_137 fl_RX1_21 rfl hx0.2 hx0.sh1 (by decide) rfl ?_
    refine G_iload_n (i := 3) pX1_stride_140 rfl rfl ?_
    refine G_icmp_eq pX1_stride_141 (fun c2 => ?_) (fun c2 => ?_)
    · have h := h.1 c2
      refine G_iconst pX1_stride_148 ic_0 ?_
      exact G_ireturn (len := 1) pX1_stride_149 ⟨hrf, _, rfl, h⟩ ⟨_, rfl, rfl⟩
    · have h := h.2 c2
      refine G_iconst pX1_stride_144 ic_1 ?_
      refine G_goto pX1_stride_145 ?_
      exact G_ireturn (len := 1) pX1_stride_149 ⟨hrf, _, rfl, h⟩ ⟨_, rfl, rfl⟩
def B_X1_stride_52 (q0 : Nat) (x0 : Nat) (x2 : Int32) (x3 : Int32) (s0 : Int32) (mem : MMt) (Q : Int32 → MMt → Prop) : Prop := L_X9_held s0 (-9 : Int32) (9 : Int32) mem (fun r2 m1 => (∀ m3 : MMt, m3 = up2 m1 x0 3 r2 → (∀ v4 : Int32, v4 = (m3 x0 2) + (m3 x0 3) → L_X1_reach x0 m3 (fun r6 m5 => L_J9_max_7cf53 (0 : Int32) ((m3 x0 4) - r6) m5 (fun r8 m7 => L_X1_reach x0 m7 (fun r10 m9 => L_J9_min_7cf53 (40 : Int32) ((m7 x0 4) + r10) m9 (fun r12 m11 => L_X9_held v4 r8 r12 m11 (fun r14 m13 => (∀ m15 : MMt, m15 = up2 m13 x0 2 r14 → (((m15 x0 2) = v4 → B_X1_stride_128 q0 x0 x2 x3 m15 Q) ∧ (¬ (m15 x0 2) = v4 → (∀ m17 : MMt, m17 = up2 m15 x0 3 (0 : Int32) → B_X1_stride_128 q0 x0 x2 x3 m17 Q))))))))))))
set_option maxRecDepth 4000 in
theorem gB_X1_stride_52 {sx : Nat × (Nat → Int32)} {M : RFt → Prop} {rf : RFt} {Q : Int32 → MMt → Prop} (q0 : Nat) (hq0 : IS 1 q0) (hrf : M rf) (x0 : Nat) (x2 : Int32) (x3 : Int32) (s0 : Int32) (hx0 : IS 1 x0) (mem : MMt) (h : B_X1_stride_52 q0 x0 x2 x3 s0 mem Q) : G sx yX1_stride cX1_stride 7 (some .boolean) 3 NX NX (QQi (M) Q) NX rf mem 52 [some (.ref x0), none, some (.int x2), some (.int x3), none, none, none] [.int s0] := by
  unfold B_X1_stride_52 at h
  refine G_istore (i := 5) (L' := [some (.ref x0), none, some (.int x2), some (.int x3), none, some (.int s0), none]) pX1_stride_52 rfl ?_
  refine G_aload_n (i := 0) pX1_stride_54 rfl rfl ?_
  refine G_iload (i := 5) pX1_stride_55 rfl ?_
  refine G_bipush pX1_stride_57 bi_m9 ?_
  refine G_bipush pX1_stride_59 bi_9 ?_
  refine G_callSN3i pX1_stride_61 (g_X9_held s0 (-9 : Int32) (9 : Int32) hrf _ h) mS_X9_held (by decide) (by decide) ⟨Nat.le_refl _, Nat.le_refl _, Nat.le_refl _⟩ (Nat.le_of_ble_eq_true rfl) ?_
  intro r2 rf m1 hrf h hr2
  obtain ⟨m3, em3⟩ : ∃ z : MMt, z = up2 m1 x0 3 r2 := ⟨_, rfl⟩
  have h := h m3 em3
  refine G_putIW (ci := 1) (j := 3) (N := 5) pX1_stride_64 fw_RX1_21 rfl hx0.2 hx0.sh1 (by decide) rfl (fun _ => ⟨rfl, rfl⟩) em3.symm ?_
  refine G_aload_n (i := 0) pX1_stride_67 rfl rfl ?_
  refine G_getI (ci := 1) (j := 2) (N := 5) pX1_stride_68 fl_RX1_18 rfl hx0.2 hx0.sh1 (by decide) rfl ?_
  refine G_aload_n (i := 0) pX1_stride_71 rfl rfl ?_
  refine G_getI (ci := 1) (j := 3) (N := 5) pX1_stride_72 fl_RX1_21 rfl hx0.2 hx0.sh1 (by decide) rfl ?_
  refine G_iadd pX1_stride_75 ?_
  obtain ⟨v4, e4⟩ : ∃ z : Int32, z = (m3 x0 2) + (m3 x0 3) := ⟨_, rfl⟩
  have h := h v4 e4
  refine G_istoreW (L' := [some (.ref x0), none, some (.int x2), some (.int x3), none, some (.int s0), some (.int v4)]) pX1_stride_76 e4.symm rfl ?_
  refine G_aload_n (i := 0) pX1_stride_78 rfl rfl ?_
  refine G_iload (i := 6) pX1_stride_79 rfl ?_
  refine G_iconst pX1_stride_81 ic_0 ?_
  refine G_aload_n (i := 0) pX1_stride_82 rfl rfl ?_
  refine G_getI (ci := 1) (j := 4) (N := 5) pX1_stride_83 fl_RX1_24 rfl hx0.2 hx0.sh1 (by decide) rfl ?_
  refine G_aload_n (i := 0) pX1_stride_86 rfl rfl ?_
  refine G_callV0i (b := x0) (ci := 1) (N := 5) pX1_stride_87 (g_X1_reach x0 hx0 hrf _ h) mV_X1_reach ml_RX1_48 (by decide) ⟨Nat.le_refl _, Nat.le_refl _, Nat.le_refl _⟩ (Nat.le_of_ble_eq_true rfl) hx0.2 hx0.sh1 rfl ?_
  intro r6 rf m5 hrf h hr6
  refine G_isub pX1_stride_90 ?_
  refine G_callS2i pX1_stride_91 (g_J9_max_7cf53 (0 : Int32) ((m3 x0 4) - r6) hrf _ h) mS_J9_max_7cf53 ml_RX1_39 (by decide) ⟨Nat.le_refl _, Nat.le_refl _, Nat.le_refl _⟩ (Nat.le_of_ble_eq_true rfl) ?_
  intro r8 rf m7 hrf h hr8
  refine G_bipush pX1_stride_94 bi_40 ?_
  refine G_aload_n (i := 0) pX1_stride_96 rfl rfl ?_
  refine G_getI (ci := 1) (j := 4) (N := 5) pX1_stride_97 fl_RX1_24 rfl hx0.2 hx0.sh1 (by decide) rfl ?_
  refine G_aload_n (i := 0) pX1_stride_100 rfl rfl ?_
  refine G_callV0i (b := x0) (ci := 1) (N := 5) pX1_stride_101 (g_X1_reach x0 hx0 hrf _ h) mV_X1_reach ml_RX1_48 (by decide) ⟨Nat.le_refl _, Nat.le_refl _, Nat.le_refl _⟩ (Nat.le_of_ble_eq_true rfl) hx0.2 hx0.sh1 rfl ?_
  intro r10 rf m9 hrf h hr10
  refine G_iadd pX1_stride_104 ?_
  refine G_callS2i pX1_stride_105 (g_J9_min_7cf53 (40 : Int32) ((m7 x0 4) + r10) hrf _ h) mS_J9_min_7cf53 ml_RX1_45 (by decide) ⟨Nat.le_refl _, Nat.le_refl _, Nat.le_refl _⟩ (Nat.le_of_ble_eq_true rfl) ?_
  intro r12 rf m11 hrf h hr12
  refine G_callSN3i pX1_stride_108 (g_X9_held v4 r8 r12 hrf _ h) mS_X9_held (by decide) (by decide) ⟨Nat.le_refl _, Nat.le_refl _, Nat.le_refl _⟩ (Nat.le_of_ble_eq_true rfl) ?_
  intro r14 rf m13 hrf h hr14
  obtain ⟨m15, em15⟩ : ∃ z : MMt, z = up2 m13 x0 2 r14 := ⟨_, rfl⟩
  have h := h m15 em15
  refine G_putIW (ci := 1) (j := 2) (N := 5) pX1_stride_111 fw_RX1_18 rfl hx0.2 hx0.sh1 (by decide) rfl (fun _ => ⟨rfl, rfl⟩) em15.symm ?_
  refine G_aload_n (i := 0) pX1_stride_114 rfl rfl ?_
  refine G_getI (ci := 1) (j := 2) (N := 5) pX1_stride_115 fl_RX1_18 rfl hx0.2 hx0.sh1 (by decide) rfl ?_
  refine G_iload (i := 6) pX1_stride_118 rfl ?_
  refine G_icmp_eq pX1_stride_120 (fun c16 => ?_) (fun c16 => ?_)
  · have h := h.1 c16
    refine G_wk (L2 := [some (.ref x0), none, some (.int x2), some (.int x3), none, none, none]) ⟨Or.inr rfl, Or.inr rfl, Or.inr rfl, Or.inr rfl, Or.inr rfl, Or.inl rfl, Or.inl rfl, trivial⟩ ?_
    exact gB_X1_stride_128 q0 hq0 hrf x0 x2 x3 hx0 _ h
  · have h := h.2 c16
    refine G_aload_n (i := 0) pX1_stride_123 rfl rfl ?_
    refine G_iconst pX1_stride_124 ic_0 ?_
    obtain ⟨m17, em17⟩ : ∃ z : MMt, z = up2 m15 x0 3 (0 : Int32) := ⟨_, rfl⟩
    have h := h m17 em17
    refine G_putIW (ci := 1) (j := 3) (N := 5) pX1_stride_125 fw_RX1_21 rfl hx0.2 hx0.sh1 (by decide) rfl (fun _ => ⟨rfl, rfl⟩) em17.symm ?_
    refine G_wk (L2 := [some (.ref x0), none, some (.int x2), some (.int x3), none, none, none]) ⟨Or.inr rfl, Or.inr rfl, Or.inr rfl, Or.inr rfl, Or.inr rfl, Or.inl rfl, Or.inl rfl, trivial⟩ ?_
    exact gB_X1_stride_128 q0 hq0 hrf x0 x2 x3 hx0 _ h
def L_X1_stride (q0 : Nat) (a1 : Int32) (mem : MMt) (Q : Int32 → MMt → Prop) : Prop := (∀ v1 : Int32, v1 = mem q0 2 → (∀ v2 : Int32, v2 = mem q0 3 → L_X1_pulled q0 a1 mem (fun r4 m3 => (∀ v5 : Int32, v5 = (mem q0 3) + r4 → ((v5 ≤ 0 → L_X1_drag q0 m3 (fun r8 m7 => L_J9_min_7cf53 (0 : Int32) (v5 + r8) m7 (fun r10 m9 => B_X1_stride_52 q0 q0 v1 v2 r10 m9 Q))) ∧ (¬ v5 ≤ 0 → L_X1_drag q0 m3 (fun r12 m11 => L_J9_max_7cf53 (0 : Int32) (v5 - r12) m11 (fun r14 m13 => B_X1_stride_52 q0 q0 v1 v2 r14 m13 Q))))))))
set_option maxRecDepth 4000 in
theorem g_X1_stride {sx : Nat × (Nat → Int32)} {M : RFt → Prop} {rf : RFt} {Q : Int32 → MMt → Prop} (q0 : Nat) (a1 : Int32) (hq0 : IS 1 q0) (hrf : M rf) (mem : MMt) (h : L_X1_stride q0 a1 mem Q) : Ct sx yX1_stride cX1_stride 7 (some .boolean) 3 [.ref q0, .int a1] NX NX rf mem (QQi (M) Q) := by
  refine Ct_of [some (.ref q0), some (.int a1), none, none, none, none, none] (by decide +kernel) (by simp [Lof, Value.category]) rfl ?_
  unfold L_X1_stride at h
  refine G_aload_n (i := 0) pX1_stride_0 rfl rfl ?_
  refine G_getI (ci := 1) (j := 2) (N := 5) pX1_stride_1 fl_RX1_18 rfl hq0.2 hq0.sh1 (by decide) rfl ?_
  obtain ⟨v1, e1⟩ : ∃ z : Int32, z = mem q0 2 := ⟨_, rfl⟩
  have h := h v1 e1
  refine G_istore_nW (L' := [some (.ref q0), some (.int a1), some (.int v1), none, none, none, none]) pX1_stride_4 rfl e1.symm rfl ?_
  refine G_aload_n (i := 0) pX1_stride_5 rfl rfl ?_
  refine G_getI (ci := 1) (j := 3) (N := 5) pX1_stride_6 fl_RX1_21 rfl hq0.2 hq0.sh1 (by decide) rfl ?_
  obtain ⟨v2, e2⟩ : ∃ z : Int32, z = mem q0 3 := ⟨_, rfl⟩
  have h := h v2 e2
  refine G_istore_nW (L' := [some (.ref q0), some (.int a1), some (.int v1), some (.int v2), none, none, none]) pX1_stride_9 rfl e2.symm rfl ?_
  refine G_aload_n (i := 0) pX1_stride_10 rfl rfl ?_
  refine G_getI (ci := 1) (j := 3) (N := 5) pX1_stride_11 fl_RX1_21 rfl hq0.2 hq0.sh1 (by decide) rfl ?_
  refine G_aload_n (i := 0) pX1_stride_14 rfl rfl ?_
  refine G_iload_n (i := 1) pX1_stride_15 rfl rfl ?_
  refine G_callV1i (b := q0) (ci := 1) (N := 5) pX1_stride_16 (g_X1_pulled q0 a1 hq0 hrf _ h) mV_X1_pulled ml_RX1_31 (by decide) ⟨Nat.le_refl _, Nat.le_refl _, Nat.le_refl _⟩ (Nat.le_of_ble_eq_true rfl) hq0.2 hq0.sh1 rfl ?_
  intro r4 rf m3 hrf h hr4
  refine G_iadd pX1_stride_19 ?_
  obtain ⟨v5, e5⟩ : ∃ z : Int32, z = (mem q0 3) + r4 := ⟨_, rfl⟩
  have h := h v5 e5
  refine G_istoreW (L' := [some (.ref q0), some (.int a1), some (.int v1), some (.int v2), some (.int v5), none, none]) pX1_stride_20 e5.symm rfl ?_
  refine G_iload (i := 4) pX1_stride_22 rfl ?_
  refine G_if_le pX1_stride_24 (fun c6 => ?_) (fun c6 => ?_)
  · have h := h.1 c6
    refine G_iconst pX1_stride_41 ic_0 ?_
    refine G_iload (i := 4) pX1_stride_42 rfl ?_
    refine G_aload_n (i := 0) pX1_stride_44 rfl rfl ?_
    refine G_callV0i (b := q0) (ci := 1) (N := 5) pX1_stride_45 (g_X1_drag q0 hq0 hrf _ h) mV_X1_drag ml_RX1_35 (by decide) ⟨Nat.le_refl _, Nat.le_refl _, Nat.le_refl _⟩ (Nat.le_of_ble_eq_true rfl) hq0.2 hq0.sh1 rfl ?_
    intro r8 rf m7 hrf h hr8
    refine G_iadd pX1_stride_48 ?_
    refine G_callS2i pX1_stride_49 (g_J9_min_7cf53 (0 : Int32) (v5 + r8) hrf _ h) mS_J9_min_7cf53 ml_RX1_45 (by decide) ⟨Nat.le_refl _, Nat.le_refl _, Nat.le_refl _⟩ (Nat.le_of_ble_eq_true rfl) ?_
    intro r10 rf m9 hrf h hr10
    refine G_wk (L2 := [some (.ref q0), none, some (.int v1), some (.int v2), none, none, none]) ⟨Or.inr rfl, Or.inl rfl, Or.inr rfl, Or.inr rfl, Or.inl rfl, Or.inr rfl, Or.inr rfl, trivial⟩ ?_
    exact gB_X1_stride_52 q0 hq0 hrf q0 v1 v2 r10 hq0 _ h
  · have h := h.2 c6
    refine G_iconst pX1_stride_27 ic_0 ?_
    refine G_iload (i := 4) pX1_stride_28 rfl ?_
    refine G_aload_n (i := 0) pX1_stride_30 rfl rfl ?_
    refine G_callV0i (b := q0) (ci := 1) (N := 5) pX1_stride_31 (g_X1_drag q0 hq0 hrf _ h) mV_X1_drag ml_RX1_35 (by decide) ⟨Nat.le_refl _, Nat.le_refl _, Nat.le_refl _⟩ (Nat.le_of_ble_eq_true rfl) hq0.2 hq0.sh1 rfl ?_
    intro r12 rf m11 hrf h hr12
    refine G_isub pX1_stride_34 ?_
    refine G_callS2i pX1_stride_35 (g_J9_max_7cf53 (0 : Int32) (v5 - r12) hrf _ h) mS_J9_max_7cf53 ml_RX1_39 (by decide) ⟨Nat.le_refl _, Nat.le_refl _, Nat.le_refl _⟩ (Nat.le_of_ble_eq_true rfl) ?_
    intro r14 rf m13 hrf h hr14
    refine G_goto pX1_stride_38 ?_
    refine G_wk (L2 := [some (.ref q0), none, some (.int v1), some (.int v2), none, none, none]) ⟨Or.inr rfl, Or.inl rfl, Or.inr rfl, Or.inr rfl, Or.inl rfl, Or.inr rfl, Or.inr rfl, trivial⟩ ?_
    exact gB_X1_stride_52 q0 hq0 hrf q0 v1 v2 r14 hq0 _ h
def L_X7_goesOn (mem : MMt) (Q : Int32 → MMt → Prop) : Prop := L_X5_pullOf 54 mem (fun r2 m1 => L_X1_stride 54 r2 m1 (fun r4 m3 => Q r4 m3))
set_option maxRecDepth 4000 in
theorem g_X7_goesOn {sx : Nat × (Nat → Int32)} {rf : RFt} {Q : Int32 → MMt → Prop} (hrf : RFok rf) (mem : MMt) (h : L_X7_goesOn mem Q) : Ct sx yX7_goesOn cX7_goesOn 1 (some .boolean) 5 [.ref 53] NX NX rf mem (QQi (RFok) Q) := by
  refine Ct_of [some (.ref 53)] (by decide +kernel) (by simp [Lof, Value.category]) rfl ?_
  unfold L_X7_goesOn at h
  refine G_aload_n (i := 0) pX7_goesOn_0 rfl rfl ?_
  refine G_getR (ci := 7) (j := 0) (N := 2) pX7_goesOn_1 fl_RX7_12 rfl ltk_53 shk_53 (by decide) rfl (hrf.lit 53 0 rfl) ?_
  refine G_aload_n (i := 0) pX7_goesOn_4 rfl rfl ?_
  refine G_getR (ci := 7) (j := 1) (N := 2) pX7_goesOn_5 fl_RX7_18 rfl ltk_53 shk_53 (by decide) rfl (hrf.lit 53 1 rfl) ?_
  refine G_aload_n (i := 0) pX7_goesOn_8 rfl rfl ?_
  refine G_getR (ci := 7) (j := 0) (N := 2) pX7_goesOn_9 fl_RX7_12 rfl ltk_53 shk_53 (by decide) rfl (hrf.lit 53 0 rfl) ?_
  refine G_callV1i (b := 11) (ci := 5) (N := 10) pX7_goesOn_12 (g_X5_pullOf 54 (IS_lit shk_54 ltk_54) hrf _ h) mV_X5_pullOf ml_RX7_22 (by decide) ⟨Nat.le_refl _, Nat.le_refl _, Nat.le_refl _⟩ (Nat.le_of_ble_eq_true rfl) ltk_11 shk_11 rfl ?_
  intro r2 rf m1 hrf h hr2
  refine G_callV1i (b := 54) (ci := 1) (N := 5) pX7_goesOn_15 (g_X1_stride 54 r2 (IS_lit shk_54 ltk_54) hrf _ h) mV_X1_stride ml_RX7_28 (by decide) ⟨Nat.le_refl _, Nat.le_refl _, Nat.le_refl _⟩ (Nat.le_of_ble_eq_true rfl) ltk_54 shk_54 rfl ?_
  intro r4 rf m3 hrf h hr4
  exact G_ireturn (len := 1) pX7_goesOn_18 ⟨hrf, _, rfl, h⟩ hr4
def L_X7_stays (a1 : Nat) (mem : MMt) (Q : Int32 → MMt → Prop) : Prop := L_X1_copyFrom 54 a1 mem (fun m1 => L_X7_goesOn m1 (fun r3 m2 => ((¬ r3 = 0 → Q (0 : Int32) m2) ∧ (r3 = 0 → Q (1 : Int32) m2))))
set_option maxRecDepth 4000 in
theorem g_X7_stays {sx : Nat × (Nat → Int32)} {rf : RFt} {Q : Int32 → MMt → Prop} (a1 : Nat) (ha1 : IS 1 a1) (hrf : RFok rf) (mem : MMt) (h : L_X7_stays a1 mem Q) : Ct sx yX7_stays cX7_stays 2 (some .boolean) 6 [.ref 53, .ref a1] NX NX rf mem (QQi (RFok) Q) := by
  refine Ct_of [some (.ref 53), some (.ref a1)] (by decide +kernel) (by simp [Lof, Value.category]) rfl ?_
  unfold L_X7_stays at h
  refine G_aload_n (i := 0) pX7_stays_0 rfl rfl ?_
  refine G_getR (ci := 7) (j := 0) (N := 2) pX7_stays_1 fl_RX7_12 rfl ltk_53 shk_53 (by decide) rfl (hrf.lit 53 0 rfl) ?_
  refine G_aload_n (i := 1) pX7_stays_4 rfl rfl ?_
  refine G_callV1v (b := 54) (ci := 1) (N := 5) pX7_stays_5 (g_X1_copyFrom 54 a1 (IS_lit shk_54 ltk_54) ha1 hrf _ h) mV_X1_copyFrom ml_RX7_32 (by decide) ⟨Nat.le_refl _, Nat.le_refl _, Nat.le_refl _⟩ (Nat.le_of_ble_eq_true rfl) ltk_54 shk_54 rfl ?_
  intro rf m1 hrf h
  refine G_aload_n (i := 0) pX7_stays_8 rfl rfl ?_
  refine G_callV0i (b := 53) (ci := 7) (N := 2) pX7_stays_9 (g_X7_goesOn hrf _ h) mV_X7_goesOn ml_RX7_36 (by decide) ⟨Nat.le_refl _, Nat.le_refl _, Nat.le_refl _⟩ (Nat.le_of_ble_eq_true rfl) ltk_53 shk_53 rfl ?_
  intro r3 rf m2 hrf h hr3
  refine G_if_ne pX7_stays_12 (fun c4 => ?_) (fun c4 => ?_)
  · have h := h.1 c4
    refine G_iconst pX7_stays_19 ic_0 ?_
    exact G_ireturn (len := 1) pX7_stays_20 ⟨hrf, _, rfl, h⟩ ⟨_, rfl, rfl⟩
  · have h := h.2 c4
    refine G_iconst pX7_stays_15 ic_1 ?_
    refine G_goto pX7_stays_16 ?_
    exact G_ireturn (len := 1) pX7_stays_20 ⟨hrf, _, rfl, h⟩ ⟨_, rfl, rfl⟩
def L_X9_ofGood (a1 : Int32) (a2 : Int32) (mem : MMt) (Q : Int32 → MMt → Prop) : Prop := L_X9_isGood a1 mem (fun r2 m1 => ((r2 = 0 → L_X9_error (1 : Int32) m1 (fun r5 m4 => Q r5 m4)) ∧ (¬ r2 = 0 → L_X9_within a2 (0 : Int32) (9 : Int32) m1 (fun r7 m6 => ((¬ r7 = 0 → (vp_in a1 8 ∧ ((a2 < (0 : Int32) → L_X7_stays (1 + 2 + a1.toNatClampNeg) m6 (fun r11 m10 => ((r11 = 0 → Q (0 : Int32) m10) ∧ (¬ r11 = 0 → Q (1 : Int32) m10)))) ∧ ((8 : Int32) < a2 → L_X7_stays (1 + 2 + a1.toNatClampNeg) m6 (fun r11 m10 => ((r11 = 0 → Q (0 : Int32) m10) ∧ (¬ r11 = 0 → Q (1 : Int32) m10)))) ∧ (a2 = (0 : Int32) → Q (m6 (1 + 2 + a1.toNatClampNeg) 0) m6) ∧ (a2 = (1 : Int32) → Q (m6 (1 + 2 + a1.toNatClampNeg) 1) m6) ∧ (a2 = (2 : Int32) → Q (m6 (1 + 2 + a1.toNatClampNeg) 2) m6) ∧ (a2 = (3 : Int32) → Q (m6 (1 + 2 + a1.toNatClampNeg) 3) m6) ∧ (a2 = (4 : Int32) → Q (m6 (1 + 2 + a1.toNatClampNeg) 4) m6) ∧ (a2 = (5 : Int32) → L_X1_load (1 + 2 + a1.toNatClampNeg) m6 (fun r16 m15 => Q r16 m15)) ∧ (a2 = (6 : Int32) → L_X5_pullOf (1 + 2 + a1.toNatClampNeg) m6 (fun r18 m17 => L_X1_pulled (1 + 2 + a1.toNatClampNeg) r18 m17 (fun r20 m19 => Q r20 m19))) ∧ (a2 = (7 : Int32) → L_X1_drag (1 + 2 + a1.toNatClampNeg) m6 (fun r22 m21 => Q r22 m21)) ∧ (a2 = (8 : Int32) → L_X1_reach (1 + 2 + a1.toNatClampNeg) m6 (fun r24 m23 => Q r24 m23))))) ∧ (r7 = 0 → L_X9_error (1 : Int32) m6 (fun r26 m25 => Q r26 m25)))))))
set_option maxRecDepth 4000 in
theorem g_X9_ofGood {sx : Nat × (Nat → Int32)} {rf : RFt} {Q : Int32 → MMt → Prop} (a1 : Int32) (a2 : Int32) (hrf : RFok rf) (mem : MMt) (h : L_X9_ofGood a1 a2 mem Q) : Ct sx yX9_ofGood cX9_ofGood 4 (some .int) 7 [.ref 0, .int a1, .int a2] NX NX rf mem (QQi (RFok) Q) := by
  refine Ct_of [some (.ref 0), some (.int a1), some (.int a2), none] (by decide +kernel) (by simp [Lof, Value.category]) rfl ?_
  unfold L_X9_ofGood at h
  refine G_aload_n (i := 0) pX9_ofGood_0 rfl rfl ?_
  refine G_iload_n (i := 1) pX9_ofGood_1 rfl rfl ?_
  refine G_callV1i (b := 0) (ci := 9) (N := 12) pX9_ofGood_2 (g_X9_isGood a1 hrf _ h) mV_X9_isGood ml_RX9_101 (by decide) ⟨Nat.le_refl _, Nat.le_refl _, Nat.le_refl _⟩ (Nat.le_of_ble_eq_true rfl) ltk_0 shk_0 rfl ?_
  intro r2 rf m1 hrf h hr2
  refine G_if_eq pX9_ofGood_5 (fun c3 => ?_) (fun c3 => ?_)
  · have h := h.1 c3
    refine G_aload_n (i := 0) pX9_ofGood_18 rfl rfl ?_
    refine G_iconst pX9_ofGood_19 ic_1 ?_
    refine G_callV1i (b := 0) (ci := 9) (N := 12) pX9_ofGood_20 (g_X9_error (1 : Int32) hrf _ h) mV_X9_error ml_RX9_80 (by decide) ⟨Nat.le_refl _, Nat.le_refl _, Nat.le_refl _⟩ (Nat.le_of_ble_eq_true rfl) ltk_0 shk_0 rfl ?_
    intro r5 rf m4 hrf h hr5
    exact G_ireturn (len := 1) pX9_ofGood_23 ⟨hrf, _, rfl, h⟩ ⟨_, rfl, rfl⟩
  · have h := h.2 c3
    refine G_iload_n (i := 2) pX9_ofGood_8 rfl rfl ?_
    refine G_iconst pX9_ofGood_9 ic_0 ?_
    refine G_bipush pX9_ofGood_10 bi_9 ?_
    refine G_callS3i pX9_ofGood_12 (g_X9_within a2 (0 : Int32) (9 : Int32) hrf _ h) mS_X9_within ml_RX9_104 (by decide) ⟨Nat.le_refl _, Nat.le_refl _, Nat.le_refl _⟩ (Nat.le_of_ble_eq_true rfl) ?_
    intro r7 rf m6 hrf h hr7
    refine G_if_ne pX9_ofGood_15 (fun c8 => ?_) (fun c8 => ?_)
    · have h := h.1 c8
      refine G_aload_n (i := 0) pX9_ofGood_24 rfl rfl ?_
      refine G_getR (ci := 9) (j := 0) (N := 12) pX9_ofGood_25 fl_RX9_10 rfl ltk_0 shk_0 (by decide) rfl (hrf.lit 0 0 rfl) ?_
      refine G_getR (ci := 0) (j := 0) (N := 4) pX9_ofGood_28 fl_RX9_88 rfl ltk_1 shk_1 (by decide) rfl (hrf.lit 1 0 rfl) ?_
      refine G_iload_n (i := 1) pX9_ofGood_31 rfl rfl ?_
      obtain ⟨hi9, h⟩ := h
      refine G_aald pX9_ofGood_32 ltk_2 shk_2 (by decide) hi9 (gd_rf (IS_lit shk_1 ltk_1) hrf hi9) ?_
      refine G_astore_n (i := 3) (L' := [some (.ref 0), some (.int a1), some (.int a2), some (.ref (1 + 2 + a1.toNatClampNeg))]) pX9_ofGood_33 rfl rfl ?_
      refine G_iload_n (i := 2) pX9_ofGood_34 rfl rfl ?_
      by_cases c13 : a2 < (0 : Int32)
      · have h := h.1 c13
        refine G_tsOut (tgt := 137) pX9_ofGood_35 (Or.inl (ts_lt c13 (by decide))) (by decide) ?_
        refine G_aload_n (i := 0) pX9_ofGood_137 rfl rfl ?_
        refine G_getR (ci := 9) (j := 5) (N := 12) pX9_ofGood_138 fl_RX9_37 rfl ltk_0 shk_0 (by decide) rfl (hrf.lit 0 5 rfl) ?_
        refine G_aload_n (i := 3) pX9_ofGood_141 rfl rfl ?_
        refine G_callV1i (b := 53) (ci := 7) (N := 2) pX9_ofGood_142 (g_X7_stays (1 + 2 + a1.toNatClampNeg) (gd_in (IS_lit shk_1 ltk_1) hi9) hrf _ h) mV_X7_stays ml_RX9_140 (by decide) ⟨Nat.le_refl _, Nat.le_refl _, Nat.le_refl _⟩ (Nat.le_of_ble_eq_true rfl) ltk_53 shk_53 rfl ?_
        intro r11 rf m10 hrf h hr11
        refine G_if_eq pX9_ofGood_145 (fun c12 => ?_) (fun c12 => ?_)
        · have h := h.1 c12
          refine G_iconst pX9_ofGood_152 ic_0 ?_
          exact G_ireturn (len := 1) pX9_ofGood_153 ⟨hrf, _, rfl, h⟩ ⟨_, rfl, rfl⟩
        · have h := h.2 c12
          refine G_iconst pX9_ofGood_148 ic_1 ?_
          refine G_goto pX9_ofGood_149 ?_
          exact G_ireturn (len := 1) pX9_ofGood_153 ⟨hrf, _, rfl, h⟩ ⟨_, rfl, rfl⟩
      by_cases c14 : (8 : Int32) < a2
      · have h := h.2.1 c14
        refine G_tsOut (tgt := 137) pX9_ofGood_35 (Or.inr (ts_gt c14 (by decide))) (by decide) ?_
        refine G_aload_n (i := 0) pX9_ofGood_137 rfl rfl ?_
        refine G_getR (ci := 9) (j := 5) (N := 12) pX9_ofGood_138 fl_RX9_37 rfl ltk_0 shk_0 (by decide) rfl (hrf.lit 0 5 rfl) ?_
        refine G_aload_n (i := 3) pX9_ofGood_141 rfl rfl ?_
        refine G_callV1i (b := 53) (ci := 7) (N := 2) pX9_ofGood_142 (g_X7_stays (1 + 2 + a1.toNatClampNeg) (gd_in (IS_lit shk_1 ltk_1) hi9) hrf _ h) mV_X7_stays ml_RX9_140 (by decide) ⟨Nat.le_refl _, Nat.le_refl _, Nat.le_refl _⟩ (Nat.le_of_ble_eq_true rfl) ltk_53 shk_53 rfl ?_
        intro r11 rf m10 hrf h hr11
        refine G_if_eq pX9_ofGood_145 (fun c12 => ?_) (fun c12 => ?_)
        · have h := h.1 c12
          refine G_iconst pX9_ofGood_152 ic_0 ?_
          exact G_ireturn (len := 1) pX9_ofGood_153 ⟨hrf, _, rfl, h⟩ ⟨_, rfl, rfl⟩
        · have h := h.2 c12
          refine G_iconst pX9_ofGood_148 ic_1 ?_
          refine G_goto pX9_ofGood_149 ?_
          exact G_ireturn (len := 1) pX9_ofGood_153 ⟨hrf, _, rfl, h⟩ ⟨_, rfl, rfl⟩
      rcases tsx_0_8 c13 c14 with hc | hc | hc | hc | hc | hc | hc | hc | hc
      · have h := h.2.2.1 hc
        refine G_tsInE (v := (0 : Int32)) (off := 49) (tgt := 84) pX9_ofGood_35 hc (by decide) ?_
        refine G_aload_n (i := 3) pX9_ofGood_84 rfl rfl ?_
        refine G_getI (ci := 1) (j := 0) (N := 5) pX9_ofGood_85 fl_RX9_108 rfl (gd_in (IS_lit shk_1 ltk_1) hi9).2 (gd_in (IS_lit shk_1 ltk_1) hi9).sh1 (by decide) rfl ?_
        exact G_ireturn (len := 1) pX9_ofGood_88 ⟨hrf, _, rfl, h⟩ ⟨_, rfl, rfl⟩
      · have h := h.2.2.2.1 hc
        refine G_tsInE (v := (1 : Int32)) (off := 54) (tgt := 89) pX9_ofGood_35 hc (by decide) ?_
        refine G_aload_n (i := 3) pX9_ofGood_89 rfl rfl ?_
        refine G_getI (ci := 1) (j := 1) (N := 5) pX9_ofGood_90 fl_RX9_111 rfl (gd_in (IS_lit shk_1 ltk_1) hi9).2 (gd_in (IS_lit shk_1 ltk_1) hi9).sh1 (by decide) rfl ?_
        exact G_ireturn (len := 1) pX9_ofGood_93 ⟨hrf, _, rfl, h⟩ ⟨_, rfl, rfl⟩
      · have h := h.2.2.2.2.1 hc
        refine G_tsInE (v := (2 : Int32)) (off := 59) (tgt := 94) pX9_ofGood_35 hc (by decide) ?_
        refine G_aload_n (i := 3) pX9_ofGood_94 rfl rfl ?_
        refine G_getI (ci := 1) (j := 2) (N := 5) pX9_ofGood_95 fl_RX9_114 rfl (gd_in (IS_lit shk_1 ltk_1) hi9).2 (gd_in (IS_lit shk_1 ltk_1) hi9).sh1 (by decide) rfl ?_
        exact G_ireturn (len := 1) pX9_ofGood_98 ⟨hrf, _, rfl, h⟩ ⟨_, rfl, rfl⟩
      · have h := h.2.2.2.2.2.1 hc
        refine G_tsInE (v := (3 : Int32)) (off := 64) (tgt := 99) pX9_ofGood_35 hc (by decide) ?_
        refine G_aload_n (i := 3) pX9_ofGood_99 rfl rfl ?_
        refine G_getI (ci := 1) (j := 3) (N := 5) pX9_ofGood_100 fl_RX9_117 rfl (gd_in (IS_lit shk_1 ltk_1) hi9).2 (gd_in (IS_lit shk_1 ltk_1) hi9).sh1 (by decide) rfl ?_
        exact G_ireturn (len := 1) pX9_ofGood_103 ⟨hrf, _, rfl, h⟩ ⟨_, rfl, rfl⟩
      · have h := h.2.2.2.2.2.2.1 hc
        refine G_tsInE (v := (4 : Int32)) (off := 69) (tgt := 104) pX9_ofGood_35 hc (by decide) ?_
        refine G_aload_n (i := 3) pX9_ofGood_104 rfl rfl ?_
        refine G_getI (ci := 1) (j := 4) (N := 5) pX9_ofGood_105 fl_RX9_120 rfl (gd_in (IS_lit shk_1 ltk_1) hi9).2 (gd_in (IS_lit shk_1 ltk_1) hi9).sh1 (by decide) rfl ?_
        exact G_ireturn (len := 1) pX9_ofGood_108 ⟨hrf, _, rfl, h⟩ ⟨_, rfl, rfl⟩
      · have h := h.2.2.2.2.2.2.2.1 hc
        refine G_tsInE (v := (5 : Int32)) (off := 74) (tgt := 109) pX9_ofGood_35 hc (by decide) ?_
        refine G_aload_n (i := 3) pX9_ofGood_109 rfl rfl ?_
        refine G_callV0i (b := 1 + 2 + a1.toNatClampNeg) (ci := 1) (N := 5) pX9_ofGood_110 (g_X1_load (1 + 2 + a1.toNatClampNeg) (gd_in (IS_lit shk_1 ltk_1) hi9) hrf _ h) mV_X1_load ml_RX9_123 (by decide) ⟨Nat.le_refl _, Nat.le_refl _, Nat.le_refl _⟩ (Nat.le_of_ble_eq_true rfl) (gd_in (IS_lit shk_1 ltk_1) hi9).2 (gd_in (IS_lit shk_1 ltk_1) hi9).sh1 rfl ?_
        intro r16 rf m15 hrf h hr16
        exact G_ireturn (len := 1) pX9_ofGood_113 ⟨hrf, _, rfl, h⟩ ⟨_, rfl, rfl⟩
      · have h := h.2.2.2.2.2.2.2.2.1 hc
        refine G_tsInE (v := (6 : Int32)) (off := 79) (tgt := 114) pX9_ofGood_35 hc (by decide) ?_
        refine G_aload_n (i := 3) pX9_ofGood_114 rfl rfl ?_
        refine G_aload_n (i := 0) pX9_ofGood_115 rfl rfl ?_
        refine G_getR (ci := 9) (j := 1) (N := 12) pX9_ofGood_116 fl_RX9_19 rfl ltk_0 shk_0 (by decide) rfl (hrf.lit 0 1 rfl) ?_
        refine G_aload_n (i := 3) pX9_ofGood_119 rfl rfl ?_
        refine G_callV1i (b := 11) (ci := 5) (N := 10) pX9_ofGood_120 (g_X5_pullOf (1 + 2 + a1.toNatClampNeg) (gd_in (IS_lit shk_1 ltk_1) hi9) hrf _ h) mV_X5_pullOf ml_RX9_127 (by decide) ⟨Nat.le_refl _, Nat.le_refl _, Nat.le_refl _⟩ (Nat.le_of_ble_eq_true rfl) ltk_11 shk_11 rfl ?_
        intro r18 rf m17 hrf h hr18
        refine G_callV1i (b := 1 + 2 + a1.toNatClampNeg) (ci := 1) (N := 5) pX9_ofGood_123 (g_X1_pulled (1 + 2 + a1.toNatClampNeg) r18 (gd_in (IS_lit shk_1 ltk_1) hi9) hrf _ h) mV_X1_pulled ml_RX9_131 (by decide) ⟨Nat.le_refl _, Nat.le_refl _, Nat.le_refl _⟩ (Nat.le_of_ble_eq_true rfl) (gd_in (IS_lit shk_1 ltk_1) hi9).2 (gd_in (IS_lit shk_1 ltk_1) hi9).sh1 rfl ?_
        intro r20 rf m19 hrf h hr20
        exact G_ireturn (len := 1) pX9_ofGood_126 ⟨hrf, _, rfl, h⟩ ⟨_, rfl, rfl⟩
      · have h := h.2.2.2.2.2.2.2.2.2.1 hc
        refine G_tsInE (v := (7 : Int32)) (off := 92) (tgt := 127) pX9_ofGood_35 hc (by decide) ?_
        refine G_aload_n (i := 3) pX9_ofGood_127 rfl rfl ?_
        refine G_callV0i (b := 1 + 2 + a1.toNatClampNeg) (ci := 1) (N := 5) pX9_ofGood_128 (g_X1_drag (1 + 2 + a1.toNatClampNeg) (gd_in (IS_lit shk_1 ltk_1) hi9) hrf _ h) mV_X1_drag ml_RX9_134 (by decide) ⟨Nat.le_refl _, Nat.le_refl _, Nat.le_refl _⟩ (Nat.le_of_ble_eq_true rfl) (gd_in (IS_lit shk_1 ltk_1) hi9).2 (gd_in (IS_lit shk_1 ltk_1) hi9).sh1 rfl ?_
        intro r22 rf m21 hrf h hr22
        exact G_ireturn (len := 1) pX9_ofGood_131 ⟨hrf, _, rfl, h⟩ ⟨_, rfl, rfl⟩
      · have h := h.2.2.2.2.2.2.2.2.2.2 hc
        refine G_tsInE (v := (8 : Int32)) (off := 97) (tgt := 132) pX9_ofGood_35 hc (by decide) ?_
        refine G_aload_n (i := 3) pX9_ofGood_132 rfl rfl ?_
        refine G_callV0i (b := 1 + 2 + a1.toNatClampNeg) (ci := 1) (N := 5) pX9_ofGood_133 (g_X1_reach (1 + 2 + a1.toNatClampNeg) (gd_in (IS_lit shk_1 ltk_1) hi9) hrf _ h) mV_X1_reach ml_RX9_137 (by decide) ⟨Nat.le_refl _, Nat.le_refl _, Nat.le_refl _⟩ (Nat.le_of_ble_eq_true rfl) (gd_in (IS_lit shk_1 ltk_1) hi9).2 (gd_in (IS_lit shk_1 ltk_1) hi9).sh1 rfl ?_
        intro r24 rf m23 hrf h hr24
        exact G_ireturn (len := 1) pX9_ofGood_136 ⟨hrf, _, rfl, h⟩ ⟨_, rfl, rfl⟩
    · have h := h.2 c8
      refine G_aload_n (i := 0) pX9_ofGood_18 rfl rfl ?_
      refine G_iconst pX9_ofGood_19 ic_1 ?_
      refine G_callV1i (b := 0) (ci := 9) (N := 12) pX9_ofGood_20 (g_X9_error (1 : Int32) hrf _ h) mV_X9_error ml_RX9_80 (by decide) ⟨Nat.le_refl _, Nat.le_refl _, Nat.le_refl _⟩ (Nat.le_of_ble_eq_true rfl) ltk_0 shk_0 rfl ?_
      intro r26 rf m25 hrf h hr26
      exact G_ireturn (len := 1) pX9_ofGood_23 ⟨hrf, _, rfl, h⟩ ⟨_, rfl, rfl⟩
def L_X9_become (a1 : Int32) (a2 : Int32) (mem : MMt) (Q : Int32 → MMt → Prop) : Prop := L_X9_isGood a1 mem (fun r2 m1 => ((r2 = 0 → L_X9_error (1 : Int32) m1 (fun r5 m4 => Q r5 m4)) ∧ (¬ r2 = 0 → L_X9_isKm a2 m1 (fun r7 m6 => ((¬ r7 = 0 → (vp_in a1 8 ∧ (∀ v10 : Int32, v10 = m6 (1 + 2 + a1.toNatClampNeg) 0 → (vp_in a1 8 ∧ L_X1_turnInto (1 + 2 + a1.toNatClampNeg) a2 m6 (fun m12 => Q v10 m12))))) ∧ (r7 = 0 → L_X9_error (1 : Int32) m6 (fun r14 m13 => Q r14 m13)))))))
set_option maxRecDepth 4000 in
theorem g_X9_become {sx : Nat × (Nat → Int32)} {rf : RFt} {Q : Int32 → MMt → Prop} (a1 : Int32) (a2 : Int32) (hrf : RFok rf) (mem : MMt) (h : L_X9_become a1 a2 mem Q) : Ct sx yX9_become cX9_become 4 (some .int) 3 [.ref 0, .int a1, .int a2] NX NX rf mem (QQi (RFok) Q) := by
  refine Ct_of [some (.ref 0), some (.int a1), some (.int a2), none] (by decide +kernel) (by simp [Lof, Value.category]) rfl ?_
  unfold L_X9_become at h
  refine G_aload_n (i := 0) pX9_become_0 rfl rfl ?_
  refine G_iload_n (i := 1) pX9_become_1 rfl rfl ?_
  refine G_callV1i (b := 0) (ci := 9) (N := 12) pX9_become_2 (g_X9_isGood a1 hrf _ h) mV_X9_isGood ml_RX9_101 (by decide) ⟨Nat.le_refl _, Nat.le_refl _, Nat.le_refl _⟩ (Nat.le_of_ble_eq_true rfl) ltk_0 shk_0 rfl ?_
  intro r2 rf m1 hrf h hr2
  refine G_if_eq pX9_become_5 (fun c3 => ?_) (fun c3 => ?_)
  · have h := h.1 c3
    refine G_aload_n (i := 0) pX9_become_15 rfl rfl ?_
    refine G_iconst pX9_become_16 ic_1 ?_
    refine G_callV1i (b := 0) (ci := 9) (N := 12) pX9_become_17 (g_X9_error (1 : Int32) hrf _ h) mV_X9_error ml_RX9_80 (by decide) ⟨Nat.le_refl _, Nat.le_refl _, Nat.le_refl _⟩ (Nat.le_of_ble_eq_true rfl) ltk_0 shk_0 rfl ?_
    intro r5 rf m4 hrf h hr5
    exact G_ireturn (len := 1) pX9_become_20 ⟨hrf, _, rfl, h⟩ ⟨_, rfl, rfl⟩
  · have h := h.2 c3
    refine G_iload_n (i := 2) pX9_become_8 rfl rfl ?_
    refine G_callS1i pX9_become_9 (g_X9_isKm a2 hrf _ h) mS_X9_isKm ml_RX9_73 (by decide) ⟨Nat.le_refl _, Nat.le_refl _, Nat.le_refl _⟩ (Nat.le_of_ble_eq_true rfl) ?_
    intro r7 rf m6 hrf h hr7
    refine G_if_ne pX9_become_12 (fun c8 => ?_) (fun c8 => ?_)
    · have h := h.1 c8
      refine G_aload_n (i := 0) pX9_become_21 rfl rfl ?_
      refine G_getR (ci := 9) (j := 0) (N := 12) pX9_become_22 fl_RX9_10 rfl ltk_0 shk_0 (by decide) rfl (hrf.lit 0 0 rfl) ?_
      refine G_getR (ci := 0) (j := 0) (N := 4) pX9_become_25 fl_RX9_88 rfl ltk_1 shk_1 (by decide) rfl (hrf.lit 1 0 rfl) ?_
      refine G_iload_n (i := 1) pX9_become_28 rfl rfl ?_
      obtain ⟨hi9, h⟩ := h
      refine G_aald pX9_become_29 ltk_2 shk_2 (by decide) hi9 (gd_rf (IS_lit shk_1 ltk_1) hrf hi9) ?_
      refine G_getI (ci := 1) (j := 0) (N := 5) pX9_become_30 fl_RX9_108 rfl (gd_in (IS_lit shk_1 ltk_1) hi9).2 (gd_in (IS_lit shk_1 ltk_1) hi9).sh1 (by decide) rfl ?_
      obtain ⟨v10, e10⟩ : ∃ z : Int32, z = m6 (1 + 2 + a1.toNatClampNeg) 0 := ⟨_, rfl⟩
      have h := h v10 e10
      refine G_istore_nW (L' := [some (.ref 0), some (.int a1), some (.int a2), some (.int v10)]) pX9_become_33 rfl e10.symm rfl ?_
      refine G_aload_n (i := 0) pX9_become_34 rfl rfl ?_
      refine G_getR (ci := 9) (j := 0) (N := 12) pX9_become_35 fl_RX9_10 rfl ltk_0 shk_0 (by decide) rfl (hrf.lit 0 0 rfl) ?_
      refine G_getR (ci := 0) (j := 0) (N := 4) pX9_become_38 fl_RX9_88 rfl ltk_1 shk_1 (by decide) rfl (hrf.lit 1 0 rfl) ?_
      refine G_iload_n (i := 1) pX9_become_41 rfl rfl ?_
      obtain ⟨hi11, h⟩ := h
      refine G_aald pX9_become_42 ltk_2 shk_2 (by decide) hi11 (gd_rf (IS_lit shk_1 ltk_1) hrf hi11) ?_
      refine G_iload_n (i := 2) pX9_become_43 rfl rfl ?_
      refine G_callV1v (b := 1 + 2 + a1.toNatClampNeg) (ci := 1) (N := 5) pX9_become_44 (g_X1_turnInto (1 + 2 + a1.toNatClampNeg) a2 (gd_in (IS_lit shk_1 ltk_1) hi11) hrf _ h) mV_X1_turnInto ml_RX9_92 (by decide) ⟨Nat.le_refl _, Nat.le_refl _, Nat.le_refl _⟩ (Nat.le_of_ble_eq_true rfl) (gd_in (IS_lit shk_1 ltk_1) hi11).2 (gd_in (IS_lit shk_1 ltk_1) hi11).sh1 rfl ?_
      intro rf m12 hrf h
      refine G_iload_n (i := 3) pX9_become_47 rfl rfl ?_
      exact G_ireturn (len := 1) pX9_become_48 ⟨hrf, _, rfl, h⟩ ⟨_, rfl, rfl⟩
    · have h := h.2 c8
      refine G_aload_n (i := 0) pX9_become_15 rfl rfl ?_
      refine G_iconst pX9_become_16 ic_1 ?_
      refine G_callV1i (b := 0) (ci := 9) (N := 12) pX9_become_17 (g_X9_error (1 : Int32) hrf _ h) mV_X9_error ml_RX9_80 (by decide) ⟨Nat.le_refl _, Nat.le_refl _, Nat.le_refl _⟩ (Nat.le_of_ble_eq_true rfl) ltk_0 shk_0 rfl ?_
      intro r14 rf m13 hrf h hr14
      exact G_ireturn (len := 1) pX9_become_20 ⟨hrf, _, rfl, h⟩ ⟨_, rfl, rfl⟩
def B_X9_isUnder_4 (x1 : Int32) (x2 : Int32) (x3 : Int32) (mem : MMt) (Q : Int32 → MMt → Prop) : Prop := LOOP (σ := Int32 × Int32 × MMt) (fun X4 z => (fun (x2 : Int32) (x3 : Int32) (mem : MMt) => (((7 : Int32) ≤ x3 → Q (0 : Int32) mem) ∧ (¬ (7 : Int32) ≤ x3 → ((x2 < 0 → Q (0 : Int32) mem) ∧ (¬ x2 < 0 → ((¬ x2 = x1 → (vp_in x2 7 ∧ (∀ v5 : Int32, v5 = aboveF x2.toNatClampNeg → (∀ v6 : Int32, v6 = x3 + (1 : Int32) → X4 (v5, v6, mem))))) ∧ (x2 = x1 → Q (1 : Int32) mem))))))) z.1 z.2.1 z.2.2) (x2, x3, mem)
set_option maxRecDepth 4000 in
theorem gB_X9_isUnder_4 {sx : Nat × (Nat → Int32)} {M : RFt → Prop} {rf : RFt} {Q : Int32 → MMt → Prop} (hrf : M rf) (x1 : Int32) (x2 : Int32) (x3 : Int32) (mem : MMt) (h : B_X9_isUnder_4 x1 x2 x3 mem Q) : G sx yX9_isUnder cX9_isUnder 4 (some .boolean) 1 NX NX (QQi (M) Q) NX rf mem 4 [none, some (.int x1), some (.int x2), some (.int x3)] [] := by
  obtain ⟨I, ⟨n, h0⟩, hI⟩ := h
  have key : ∀ (n : Nat) (rf : RFt) (x2 : Int32) (x3 : Int32) (mem : MMt), M rf → I n (x2, x3, mem) → G sx yX9_isUnder cX9_isUnder 4 (some .boolean) 1 NX NX (QQi (M) Q) NX rf mem 4 [none, some (.int x1), some (.int x2), some (.int x3)] [] := by
    intro n
    induction n using Nat.strongRecOn with
    | _ n ih =>
    intro rf x2 x3 mem hrf h0
    have hX4 : ∀ (rf : RFt) (x2 : Int32) (x3 : Int32) (mem : MMt), M rf → (fun s' => ∃ m, m < n ∧ I m s') (x2, x3, mem) → G sx yX9_isUnder cX9_isUnder 4 (some .boolean) 1 NX NX (QQi (M) Q) NX rf mem 4 [none, some (.int x1), some (.int x2), some (.int x3)] [] := fun rf x2 x3 mem hrf ⟨m, hm, hi⟩ => ih m hm rf x2 x3 mem hrf hi
    have h := hI n _ h0
    clear ih h0
    try dsimp only at h
    refine G_iload_n (i := 3) pX9_isUnder_4 rfl rfl ?_
    refine G_bipush pX9_isUnder_5 bi_7 ?_
    refine G_icmp_ge pX9_isUnder_7 (fun c1 => ?_) (fun c1 => ?_)
    · have h := h.1 c1
      refine G_iconst pX9_isUnder_33 ic_0 ?_
      exact G_ireturn (len := 1) pX9_isUnder_34 ⟨hrf, _, rfl, h⟩ ⟨_, rfl, rfl⟩
    · have h := h.2 c1
      refine G_iload_n (i := 2) pX9_isUnder_10 rfl rfl ?_
      refine G_if_lt pX9_isUnder_11 (fun c2 => ?_) (fun c2 => ?_)
      · have h := h.1 c2
        refine G_iconst pX9_isUnder_33 ic_0 ?_
        exact G_ireturn (len := 1) pX9_isUnder_34 ⟨hrf, _, rfl, h⟩ ⟨_, rfl, rfl⟩
      · have h := h.2 c2
        refine G_iload_n (i := 2) pX9_isUnder_14 rfl rfl ?_
        refine G_iload_n (i := 1) pX9_isUnder_15 rfl rfl ?_
        refine G_icmp_ne pX9_isUnder_16 (fun c3 => ?_) (fun c3 => ?_)
        · have h := h.1 c3
          refine G_gsAboveO pX9_isUnder_21 wf_RX9_331 ?_
          refine G_iload_n (i := 2) pX9_isUnder_24 rfl rfl ?_
          obtain ⟨hi4, h⟩ := h
          refine G_ldAbove pX9_isUnder_25 hi4 ?_
          obtain ⟨v5, e5⟩ : ∃ z : Int32, z = aboveF x2.toNatClampNeg := ⟨_, rfl⟩
          have h := h v5 e5
          refine G_istore_nW (L' := [none, some (.int x1), some (.int v5), some (.int x3)]) pX9_isUnder_26 rfl e5.symm rfl ?_
          obtain ⟨v6, e6⟩ : ∃ z : Int32, z = x3 + (1 : Int32) := ⟨_, rfl⟩
          have h := h v6 e6
          refine G_iincW (L' := [none, some (.int x1), some (.int v5), some (.int v6)]) pX9_isUnder_27 rfl ic_1 e6.symm rfl ?_
          refine G_goto pX9_isUnder_30 ?_
          exact hX4 _ _ _ _ hrf h
        · have h := h.2 c3
          refine G_iconst pX9_isUnder_19 ic_1 ?_
          exact G_ireturn (len := 1) pX9_isUnder_20 ⟨hrf, _, rfl, h⟩ ⟨_, rfl, rfl⟩
  exact key n rf _ _ _ hrf h0
def L_X9_isUnder (a1 : Int32) (a2 : Int32) (mem : MMt) (Q : Int32 → MMt → Prop) : Prop := B_X9_isUnder_4 a2 a1 (0 : Int32) mem Q
set_option maxRecDepth 4000 in
theorem g_X9_isUnder {sx : Nat × (Nat → Int32)} {M : RFt → Prop} {rf : RFt} {Q : Int32 → MMt → Prop} (a1 : Int32) (a2 : Int32) (hrf : M rf) (mem : MMt) (h : L_X9_isUnder a1 a2 mem Q) : Ct sx yX9_isUnder cX9_isUnder 4 (some .boolean) 1 [.int a1, .int a2] NX NX rf mem (QQi (M) Q) := by
  refine Ct_of [some (.int a1), some (.int a2), none, none] (by decide +kernel) (by simp [Lof, Value.category]) rfl ?_
  unfold L_X9_isUnder at h
  refine G_iload_n (i := 0) pX9_isUnder_0 rfl rfl ?_
  refine G_istore_n (i := 2) (L' := [some (.int a1), some (.int a2), some (.int a1), none]) pX9_isUnder_1 rfl rfl ?_
  refine G_iconst pX9_isUnder_2 ic_0 ?_
  refine G_istore_n (i := 3) (L' := [some (.int a1), some (.int a2), some (.int a1), some (.int (0 : Int32))]) pX9_isUnder_3 rfl rfl ?_
  refine G_wk (L2 := [none, some (.int a2), some (.int a1), some (.int (0 : Int32))]) ⟨Or.inl rfl, Or.inr rfl, Or.inr rfl, Or.inr rfl, trivial⟩ ?_
  exact gB_X9_isUnder_4 hrf a2 a1 (0 : Int32) _ h
def L_X9_as (a1 : Int32) (a2 : Int32) (mem : MMt) (Q : Int32 → MMt → Prop) : Prop := L_X9_isGood a1 mem (fun r2 m1 => ((r2 = 0 → L_X9_error (1 : Int32) m1 (fun r5 m4 => Q r5 m4)) ∧ (¬ r2 = 0 → L_X9_within a2 (0 : Int32) (6 : Int32) m1 (fun r7 m6 => ((¬ r7 = 0 → (vp_in a1 8 ∧ L_X9_isUnder (m6 (1 + 2 + a1.toNatClampNeg) 0) a2 m6 (fun r11 m10 => ((¬ r11 = 0 → (vp_in a1 8 ∧ Q (m10 (1 + 2 + a1.toNatClampNeg) 1) m10)) ∧ (r11 = 0 → L_X9_error (5 : Int32) m10 (fun r15 m14 => Q r15 m14)))))) ∧ (r7 = 0 → L_X9_error (1 : Int32) m6 (fun r17 m16 => Q r17 m16)))))))
set_option maxRecDepth 4000 in
theorem g_X9_as {sx : Nat × (Nat → Int32)} {rf : RFt} {Q : Int32 → MMt → Prop} (a1 : Int32) (a2 : Int32) (hrf : RFok rf) (mem : MMt) (h : L_X9_as a1 a2 mem Q) : Ct sx yX9_as cX9_as 3 (some .int) 3 [.ref 0, .int a1, .int a2] NX NX rf mem (QQi (RFok) Q) := by
  refine Ct_of [some (.ref 0), some (.int a1), some (.int a2)] (by decide +kernel) (by simp [Lof, Value.category]) rfl ?_
  unfold L_X9_as at h
  refine G_aload_n (i := 0) pX9_as_0 rfl rfl ?_
  refine G_iload_n (i := 1) pX9_as_1 rfl rfl ?_
  refine G_callV1i (b := 0) (ci := 9) (N := 12) pX9_as_2 (g_X9_isGood a1 hrf _ h) mV_X9_isGood ml_RX9_101 (by decide) ⟨Nat.le_refl _, Nat.le_refl _, Nat.le_refl _⟩ (Nat.le_of_ble_eq_true rfl) ltk_0 shk_0 rfl ?_
  intro r2 rf m1 hrf h hr2
  refine G_if_eq pX9_as_5 (fun c3 => ?_) (fun c3 => ?_)
  · have h := h.1 c3
    refine G_aload_n (i := 0) pX9_as_18 rfl rfl ?_
    refine G_iconst pX9_as_19 ic_1 ?_
    refine G_callV1i (b := 0) (ci := 9) (N := 12) pX9_as_20 (g_X9_error (1 : Int32) hrf _ h) mV_X9_error ml_RX9_80 (by decide) ⟨Nat.le_refl _, Nat.le_refl _, Nat.le_refl _⟩ (Nat.le_of_ble_eq_true rfl) ltk_0 shk_0 rfl ?_
    intro r5 rf m4 hrf h hr5
    exact G_ireturn (len := 1) pX9_as_23 ⟨hrf, _, rfl, h⟩ ⟨_, rfl, rfl⟩
  · have h := h.2 c3
    refine G_iload_n (i := 2) pX9_as_8 rfl rfl ?_
    refine G_iconst pX9_as_9 ic_0 ?_
    refine G_bipush pX9_as_10 bi_6 ?_
    refine G_callS3i pX9_as_12 (g_X9_within a2 (0 : Int32) (6 : Int32) hrf _ h) mS_X9_within ml_RX9_104 (by decide) ⟨Nat.le_refl _, Nat.le_refl _, Nat.le_refl _⟩ (Nat.le_of_ble_eq_true rfl) ?_
    intro r7 rf m6 hrf h hr7
    refine G_if_ne pX9_as_15 (fun c8 => ?_) (fun c8 => ?_)
    · have h := h.1 c8
      refine G_aload_n (i := 0) pX9_as_24 rfl rfl ?_
      refine G_getR (ci := 9) (j := 0) (N := 12) pX9_as_25 fl_RX9_10 rfl ltk_0 shk_0 (by decide) rfl (hrf.lit 0 0 rfl) ?_
      refine G_getR (ci := 0) (j := 0) (N := 4) pX9_as_28 fl_RX9_88 rfl ltk_1 shk_1 (by decide) rfl (hrf.lit 1 0 rfl) ?_
      refine G_iload_n (i := 1) pX9_as_31 rfl rfl ?_
      obtain ⟨hi9, h⟩ := h
      refine G_aald pX9_as_32 ltk_2 shk_2 (by decide) hi9 (gd_rf (IS_lit shk_1 ltk_1) hrf hi9) ?_
      refine G_getI (ci := 1) (j := 0) (N := 5) pX9_as_33 fl_RX9_108 rfl (gd_in (IS_lit shk_1 ltk_1) hi9).2 (gd_in (IS_lit shk_1 ltk_1) hi9).sh1 (by decide) rfl ?_
      refine G_iload_n (i := 2) pX9_as_36 rfl rfl ?_
      refine G_callS2i pX9_as_37 (g_X9_isUnder (m6 (1 + 2 + a1.toNatClampNeg) 0) a2 hrf _ h) mS_X9_isUnder ml_RX9_144 (by decide) ⟨Nat.le_refl _, Nat.le_refl _, Nat.le_refl _⟩ (Nat.le_of_ble_eq_true rfl) ?_
      intro r11 rf m10 hrf h hr11
      refine G_if_ne pX9_as_40 (fun c12 => ?_) (fun c12 => ?_)
      · have h := h.1 c12
        refine G_aload_n (i := 0) pX9_as_49 rfl rfl ?_
        refine G_getR (ci := 9) (j := 0) (N := 12) pX9_as_50 fl_RX9_10 rfl ltk_0 shk_0 (by decide) rfl (hrf.lit 0 0 rfl) ?_
        refine G_getR (ci := 0) (j := 0) (N := 4) pX9_as_53 fl_RX9_88 rfl ltk_1 shk_1 (by decide) rfl (hrf.lit 1 0 rfl) ?_
        refine G_iload_n (i := 1) pX9_as_56 rfl rfl ?_
        obtain ⟨hi13, h⟩ := h
        refine G_aald pX9_as_57 ltk_2 shk_2 (by decide) hi13 (gd_rf (IS_lit shk_1 ltk_1) hrf hi13) ?_
        refine G_getI (ci := 1) (j := 1) (N := 5) pX9_as_58 fl_RX9_111 rfl (gd_in (IS_lit shk_1 ltk_1) hi13).2 (gd_in (IS_lit shk_1 ltk_1) hi13).sh1 (by decide) rfl ?_
        exact G_ireturn (len := 1) pX9_as_61 ⟨hrf, _, rfl, h⟩ ⟨_, rfl, rfl⟩
      · have h := h.2 c12
        refine G_aload_n (i := 0) pX9_as_43 rfl rfl ?_
        refine G_iconst pX9_as_44 ic_5 ?_
        refine G_callV1i (b := 0) (ci := 9) (N := 12) pX9_as_45 (g_X9_error (5 : Int32) hrf _ h) mV_X9_error ml_RX9_80 (by decide) ⟨Nat.le_refl _, Nat.le_refl _, Nat.le_refl _⟩ (Nat.le_of_ble_eq_true rfl) ltk_0 shk_0 rfl ?_
        intro r15 rf m14 hrf h hr15
        exact G_ireturn (len := 1) pX9_as_48 ⟨hrf, _, rfl, h⟩ ⟨_, rfl, rfl⟩
    · have h := h.2 c8
      refine G_aload_n (i := 0) pX9_as_18 rfl rfl ?_
      refine G_iconst pX9_as_19 ic_1 ?_
      refine G_callV1i (b := 0) (ci := 9) (N := 12) pX9_as_20 (g_X9_error (1 : Int32) hrf _ h) mV_X9_error ml_RX9_80 (by decide) ⟨Nat.le_refl _, Nat.le_refl _, Nat.le_refl _⟩ (Nat.le_of_ble_eq_true rfl) ltk_0 shk_0 rfl ?_
      intro r17 rf m16 hrf h hr17
      exact G_ireturn (len := 1) pX9_as_23 ⟨hrf, _, rfl, h⟩ ⟨_, rfl, rfl⟩
def L_X9_place (a1 : Int32) (a2 : Int32) (mem : MMt) (Q : Int32 → MMt → Prop) : Prop := L_X9_isGood a1 mem (fun r2 m1 => ((r2 = 0 → L_X9_error (1 : Int32) m1 (fun r5 m4 => Q r5 m4)) ∧ (¬ r2 = 0 → L_X9_isFloor a2 m1 (fun r7 m6 => ((¬ r7 = 0 → (vp_in a1 8 ∧ (∀ v10 : Int32, v10 = m6 (1 + 2 + a1.toNatClampNeg) 2 → (vp_in a1 8 ∧ L_X1_standAt (1 + 2 + a1.toNatClampNeg) a2 m6 (fun m12 => Q v10 m12))))) ∧ (r7 = 0 → L_X9_error (1 : Int32) m6 (fun r14 m13 => Q r14 m13)))))))
set_option maxRecDepth 4000 in
theorem g_X9_place {sx : Nat × (Nat → Int32)} {rf : RFt} {Q : Int32 → MMt → Prop} (a1 : Int32) (a2 : Int32) (hrf : RFok rf) (mem : MMt) (h : L_X9_place a1 a2 mem Q) : Ct sx yX9_place cX9_place 4 (some .int) 3 [.ref 0, .int a1, .int a2] NX NX rf mem (QQi (RFok) Q) := by
  refine Ct_of [some (.ref 0), some (.int a1), some (.int a2), none] (by decide +kernel) (by simp [Lof, Value.category]) rfl ?_
  unfold L_X9_place at h
  refine G_aload_n (i := 0) pX9_place_0 rfl rfl ?_
  refine G_iload_n (i := 1) pX9_place_1 rfl rfl ?_
  refine G_callV1i (b := 0) (ci := 9) (N := 12) pX9_place_2 (g_X9_isGood a1 hrf _ h) mV_X9_isGood ml_RX9_101 (by decide) ⟨Nat.le_refl _, Nat.le_refl _, Nat.le_refl _⟩ (Nat.le_of_ble_eq_true rfl) ltk_0 shk_0 rfl ?_
  intro r2 rf m1 hrf h hr2
  refine G_if_eq pX9_place_5 (fun c3 => ?_) (fun c3 => ?_)
  · have h := h.1 c3
    refine G_aload_n (i := 0) pX9_place_15 rfl rfl ?_
    refine G_iconst pX9_place_16 ic_1 ?_
    refine G_callV1i (b := 0) (ci := 9) (N := 12) pX9_place_17 (g_X9_error (1 : Int32) hrf _ h) mV_X9_error ml_RX9_80 (by decide) ⟨Nat.le_refl _, Nat.le_refl _, Nat.le_refl _⟩ (Nat.le_of_ble_eq_true rfl) ltk_0 shk_0 rfl ?_
    intro r5 rf m4 hrf h hr5
    exact G_ireturn (len := 1) pX9_place_20 ⟨hrf, _, rfl, h⟩ ⟨_, rfl, rfl⟩
  · have h := h.2 c3
    refine G_iload_n (i := 2) pX9_place_8 rfl rfl ?_
    refine G_callS1i pX9_place_9 (g_X9_isFloor a2 hrf _ h) mS_X9_isFloor ml_RX9_77 (by decide) ⟨Nat.le_refl _, Nat.le_refl _, Nat.le_refl _⟩ (Nat.le_of_ble_eq_true rfl) ?_
    intro r7 rf m6 hrf h hr7
    refine G_if_ne pX9_place_12 (fun c8 => ?_) (fun c8 => ?_)
    · have h := h.1 c8
      refine G_aload_n (i := 0) pX9_place_21 rfl rfl ?_
      refine G_getR (ci := 9) (j := 0) (N := 12) pX9_place_22 fl_RX9_10 rfl ltk_0 shk_0 (by decide) rfl (hrf.lit 0 0 rfl) ?_
      refine G_getR (ci := 0) (j := 0) (N := 4) pX9_place_25 fl_RX9_88 rfl ltk_1 shk_1 (by decide) rfl (hrf.lit 1 0 rfl) ?_
      refine G_iload_n (i := 1) pX9_place_28 rfl rfl ?_
      obtain ⟨hi9, h⟩ := h
      refine G_aald pX9_place_29 ltk_2 shk_2 (by decide) hi9 (gd_rf (IS_lit shk_1 ltk_1) hrf hi9) ?_
      refine G_getI (ci := 1) (j := 2) (N := 5) pX9_place_30 fl_RX9_114 rfl (gd_in (IS_lit shk_1 ltk_1) hi9).2 (gd_in (IS_lit shk_1 ltk_1) hi9).sh1 (by decide) rfl ?_
      obtain ⟨v10, e10⟩ : ∃ z : Int32, z = m6 (1 + 2 + a1.toNatClampNeg) 2 := ⟨_, rfl⟩
      have h := h v10 e10
      refine G_istore_nW (L' := [some (.ref 0), some (.int a1), some (.int a2), some (.int v10)]) pX9_place_33 rfl e10.symm rfl ?_
      refine G_aload_n (i := 0) pX9_place_34 rfl rfl ?_
      refine G_getR (ci := 9) (j := 0) (N := 12) pX9_place_35 fl_RX9_10 rfl ltk_0 shk_0 (by decide) rfl (hrf.lit 0 0 rfl) ?_
      refine G_getR (ci := 0) (j := 0) (N := 4) pX9_place_38 fl_RX9_88 rfl ltk_1 shk_1 (by decide) rfl (hrf.lit 1 0 rfl) ?_
      refine G_iload_n (i := 1) pX9_place_41 rfl rfl ?_
      obtain ⟨hi11, h⟩ := h
      refine G_aald pX9_place_42 ltk_2 shk_2 (by decide) hi11 (gd_rf (IS_lit shk_1 ltk_1) hrf hi11) ?_
      refine G_iload_n (i := 2) pX9_place_43 rfl rfl ?_
      refine G_callV1v (b := 1 + 2 + a1.toNatClampNeg) (ci := 1) (N := 5) pX9_place_44 (g_X1_standAt (1 + 2 + a1.toNatClampNeg) a2 (gd_in (IS_lit shk_1 ltk_1) hi11) hrf _ h) mV_X1_standAt ml_RX9_98 (by decide) ⟨Nat.le_refl _, Nat.le_refl _, Nat.le_refl _⟩ (Nat.le_of_ble_eq_true rfl) (gd_in (IS_lit shk_1 ltk_1) hi11).2 (gd_in (IS_lit shk_1 ltk_1) hi11).sh1 rfl ?_
      intro rf m12 hrf h
      refine G_iload_n (i := 3) pX9_place_47 rfl rfl ?_
      exact G_ireturn (len := 1) pX9_place_48 ⟨hrf, _, rfl, h⟩ ⟨_, rfl, rfl⟩
    · have h := h.2 c8
      refine G_aload_n (i := 0) pX9_place_15 rfl rfl ?_
      refine G_iconst pX9_place_16 ic_1 ?_
      refine G_callV1i (b := 0) (ci := 9) (N := 12) pX9_place_17 (g_X9_error (1 : Int32) hrf _ h) mV_X9_error ml_RX9_80 (by decide) ⟨Nat.le_refl _, Nat.le_refl _, Nat.le_refl _⟩ (Nat.le_of_ble_eq_true rfl) ltk_0 shk_0 rfl ?_
      intro r14 rf m13 hrf h hr14
      exact G_ireturn (len := 1) pX9_place_20 ⟨hrf, _, rfl, h⟩ ⟨_, rfl, rfl⟩
def L_X9_isPush (a1 : Int32) (mem : MMt) (Q : Int32 → MMt → Prop) : Prop := L_X9_within a1 (-9 : Int32) (9 : Int32) mem (fun r2 m1 => Q r2 m1)
set_option maxRecDepth 4000 in
theorem g_X9_isPush {sx : Nat × (Nat → Int32)} {M : RFt → Prop} {rf : RFt} {Q : Int32 → MMt → Prop} (a1 : Int32) (hrf : M rf) (mem : MMt) (h : L_X9_isPush a1 mem Q) : Ct sx yX9_isPush cX9_isPush 1 (some .boolean) 2 [.int a1] NX NX rf mem (QQi (M) Q) := by
  refine Ct_of [some (.int a1)] (by decide +kernel) (by simp [Lof, Value.category]) rfl ?_
  unfold L_X9_isPush at h
  refine G_iload_n (i := 0) pX9_isPush_0 rfl rfl ?_
  refine G_bipush pX9_isPush_1 bi_m9 ?_
  refine G_bipush pX9_isPush_3 bi_9 ?_
  refine G_callS3i pX9_isPush_5 (g_X9_within a1 (-9 : Int32) (9 : Int32) hrf _ h) mS_X9_within ml_RX9_104 (by decide) ⟨Nat.le_refl _, Nat.le_refl _, Nat.le_refl _⟩ (Nat.le_of_ble_eq_true rfl) ?_
  intro r2 rf m1 hrf h hr2
  exact G_ireturn (len := 1) pX9_isPush_8 ⟨hrf, _, rfl, h⟩ hr2
def L_X1_shove (q0 : Nat) (a1 : Int32) (mem : MMt) (Q : MMt → Prop) : Prop := L_X9_held ((mem q0 3) + a1) (-9 : Int32) (9 : Int32) mem (fun r2 m1 => (∀ m3 : MMt, m3 = up2 m1 q0 3 r2 → Q m3))
set_option maxRecDepth 4000 in
theorem g_X1_shove {sx : Nat × (Nat → Int32)} {M : RFt → Prop} {rf : RFt} {Q : MMt → Prop} (q0 : Nat) (a1 : Int32) (hq0 : IS 1 q0) (hrf : M rf) (mem : MMt) (h : L_X1_shove q0 a1 mem Q) : Ct sx yX1_shove cX1_shove 2 none 3 [.ref q0, .int a1] NX NX rf mem (QQv (M) Q) := by
  refine Ct_of [some (.ref q0), some (.int a1)] (by decide +kernel) (by simp [Lof, Value.category]) rfl ?_
  unfold L_X1_shove at h
  refine G_aload_n (i := 0) pX1_shove_0 rfl rfl ?_
  refine G_aload_n (i := 0) pX1_shove_1 rfl rfl ?_
  refine G_getI (ci := 1) (j := 3) (N := 5) pX1_shove_2 fl_RX1_21 rfl hq0.2 hq0.sh1 (by decide) rfl ?_
  refine G_iload_n (i := 1) pX1_shove_5 rfl rfl ?_
  refine G_iadd pX1_shove_6 ?_
  refine G_bipush pX1_shove_7 bi_m9 ?_
  refine G_bipush pX1_shove_9 bi_9 ?_
  refine G_callSN3i pX1_shove_11 (g_X9_held ((mem q0 3) + a1) (-9 : Int32) (9 : Int32) hrf _ h) mS_X9_held (by decide) (by decide) ⟨Nat.le_refl _, Nat.le_refl _, Nat.le_refl _⟩ (Nat.le_of_ble_eq_true rfl) ?_
  intro r2 rf m1 hrf h hr2
  obtain ⟨m3, em3⟩ : ∃ z : MMt, z = up2 m1 q0 3 r2 := ⟨_, rfl⟩
  have h := h m3 em3
  refine G_putIW (ci := 1) (j := 3) (N := 5) pX1_shove_14 fw_RX1_21 rfl hq0.2 hq0.sh1 (by decide) rfl (fun _ => ⟨rfl, rfl⟩) em3.symm ?_
  exact G_return (len := 1) pX1_shove_17 ⟨hrf, rfl, h⟩ rfl
def L_X9_push (a1 : Int32) (a2 : Int32) (mem : MMt) (Q : Int32 → MMt → Prop) : Prop := L_X9_isGood a1 mem (fun r2 m1 => ((r2 = 0 → L_X9_error (1 : Int32) m1 (fun r5 m4 => Q r5 m4)) ∧ (¬ r2 = 0 → L_X9_isPush a2 m1 (fun r7 m6 => ((¬ r7 = 0 → (vp_in a1 8 ∧ L_X1_shove (1 + 2 + a1.toNatClampNeg) a2 m6 (fun m10 => (vp_in a1 8 ∧ Q (m10 (1 + 2 + a1.toNatClampNeg) 3) m10)))) ∧ (r7 = 0 → L_X9_error (1 : Int32) m6 (fun r13 m12 => Q r13 m12)))))))
set_option maxRecDepth 4000 in
theorem g_X9_push {sx : Nat × (Nat → Int32)} {rf : RFt} {Q : Int32 → MMt → Prop} (a1 : Int32) (a2 : Int32) (hrf : RFok rf) (mem : MMt) (h : L_X9_push a1 a2 mem Q) : Ct sx yX9_push cX9_push 3 (some .int) 4 [.ref 0, .int a1, .int a2] NX NX rf mem (QQi (RFok) Q) := by
  refine Ct_of [some (.ref 0), some (.int a1), some (.int a2)] (by decide +kernel) (by simp [Lof, Value.category]) rfl ?_
  unfold L_X9_push at h
  refine G_aload_n (i := 0) pX9_push_0 rfl rfl ?_
  refine G_iload_n (i := 1) pX9_push_1 rfl rfl ?_
  refine G_callV1i (b := 0) (ci := 9) (N := 12) pX9_push_2 (g_X9_isGood a1 hrf _ h) mV_X9_isGood ml_RX9_101 (by decide) ⟨Nat.le_refl _, Nat.le_refl _, Nat.le_refl _⟩ (Nat.le_of_ble_eq_true rfl) ltk_0 shk_0 rfl ?_
  intro r2 rf m1 hrf h hr2
  refine G_if_eq pX9_push_5 (fun c3 => ?_) (fun c3 => ?_)
  · have h := h.1 c3
    refine G_aload_n (i := 0) pX9_push_15 rfl rfl ?_
    refine G_iconst pX9_push_16 ic_1 ?_
    refine G_callV1i (b := 0) (ci := 9) (N := 12) pX9_push_17 (g_X9_error (1 : Int32) hrf _ h) mV_X9_error ml_RX9_80 (by decide) ⟨Nat.le_refl _, Nat.le_refl _, Nat.le_refl _⟩ (Nat.le_of_ble_eq_true rfl) ltk_0 shk_0 rfl ?_
    intro r5 rf m4 hrf h hr5
    exact G_ireturn (len := 1) pX9_push_20 ⟨hrf, _, rfl, h⟩ ⟨_, rfl, rfl⟩
  · have h := h.2 c3
    refine G_iload_n (i := 2) pX9_push_8 rfl rfl ?_
    refine G_callS1i pX9_push_9 (g_X9_isPush a2 hrf _ h) mS_X9_isPush ml_RX9_148 (by decide) ⟨Nat.le_refl _, Nat.le_refl _, Nat.le_refl _⟩ (Nat.le_of_ble_eq_true rfl) ?_
    intro r7 rf m6 hrf h hr7
    refine G_if_ne pX9_push_12 (fun c8 => ?_) (fun c8 => ?_)
    · have h := h.1 c8
      refine G_aload_n (i := 0) pX9_push_21 rfl rfl ?_
      refine G_getR (ci := 9) (j := 0) (N := 12) pX9_push_22 fl_RX9_10 rfl ltk_0 shk_0 (by decide) rfl (hrf.lit 0 0 rfl) ?_
      refine G_getR (ci := 0) (j := 0) (N := 4) pX9_push_25 fl_RX9_88 rfl ltk_1 shk_1 (by decide) rfl (hrf.lit 1 0 rfl) ?_
      refine G_iload_n (i := 1) pX9_push_28 rfl rfl ?_
      obtain ⟨hi9, h⟩ := h
      refine G_aald pX9_push_29 ltk_2 shk_2 (by decide) hi9 (gd_rf (IS_lit shk_1 ltk_1) hrf hi9) ?_
      refine G_iload_n (i := 2) pX9_push_30 rfl rfl ?_
      refine G_callV1v (b := 1 + 2 + a1.toNatClampNeg) (ci := 1) (N := 5) pX9_push_31 (g_X1_shove (1 + 2 + a1.toNatClampNeg) a2 (gd_in (IS_lit shk_1 ltk_1) hi9) hrf _ h) mV_X1_shove ml_RX9_151 (by decide) ⟨Nat.le_refl _, Nat.le_refl _, Nat.le_refl _⟩ (Nat.le_of_ble_eq_true rfl) (gd_in (IS_lit shk_1 ltk_1) hi9).2 (gd_in (IS_lit shk_1 ltk_1) hi9).sh1 rfl ?_
      intro rf m10 hrf h
      refine G_aload_n (i := 0) pX9_push_34 rfl rfl ?_
      refine G_getR (ci := 9) (j := 0) (N := 12) pX9_push_35 fl_RX9_10 rfl ltk_0 shk_0 (by decide) rfl (hrf.lit 0 0 rfl) ?_
      refine G_getR (ci := 0) (j := 0) (N := 4) pX9_push_38 fl_RX9_88 rfl ltk_1 shk_1 (by decide) rfl (hrf.lit 1 0 rfl) ?_
      refine G_iload_n (i := 1) pX9_push_41 rfl rfl ?_
      obtain ⟨hi11, h⟩ := h
      refine G_aald pX9_push_42 ltk_2 shk_2 (by decide) hi11 (gd_rf (IS_lit shk_1 ltk_1) hrf hi11) ?_
      refine G_getI (ci := 1) (j := 3) (N := 5) pX9_push_43 fl_RX9_117 rfl (gd_in (IS_lit shk_1 ltk_1) hi11).2 (gd_in (IS_lit shk_1 ltk_1) hi11).sh1 (by decide) rfl ?_
      exact G_ireturn (len := 1) pX9_push_46 ⟨hrf, _, rfl, h⟩ ⟨_, rfl, rfl⟩
    · have h := h.2 c8
      refine G_aload_n (i := 0) pX9_push_15 rfl rfl ?_
      refine G_iconst pX9_push_16 ic_1 ?_
      refine G_callV1i (b := 0) (ci := 9) (N := 12) pX9_push_17 (g_X9_error (1 : Int32) hrf _ h) mV_X9_error ml_RX9_80 (by decide) ⟨Nat.le_refl _, Nat.le_refl _, Nat.le_refl _⟩ (Nat.le_of_ble_eq_true rfl) ltk_0 shk_0 rfl ?_
      intro r13 rf m12 hrf h hr13
      exact G_ireturn (len := 1) pX9_push_20 ⟨hrf, _, rfl, h⟩ ⟨_, rfl, rfl⟩
def L_X9_off (a1 : Int32) (a2 : Int32) (a3 : Int32) (mem : MMt) (Q : Int32 → MMt → Prop) : Prop := L_X9_isGood a1 mem (fun r2 m1 => ((r2 = 0 → L_X9_error (1 : Int32) m1 (fun r5 m4 => Q r5 m4)) ∧ (¬ r2 = 0 → L_X9_isGood a2 m1 (fun r7 m6 => ((r7 = 0 → L_X9_error (1 : Int32) m6 (fun r10 m9 => Q r10 m9)) ∧ (¬ r7 = 0 → ((a1 = a2 → L_X9_error (1 : Int32) m6 (fun r13 m12 => Q r13 m12)) ∧ (¬ a1 = a2 → L_X9_isPush a3 m6 (fun r15 m14 => ((¬ r15 = 0 → (vp_in a1 8 ∧ (vp_in a2 8 ∧ (((m14 (1 + 2 + a1.toNatClampNeg) 2) = (m14 (1 + 2 + a2.toNatClampNeg) 2) → L_X1_shove (1 + 2 + a1.toNatClampNeg) a3 m14 (fun m20 => L_X1_shove (1 + 2 + a2.toNatClampNeg) (-a3) m20 (fun m21 => Q (m21 (1 + 2 + a1.toNatClampNeg) 3) m21))) ∧ (¬ (m14 (1 + 2 + a1.toNatClampNeg) 2) = (m14 (1 + 2 + a2.toNatClampNeg) 2) → L_X9_error (3 : Int32) m14 (fun r23 m22 => Q r23 m22)))))) ∧ (r15 = 0 → L_X9_error (1 : Int32) m14 (fun r25 m24 => Q r25 m24))))))))))))
set_option maxRecDepth 4000 in
theorem g_X9_off {sx : Nat × (Nat → Int32)} {rf : RFt} {Q : Int32 → MMt → Prop} (a1 : Int32) (a2 : Int32) (a3 : Int32) (hrf : RFok rf) (mem : MMt) (h : L_X9_off a1 a2 a3 mem Q) : Ct sx yX9_off cX9_off 6 (some .int) 4 [.ref 0, .int a1, .int a2, .int a3] NX NX rf mem (QQi (RFok) Q) := by
  refine Ct_of [some (.ref 0), some (.int a1), some (.int a2), some (.int a3), none, none] (by decide +kernel) (by simp [Lof, Value.category]) rfl ?_
  unfold L_X9_off at h
  refine G_aload_n (i := 0) pX9_off_0 rfl rfl ?_
  refine G_iload_n (i := 1) pX9_off_1 rfl rfl ?_
  refine G_callV1i (b := 0) (ci := 9) (N := 12) pX9_off_2 (g_X9_isGood a1 hrf _ h) mV_X9_isGood ml_RX9_101 (by decide) ⟨Nat.le_refl _, Nat.le_refl _, Nat.le_refl _⟩ (Nat.le_of_ble_eq_true rfl) ltk_0 shk_0 rfl ?_
  intro r2 rf m1 hrf h hr2
  refine G_if_eq pX9_off_5 (fun c3 => ?_) (fun c3 => ?_)
  · have h := h.1 c3
    refine G_aload_n (i := 0) pX9_off_28 rfl rfl ?_
    refine G_iconst pX9_off_29 ic_1 ?_
    refine G_callV1i (b := 0) (ci := 9) (N := 12) pX9_off_30 (g_X9_error (1 : Int32) hrf _ h) mV_X9_error ml_RX9_80 (by decide) ⟨Nat.le_refl _, Nat.le_refl _, Nat.le_refl _⟩ (Nat.le_of_ble_eq_true rfl) ltk_0 shk_0 rfl ?_
    intro r5 rf m4 hrf h hr5
    exact G_ireturn (len := 1) pX9_off_33 ⟨hrf, _, rfl, h⟩ ⟨_, rfl, rfl⟩
  · have h := h.2 c3
    refine G_aload_n (i := 0) pX9_off_8 rfl rfl ?_
    refine G_iload_n (i := 2) pX9_off_9 rfl rfl ?_
    refine G_callV1i (b := 0) (ci := 9) (N := 12) pX9_off_10 (g_X9_isGood a2 hrf _ h) mV_X9_isGood ml_RX9_101 (by decide) ⟨Nat.le_refl _, Nat.le_refl _, Nat.le_refl _⟩ (Nat.le_of_ble_eq_true rfl) ltk_0 shk_0 rfl ?_
    intro r7 rf m6 hrf h hr7
    refine G_if_eq pX9_off_13 (fun c8 => ?_) (fun c8 => ?_)
    · have h := h.1 c8
      refine G_aload_n (i := 0) pX9_off_28 rfl rfl ?_
      refine G_iconst pX9_off_29 ic_1 ?_
      refine G_callV1i (b := 0) (ci := 9) (N := 12) pX9_off_30 (g_X9_error (1 : Int32) hrf _ h) mV_X9_error ml_RX9_80 (by decide) ⟨Nat.le_refl _, Nat.le_refl _, Nat.le_refl _⟩ (Nat.le_of_ble_eq_true rfl) ltk_0 shk_0 rfl ?_
      intro r10 rf m9 hrf h hr10
      exact G_ireturn (len := 1) pX9_off_33 ⟨hrf, _, rfl, h⟩ ⟨_, rfl, rfl⟩
    · have h := h.2 c8
      refine G_iload_n (i := 1) pX9_off_16 rfl rfl ?_
      refine G_iload_n (i := 2) pX9_off_17 rfl rfl ?_
      refine G_icmp_eq pX9_off_18 (fun c11 => ?_) (fun c11 => ?_)
      · have h := h.1 c11
        refine G_aload_n (i := 0) pX9_off_28 rfl rfl ?_
        refine G_iconst pX9_off_29 ic_1 ?_
        refine G_callV1i (b := 0) (ci := 9) (N := 12) pX9_off_30 (g_X9_error (1 : Int32) hrf _ h) mV_X9_error ml_RX9_80 (by decide) ⟨Nat.le_refl _, Nat.le_refl _, Nat.le_refl _⟩ (Nat.le_of_ble_eq_true rfl) ltk_0 shk_0 rfl ?_
        intro r13 rf m12 hrf h hr13
        exact G_ireturn (len := 1) pX9_off_33 ⟨hrf, _, rfl, h⟩ ⟨_, rfl, rfl⟩
      · have h := h.2 c11
        refine G_iload_n (i := 3) pX9_off_21 rfl rfl ?_
        refine G_callS1i pX9_off_22 (g_X9_isPush a3 hrf _ h) mS_X9_isPush ml_RX9_148 (by decide) ⟨Nat.le_refl _, Nat.le_refl _, Nat.le_refl _⟩ (Nat.le_of_ble_eq_true rfl) ?_
        intro r15 rf m14 hrf h hr15
        refine G_if_ne pX9_off_25 (fun c16 => ?_) (fun c16 => ?_)
        · have h := h.1 c16
          refine G_aload_n (i := 0) pX9_off_34 rfl rfl ?_
          refine G_getR (ci := 9) (j := 0) (N := 12) pX9_off_35 fl_RX9_10 rfl ltk_0 shk_0 (by decide) rfl (hrf.lit 0 0 rfl) ?_
          refine G_getR (ci := 0) (j := 0) (N := 4) pX9_off_38 fl_RX9_88 rfl ltk_1 shk_1 (by decide) rfl (hrf.lit 1 0 rfl) ?_
          refine G_iload_n (i := 1) pX9_off_41 rfl rfl ?_
          obtain ⟨hi17, h⟩ := h
          refine G_aald pX9_off_42 ltk_2 shk_2 (by decide) hi17 (gd_rf (IS_lit shk_1 ltk_1) hrf hi17) ?_
          refine G_astore (i := 4) (L' := [some (.ref 0), some (.int a1), some (.int a2), some (.int a3), some (.ref (1 + 2 + a1.toNatClampNeg)), none]) pX9_off_43 rfl ?_
          refine G_aload_n (i := 0) pX9_off_45 rfl rfl ?_
          refine G_getR (ci := 9) (j := 0) (N := 12) pX9_off_46 fl_RX9_10 rfl ltk_0 shk_0 (by decide) rfl (hrf.lit 0 0 rfl) ?_
          refine G_getR (ci := 0) (j := 0) (N := 4) pX9_off_49 fl_RX9_88 rfl ltk_1 shk_1 (by decide) rfl (hrf.lit 1 0 rfl) ?_
          refine G_iload_n (i := 2) pX9_off_52 rfl rfl ?_
          obtain ⟨hi18, h⟩ := h
          refine G_aald pX9_off_53 ltk_2 shk_2 (by decide) hi18 (gd_rf (IS_lit shk_1 ltk_1) hrf hi18) ?_
          refine G_astore (i := 5) (L' := [some (.ref 0), some (.int a1), some (.int a2), some (.int a3), some (.ref (1 + 2 + a1.toNatClampNeg)), some (.ref (1 + 2 + a2.toNatClampNeg))]) pX9_off_54 rfl ?_
          refine G_aload (i := 4) pX9_off_56 rfl ?_
          refine G_getI (ci := 1) (j := 2) (N := 5) pX9_off_58 fl_RX9_114 rfl (gd_in (IS_lit shk_1 ltk_1) hi17).2 (gd_in (IS_lit shk_1 ltk_1) hi17).sh1 (by decide) rfl ?_
          refine G_aload (i := 5) pX9_off_61 rfl ?_
          refine G_getI (ci := 1) (j := 2) (N := 5) pX9_off_63 fl_RX9_114 rfl (gd_in (IS_lit shk_1 ltk_1) hi18).2 (gd_in (IS_lit shk_1 ltk_1) hi18).sh1 (by decide) rfl ?_
          refine G_icmp_eq pX9_off_66 (fun c19 => ?_) (fun c19 => ?_)
          · have h := h.1 c19
            refine G_aload (i := 4) pX9_off_75 rfl ?_
            refine G_iload_n (i := 3) pX9_off_77 rfl rfl ?_
            refine G_callV1v (b := 1 + 2 + a1.toNatClampNeg) (ci := 1) (N := 5) pX9_off_78 (g_X1_shove (1 + 2 + a1.toNatClampNeg) a3 (gd_in (IS_lit shk_1 ltk_1) hi17) hrf _ h) mV_X1_shove ml_RX9_151 (by decide) ⟨Nat.le_refl _, Nat.le_refl _, Nat.le_refl _⟩ (Nat.le_of_ble_eq_true rfl) (gd_in (IS_lit shk_1 ltk_1) hi17).2 (gd_in (IS_lit shk_1 ltk_1) hi17).sh1 rfl ?_
            intro rf m20 hrf h
            refine G_aload (i := 5) pX9_off_81 rfl ?_
            refine G_iload_n (i := 3) pX9_off_83 rfl rfl ?_
            refine G_ineg pX9_off_84 ?_
            refine G_callV1v (b := 1 + 2 + a2.toNatClampNeg) (ci := 1) (N := 5) pX9_off_85 (g_X1_shove (1 + 2 + a2.toNatClampNeg) (-a3) (gd_in (IS_lit shk_1 ltk_1) hi18) hrf _ h) mV_X1_shove ml_RX9_151 (by decide) ⟨Nat.le_refl _, Nat.le_refl _, Nat.le_refl _⟩ (Nat.le_of_ble_eq_true rfl) (gd_in (IS_lit shk_1 ltk_1) hi18).2 (gd_in (IS_lit shk_1 ltk_1) hi18).sh1 rfl ?_
            intro rf m21 hrf h
            refine G_aload (i := 4) pX9_off_88 rfl ?_
            refine G_getI (ci := 1) (j := 3) (N := 5) pX9_off_90 fl_RX9_117 rfl (gd_in (IS_lit shk_1 ltk_1) hi17).2 (gd_in (IS_lit shk_1 ltk_1) hi17).sh1 (by decide) rfl ?_
            exact G_ireturn (len := 1) pX9_off_93 ⟨hrf, _, rfl, h⟩ ⟨_, rfl, rfl⟩
          · have h := h.2 c19
            refine G_aload_n (i := 0) pX9_off_69 rfl rfl ?_
            refine G_iconst pX9_off_70 ic_3 ?_
            refine G_callV1i (b := 0) (ci := 9) (N := 12) pX9_off_71 (g_X9_error (3 : Int32) hrf _ h) mV_X9_error ml_RX9_80 (by decide) ⟨Nat.le_refl _, Nat.le_refl _, Nat.le_refl _⟩ (Nat.le_of_ble_eq_true rfl) ltk_0 shk_0 rfl ?_
            intro r23 rf m22 hrf h hr23
            exact G_ireturn (len := 1) pX9_off_74 ⟨hrf, _, rfl, h⟩ ⟨_, rfl, rfl⟩
        · have h := h.2 c16
          refine G_aload_n (i := 0) pX9_off_28 rfl rfl ?_
          refine G_iconst pX9_off_29 ic_1 ?_
          refine G_callV1i (b := 0) (ci := 9) (N := 12) pX9_off_30 (g_X9_error (1 : Int32) hrf _ h) mV_X9_error ml_RX9_80 (by decide) ⟨Nat.le_refl _, Nat.le_refl _, Nat.le_refl _⟩ (Nat.le_of_ble_eq_true rfl) ltk_0 shk_0 rfl ?_
          intro r25 rf m24 hrf h hr25
          exact G_ireturn (len := 1) pX9_off_33 ⟨hrf, _, rfl, h⟩ ⟨_, rfl, rfl⟩
def B_X9_set_49 (x1 : Int32) (x2 : Int32) (mem : MMt) (Q : Int32 → MMt → Prop) : Prop := ((¬ x1 = 0 → (vp_in (x1 - (1 : Int32)) 2 ∧ (∀ v3 : Int32, v3 = mem 12 (x1 - (1 : Int32)).toNatClampNeg → (vp_in (x1 - (1 : Int32)) 2 ∧ ∀ m4 : MMt, m4 = up2 mem 12 (x1 - (1 : Int32)).toNatClampNeg x2 → Q v3 m4)))) ∧ (x1 = 0 → (∀ v6 : Int32, v6 = mem 11 0 → (∀ m7 : MMt, m7 = up2 mem 11 0 x2 → Q v6 m7))))
set_option maxRecDepth 4000 in
theorem gB_X9_set_49 {sx : Nat × (Nat → Int32)} {rf : RFt} {Q : Int32 → MMt → Prop} (hrf : RFok rf) (x1 : Int32) (x2 : Int32) (mem : MMt) (h : B_X9_set_49 x1 x2 mem Q) : G sx yX9_set cX9_set 4 (some .int) 2 NX NX (QQi (RFok) Q) NX rf mem 49 [some (.ref 0), some (.int x1), some (.int x2), none] [] := by
  unfold B_X9_set_49 at h
  refine G_iload_n (i := 1) pX9_set_49 rfl rfl ?_
  refine G_if_ne pX9_set_50 (fun c1 => ?_) (fun c1 => ?_)
  · have h := h.1 c1
    refine G_aload_n (i := 0) pX9_set_72 rfl rfl ?_
    refine G_getR (ci := 9) (j := 1) (N := 12) pX9_set_73 fl_RX9_19 rfl ltk_0 shk_0 (by decide) rfl (hrf.lit 0 1 rfl) ?_
    refine G_getR (ci := 5) (j := 1) (N := 10) pX9_set_76 fl_RX9_157 rfl ltk_11 shk_11 (by decide) rfl (hrf.lit 11 1 rfl) ?_
    refine G_iload_n (i := 1) pX9_set_79 rfl rfl ?_
    refine G_iconst pX9_set_80 ic_1 ?_
    refine G_isub pX9_set_81 ?_
    obtain ⟨hi2, h⟩ := h
    refine G_iald pX9_set_82 ltk_12 shk_12 hi2 ?_
    obtain ⟨v3, e3⟩ : ∃ z : Int32, z = mem 12 (x1 - (1 : Int32)).toNatClampNeg := ⟨_, rfl⟩
    have h := h v3 e3
    refine G_istore_nW (L' := [some (.ref 0), some (.int x1), some (.int x2), some (.int v3)]) pX9_set_83 rfl e3.symm rfl ?_
    refine G_aload_n (i := 0) pX9_set_84 rfl rfl ?_
    refine G_getR (ci := 9) (j := 1) (N := 12) pX9_set_85 fl_RX9_19 rfl ltk_0 shk_0 (by decide) rfl (hrf.lit 0 1 rfl) ?_
    refine G_getR (ci := 5) (j := 1) (N := 10) pX9_set_88 fl_RX9_157 rfl ltk_11 shk_11 (by decide) rfl (hrf.lit 11 1 rfl) ?_
    refine G_iload_n (i := 1) pX9_set_91 rfl rfl ?_
    refine G_iconst pX9_set_92 ic_1 ?_
    refine G_isub pX9_set_93 ?_
    refine G_iload_n (i := 2) pX9_set_94 rfl rfl ?_
    obtain ⟨hi5, h⟩ := h
    obtain ⟨m4, em4⟩ : ∃ z : MMt, z = up2 mem 12 (x1 - (1 : Int32)).toNatClampNeg x2 := ⟨_, rfl⟩
    have h := h m4 em4
    refine G_iastW pX9_set_95 ltk_12 shk_12 hi5 em4.symm ?_
    refine G_iload_n (i := 3) pX9_set_96 rfl rfl ?_
    exact G_ireturn (len := 1) pX9_set_97 ⟨hrf, _, rfl, h⟩ ⟨_, rfl, rfl⟩
  · have h := h.2 c1
    refine G_aload_n (i := 0) pX9_set_53 rfl rfl ?_
    refine G_getR (ci := 9) (j := 1) (N := 12) pX9_set_54 fl_RX9_19 rfl ltk_0 shk_0 (by decide) rfl (hrf.lit 0 1 rfl) ?_
    refine G_getI (ci := 5) (j := 0) (N := 10) pX9_set_57 fl_RX9_154 rfl ltk_11 shk_11 (by decide) rfl ?_
    obtain ⟨v6, e6⟩ : ∃ z : Int32, z = mem 11 0 := ⟨_, rfl⟩
    have h := h v6 e6
    refine G_istore_nW (L' := [some (.ref 0), some (.int x1), some (.int x2), some (.int v6)]) pX9_set_60 rfl e6.symm rfl ?_
    refine G_aload_n (i := 0) pX9_set_61 rfl rfl ?_
    refine G_getR (ci := 9) (j := 1) (N := 12) pX9_set_62 fl_RX9_19 rfl ltk_0 shk_0 (by decide) rfl (hrf.lit 0 1 rfl) ?_
    refine G_iload_n (i := 2) pX9_set_65 rfl rfl ?_
    obtain ⟨m7, em7⟩ : ∃ z : MMt, z = up2 mem 11 0 x2 := ⟨_, rfl⟩
    have h := h m7 em7
    refine G_putIW (ci := 5) (j := 0) (N := 10) pX9_set_66 fw_RX9_154 rfl ltk_11 shk_11 (by decide) rfl (fun _ => ⟨rfl, rfl⟩) em7.symm ?_
    refine G_goto pX9_set_69 ?_
    refine G_iload_n (i := 3) pX9_set_96 rfl rfl ?_
    exact G_ireturn (len := 1) pX9_set_97 ⟨hrf, _, rfl, h⟩ ⟨_, rfl, rfl⟩
def L_X9_set (a1 : Int32) (a2 : Int32) (mem : MMt) (Q : Int32 → MMt → Prop) : Prop := L_X9_within a1 (0 : Int32) (2 : Int32) mem (fun r2 m1 => ((¬ r2 = 0 → ((¬ a1 = 0 → L_X9_within a2 (-9 : Int32) (9 : Int32) m1 (fun r6 m5 => ((¬ r6 = 0 → B_X9_set_49 a1 a2 m5 Q) ∧ (r6 = 0 → L_X9_error (1 : Int32) m5 (fun r9 m8 => Q r9 m8))))) ∧ (a1 = 0 → L_X9_within a2 (2 : Int32) (24 : Int32) m1 (fun r11 m10 => ((¬ r11 = 0 → B_X9_set_49 a1 a2 m10 Q) ∧ (r11 = 0 → L_X9_error (1 : Int32) m10 (fun r14 m13 => Q r14 m13))))))) ∧ (r2 = 0 → L_X9_error (1 : Int32) m1 (fun r16 m15 => Q r16 m15))))
set_option maxRecDepth 4000 in
theorem g_X9_set {sx : Nat × (Nat → Int32)} {rf : RFt} {Q : Int32 → MMt → Prop} (a1 : Int32) (a2 : Int32) (hrf : RFok rf) (mem : MMt) (h : L_X9_set a1 a2 mem Q) : Ct sx yX9_set cX9_set 4 (some .int) 2 [.ref 0, .int a1, .int a2] NX NX rf mem (QQi (RFok) Q) := by
  refine Ct_of [some (.ref 0), some (.int a1), some (.int a2), none] (by decide +kernel) (by simp [Lof, Value.category]) rfl ?_
  unfold L_X9_set at h
  refine G_iload_n (i := 1) pX9_set_0 rfl rfl ?_
  refine G_iconst pX9_set_1 ic_0 ?_
  refine G_iconst pX9_set_2 ic_2 ?_
  refine G_callS3i pX9_set_3 (g_X9_within a1 (0 : Int32) (2 : Int32) hrf _ h) mS_X9_within ml_RX9_104 (by decide) ⟨Nat.le_refl _, Nat.le_refl _, Nat.le_refl _⟩ (Nat.le_of_ble_eq_true rfl) ?_
  intro r2 rf m1 hrf h hr2
  refine G_if_ne pX9_set_6 (fun c3 => ?_) (fun c3 => ?_)
  · have h := h.1 c3
    refine G_iload_n (i := 1) pX9_set_15 rfl rfl ?_
    refine G_if_ne pX9_set_16 (fun c4 => ?_) (fun c4 => ?_)
    · have h := h.1 c4
      refine G_iload_n (i := 2) pX9_set_32 rfl rfl ?_
      refine G_bipush pX9_set_33 bi_m9 ?_
      refine G_bipush pX9_set_35 bi_9 ?_
      refine G_callS3i pX9_set_37 (g_X9_within a2 (-9 : Int32) (9 : Int32) hrf _ h) mS_X9_within ml_RX9_104 (by decide) ⟨Nat.le_refl _, Nat.le_refl _, Nat.le_refl _⟩ (Nat.le_of_ble_eq_true rfl) ?_
      intro r6 rf m5 hrf h hr6
      refine G_if_ne pX9_set_40 (fun c7 => ?_) (fun c7 => ?_)
      · have h := h.1 c7
        exact gB_X9_set_49 hrf a1 a2 _ h
      · have h := h.2 c7
        refine G_aload_n (i := 0) pX9_set_43 rfl rfl ?_
        refine G_iconst pX9_set_44 ic_1 ?_
        refine G_callV1i (b := 0) (ci := 9) (N := 12) pX9_set_45 (g_X9_error (1 : Int32) hrf _ h) mV_X9_error ml_RX9_80 (by decide) ⟨Nat.le_refl _, Nat.le_refl _, Nat.le_refl _⟩ (Nat.le_of_ble_eq_true rfl) ltk_0 shk_0 rfl ?_
        intro r9 rf m8 hrf h hr9
        exact G_ireturn (len := 1) pX9_set_48 ⟨hrf, _, rfl, h⟩ ⟨_, rfl, rfl⟩
    · have h := h.2 c4
      refine G_iload_n (i := 2) pX9_set_19 rfl rfl ?_
      refine G_iconst pX9_set_20 ic_2 ?_
      refine G_bipush pX9_set_21 bi_24 ?_
      refine G_callS3i pX9_set_23 (g_X9_within a2 (2 : Int32) (24 : Int32) hrf _ h) mS_X9_within ml_RX9_104 (by decide) ⟨Nat.le_refl _, Nat.le_refl _, Nat.le_refl _⟩ (Nat.le_of_ble_eq_true rfl) ?_
      intro r11 rf m10 hrf h hr11
      refine G_if_ne pX9_set_26 (fun c12 => ?_) (fun c12 => ?_)
      · have h := h.1 c12
        exact gB_X9_set_49 hrf a1 a2 _ h
      · have h := h.2 c12
        refine G_goto pX9_set_29 ?_
        refine G_aload_n (i := 0) pX9_set_43 rfl rfl ?_
        refine G_iconst pX9_set_44 ic_1 ?_
        refine G_callV1i (b := 0) (ci := 9) (N := 12) pX9_set_45 (g_X9_error (1 : Int32) hrf _ h) mV_X9_error ml_RX9_80 (by decide) ⟨Nat.le_refl _, Nat.le_refl _, Nat.le_refl _⟩ (Nat.le_of_ble_eq_true rfl) ltk_0 shk_0 rfl ?_
        intro r14 rf m13 hrf h hr14
        exact G_ireturn (len := 1) pX9_set_48 ⟨hrf, _, rfl, h⟩ ⟨_, rfl, rfl⟩
  · have h := h.2 c3
    refine G_aload_n (i := 0) pX9_set_9 rfl rfl ?_
    refine G_iconst pX9_set_10 ic_1 ?_
    refine G_callV1i (b := 0) (ci := 9) (N := 12) pX9_set_11 (g_X9_error (1 : Int32) hrf _ h) mV_X9_error ml_RX9_80 (by decide) ⟨Nat.le_refl _, Nat.le_refl _, Nat.le_refl _⟩ (Nat.le_of_ble_eq_true rfl) ltk_0 shk_0 rfl ?_
    intro r16 rf m15 hrf h hr16
    exact G_ireturn (len := 1) pX9_set_14 ⟨hrf, _, rfl, h⟩ ⟨_, rfl, rfl⟩
def L_X9_isSide (a1 : Int32) (mem : MMt) (Q : Int32 → MMt → Prop) : Prop := L_X9_within a1 (0 : Int32) (1 : Int32) mem (fun r2 m1 => Q r2 m1)
set_option maxRecDepth 4000 in
theorem g_X9_isSide {sx : Nat × (Nat → Int32)} {M : RFt → Prop} {rf : RFt} {Q : Int32 → MMt → Prop} (a1 : Int32) (hrf : M rf) (mem : MMt) (h : L_X9_isSide a1 mem Q) : Ct sx yX9_isSide cX9_isSide 1 (some .boolean) 2 [.int a1] NX NX rf mem (QQi (M) Q) := by
  refine Ct_of [some (.int a1)] (by decide +kernel) (by simp [Lof, Value.category]) rfl ?_
  unfold L_X9_isSide at h
  refine G_iload_n (i := 0) pX9_isSide_0 rfl rfl ?_
  refine G_iconst pX9_isSide_1 ic_0 ?_
  refine G_iconst pX9_isSide_2 ic_1 ?_
  refine G_callS3i pX9_isSide_3 (g_X9_within a1 (0 : Int32) (1 : Int32) hrf _ h) mS_X9_within ml_RX9_104 (by decide) ⟨Nat.le_refl _, Nat.le_refl _, Nat.le_refl _⟩ (Nat.le_of_ble_eq_true rfl) ?_
  intro r2 rf m1 hrf h hr2
  exact G_ireturn (len := 1) pX9_isSide_6 ⟨hrf, _, rfl, h⟩ hr2
def L_X9_isDoor (a1 : Int32) (mem : MMt) (Q : Int32 → MMt → Prop) : Prop := L_X9_within a1 (0 : Int32) ((mem 11 0) - (1 : Int32)) mem (fun r2 m1 => Q r2 m1)
set_option maxRecDepth 4000 in
theorem g_X9_isDoor {sx : Nat × (Nat → Int32)} {rf : RFt} {Q : Int32 → MMt → Prop} (a1 : Int32) (hrf : RFok rf) (mem : MMt) (h : L_X9_isDoor a1 mem Q) : Ct sx yX9_isDoor cX9_isDoor 2 (some .boolean) 2 [.ref 0, .int a1] NX NX rf mem (QQi (RFok) Q) := by
  refine Ct_of [some (.ref 0), some (.int a1)] (by decide +kernel) (by simp [Lof, Value.category]) rfl ?_
  unfold L_X9_isDoor at h
  refine G_iload_n (i := 1) pX9_isDoor_0 rfl rfl ?_
  refine G_iconst pX9_isDoor_1 ic_0 ?_
  refine G_aload_n (i := 0) pX9_isDoor_2 rfl rfl ?_
  refine G_getR (ci := 9) (j := 1) (N := 12) pX9_isDoor_3 fl_RX9_19 rfl ltk_0 shk_0 (by decide) rfl (hrf.lit 0 1 rfl) ?_
  refine G_getI (ci := 5) (j := 0) (N := 10) pX9_isDoor_6 fl_RX9_154 rfl ltk_11 shk_11 (by decide) rfl ?_
  refine G_iconst pX9_isDoor_9 ic_1 ?_
  refine G_isub pX9_isDoor_10 ?_
  refine G_callS3i pX9_isDoor_11 (g_X9_within a1 (0 : Int32) ((mem 11 0) - (1 : Int32)) hrf _ h) mS_X9_within ml_RX9_104 (by decide) ⟨Nat.le_refl _, Nat.le_refl _, Nat.le_refl _⟩ (Nat.le_of_ble_eq_true rfl) ?_
  intro r2 rf m1 hrf h hr2
  exact G_ireturn (len := 1) pX9_isDoor_14 ⟨hrf, _, rfl, h⟩ hr2
def L_J9_floorMod_7cf53 (a1 : Int32) (a2 : Int32) (mem : MMt) (Q : Int32 → MMt → Prop) : Prop := (¬ a2 = 0 ∧ (∀ v1 : Int32, v1 = a1 - a1 / a2 * a2 → ((0 ≤ (a1 ^^^ a2) → Q v1 mem) ∧ (¬ 0 ≤ (a1 ^^^ a2) → ((v1 = 0 → Q v1 mem) ∧ (¬ v1 = 0 → Q (v1 + a2) mem))))))
set_option maxRecDepth 4000 in
theorem g_J9_floorMod_7cf53 {sx : Nat × (Nat → Int32)} {nx : Nat} {M : RFt → Prop} {rf : RFt} {Q : Int32 → MMt → Prop} (a1 : Int32) (a2 : Int32) (hrf : M rf) (mem : MMt) (h : L_J9_floorMod_7cf53 a1 a2 mem Q) : Ct sx yJ9_floorMod_7cf53 cJ9_floorMod_7cf53 3 (some .int) 1 [.int a1, .int a2] nx nx rf mem (QQi (M) Q) := by
  refine Ct_of [some (.int a1), some (.int a2), none] (by decide +kernel) (by simp [Lof, Value.category]) rfl ?_
  unfold L_J9_floorMod_7cf53 at h
  refine G_iload_n (i := 0) pJ9_floorMod_7cf53_0 rfl rfl ?_
  refine G_iload_n (i := 1) pJ9_floorMod_7cf53_1 rfl rfl ?_
  obtain ⟨hz, h⟩ := h
  refine G_irem pJ9_floorMod_7cf53_2 hz ?_
  obtain ⟨v1, e1⟩ : ∃ z : Int32, z = a1 - a1 / a2 * a2 := ⟨_, rfl⟩
  have h := h v1 e1
  refine G_istore_nW (L' := [some (.int a1), some (.int a2), some (.int v1)]) pJ9_floorMod_7cf53_3 rfl e1.symm rfl ?_
  refine G_iload_n (i := 0) pJ9_floorMod_7cf53_4 rfl rfl ?_
  refine G_iload_n (i := 1) pJ9_floorMod_7cf53_5 rfl rfl ?_
  refine G_ixor pJ9_floorMod_7cf53_6 ?_
  refine G_if_ge pJ9_floorMod_7cf53_7 (fun c2 => ?_) (fun c2 => ?_)
  · have h := h.1 c2
    refine G_iload_n (i := 2) pJ9_floorMod_7cf53_18 rfl rfl ?_
    exact G_ireturn (len := 1) pJ9_floorMod_7cf53_19 ⟨hrf, _, rfl, h⟩ ⟨_, rfl, rfl⟩
  · have h := h.2 c2
    refine G_iload_n (i := 2) pJ9_floorMod_7cf53_10 rfl rfl ?_
    refine G_if_eq pJ9_floorMod_7cf53_11 (fun c3 => ?_) (fun c3 => ?_)
    · have h := h.1 c3
      refine G_iload_n (i := 2) pJ9_floorMod_7cf53_18 rfl rfl ?_
      exact G_ireturn (len := 1) pJ9_floorMod_7cf53_19 ⟨hrf, _, rfl, h⟩ ⟨_, rfl, rfl⟩
    · have h := h.2 c3
      refine G_iload_n (i := 2) pJ9_floorMod_7cf53_14 rfl rfl ?_
      refine G_iload_n (i := 1) pJ9_floorMod_7cf53_15 rfl rfl ?_
      refine G_iadd pJ9_floorMod_7cf53_16 ?_
      exact G_ireturn (len := 1) pJ9_floorMod_7cf53_17 ⟨hrf, _, rfl, h⟩ ⟨_, rfl, rfl⟩
def L_X5_doorPlace (a1 : Int32) (a2 : Int32) (a3 : Int32) (mem : MMt) (Q : Int32 → MMt → Prop) : Prop := (vp_in a1 2 ∧ L_J9_floorMod_7cf53 (a2 + ((mem 12 a1.toNatClampNeg) * a3)) (mem 11 0) mem (fun r3 m2 => Q r3 m2))
set_option maxRecDepth 4000 in
theorem g_X5_doorPlace {sx : Nat × (Nat → Int32)} {rf : RFt} {Q : Int32 → MMt → Prop} (a1 : Int32) (a2 : Int32) (a3 : Int32) (hrf : RFok rf) (mem : MMt) (h : L_X5_doorPlace a1 a2 a3 mem Q) : Ct sx yX5_doorPlace cX5_doorPlace 4 (some .int) 2 [.ref 11, .int a1, .int a2, .int a3] NX NX rf mem (QQi (RFok) Q) := by
  refine Ct_of [some (.ref 11), some (.int a1), some (.int a2), some (.int a3)] (by decide +kernel) (by simp [Lof, Value.category]) rfl ?_
  unfold L_X5_doorPlace at h
  refine G_iload_n (i := 2) pX5_doorPlace_0 rfl rfl ?_
  refine G_aload_n (i := 0) pX5_doorPlace_1 rfl rfl ?_
  refine G_getR (ci := 5) (j := 1) (N := 10) pX5_doorPlace_2 fl_RX5_15 rfl ltk_11 shk_11 (by decide) rfl (hrf.lit 11 1 rfl) ?_
  refine G_iload_n (i := 1) pX5_doorPlace_5 rfl rfl ?_
  obtain ⟨hi1, h⟩ := h
  refine G_iald pX5_doorPlace_6 ltk_12 shk_12 hi1 ?_
  refine G_iload_n (i := 3) pX5_doorPlace_7 rfl rfl ?_
  refine G_imul pX5_doorPlace_8 ?_
  refine G_iadd pX5_doorPlace_9 ?_
  refine G_aload_n (i := 0) pX5_doorPlace_10 rfl rfl ?_
  refine G_getI (ci := 5) (j := 0) (N := 10) pX5_doorPlace_11 fl_RX5_9 rfl ltk_11 shk_11 (by decide) rfl ?_
  refine G_callS2i pX5_doorPlace_14 (g_J9_floorMod_7cf53 (a2 + ((mem 12 a1.toNatClampNeg) * a3)) (mem 11 0) hrf _ h) mS_J9_floorMod_7cf53 ml_RX5_91 (by decide) ⟨Nat.le_refl _, Nat.le_refl _, Nat.le_refl _⟩ (Nat.le_of_ble_eq_true rfl) ?_
  intro r3 rf m2 hrf h hr3
  exact G_ireturn (len := 1) pX5_doorPlace_17 ⟨hrf, _, rfl, h⟩ ⟨_, rfl, rfl⟩
def L_X9_door (a1 : Int32) (a2 : Int32) (mem : MMt) (Q : Int32 → MMt → Prop) : Prop := L_X9_isSide a1 mem (fun r2 m1 => ((r2 = 0 → L_X9_error (1 : Int32) m1 (fun r5 m4 => Q r5 m4)) ∧ (¬ r2 = 0 → L_X9_isDoor a2 m1 (fun r7 m6 => ((¬ r7 = 0 → L_X5_doorPlace a1 a2 (m6 1 2) m6 (fun r10 m9 => Q r10 m9)) ∧ (r7 = 0 → L_X9_error (1 : Int32) m6 (fun r12 m11 => Q r12 m11)))))))
set_option maxRecDepth 4000 in
theorem g_X9_door {sx : Nat × (Nat → Int32)} {rf : RFt} {Q : Int32 → MMt → Prop} (a1 : Int32) (a2 : Int32) (hrf : RFok rf) (mem : MMt) (h : L_X9_door a1 a2 mem Q) : Ct sx yX9_door cX9_door 3 (some .int) 3 [.ref 0, .int a1, .int a2] NX NX rf mem (QQi (RFok) Q) := by
  refine Ct_of [some (.ref 0), some (.int a1), some (.int a2)] (by decide +kernel) (by simp [Lof, Value.category]) rfl ?_
  unfold L_X9_door at h
  refine G_iload_n (i := 1) pX9_door_0 rfl rfl ?_
  refine G_callS1i pX9_door_1 (g_X9_isSide a1 hrf _ h) mS_X9_isSide ml_RX9_160 (by decide) ⟨Nat.le_refl _, Nat.le_refl _, Nat.le_refl _⟩ (Nat.le_of_ble_eq_true rfl) ?_
  intro r2 rf m1 hrf h hr2
  refine G_if_eq pX9_door_4 (fun c3 => ?_) (fun c3 => ?_)
  · have h := h.1 c3
    refine G_aload_n (i := 0) pX9_door_15 rfl rfl ?_
    refine G_iconst pX9_door_16 ic_1 ?_
    refine G_callV1i (b := 0) (ci := 9) (N := 12) pX9_door_17 (g_X9_error (1 : Int32) hrf _ h) mV_X9_error ml_RX9_80 (by decide) ⟨Nat.le_refl _, Nat.le_refl _, Nat.le_refl _⟩ (Nat.le_of_ble_eq_true rfl) ltk_0 shk_0 rfl ?_
    intro r5 rf m4 hrf h hr5
    exact G_ireturn (len := 1) pX9_door_20 ⟨hrf, _, rfl, h⟩ ⟨_, rfl, rfl⟩
  · have h := h.2 c3
    refine G_aload_n (i := 0) pX9_door_7 rfl rfl ?_
    refine G_iload_n (i := 2) pX9_door_8 rfl rfl ?_
    refine G_callV1i (b := 0) (ci := 9) (N := 12) pX9_door_9 (g_X9_isDoor a2 hrf _ h) mV_X9_isDoor ml_RX9_163 (by decide) ⟨Nat.le_refl _, Nat.le_refl _, Nat.le_refl _⟩ (Nat.le_of_ble_eq_true rfl) ltk_0 shk_0 rfl ?_
    intro r7 rf m6 hrf h hr7
    refine G_if_ne pX9_door_12 (fun c8 => ?_) (fun c8 => ?_)
    · have h := h.1 c8
      refine G_aload_n (i := 0) pX9_door_21 rfl rfl ?_
      refine G_getR (ci := 9) (j := 1) (N := 12) pX9_door_22 fl_RX9_19 rfl ltk_0 shk_0 (by decide) rfl (hrf.lit 0 1 rfl) ?_
      refine G_iload_n (i := 1) pX9_door_25 rfl rfl ?_
      refine G_iload_n (i := 2) pX9_door_26 rfl rfl ?_
      refine G_aload_n (i := 0) pX9_door_27 rfl rfl ?_
      refine G_getR (ci := 9) (j := 0) (N := 12) pX9_door_28 fl_RX9_10 rfl ltk_0 shk_0 (by decide) rfl (hrf.lit 0 0 rfl) ?_
      refine G_getI (ci := 0) (j := 2) (N := 4) pX9_door_31 fl_RX9_166 rfl ltk_1 shk_1 (by decide) rfl ?_
      refine G_callV3i (b := 11) (ci := 5) (N := 10) pX9_door_34 (g_X5_doorPlace a1 a2 (m6 1 2) hrf _ h) mV_X5_doorPlace ml_RX9_169 (by decide) ⟨Nat.le_refl _, Nat.le_refl _, Nat.le_refl _⟩ (Nat.le_of_ble_eq_true rfl) ltk_11 shk_11 rfl ?_
      intro r10 rf m9 hrf h hr10
      exact G_ireturn (len := 1) pX9_door_37 ⟨hrf, _, rfl, h⟩ ⟨_, rfl, rfl⟩
    · have h := h.2 c8
      refine G_aload_n (i := 0) pX9_door_15 rfl rfl ?_
      refine G_iconst pX9_door_16 ic_1 ?_
      refine G_callV1i (b := 0) (ci := 9) (N := 12) pX9_door_17 (g_X9_error (1 : Int32) hrf _ h) mV_X9_error ml_RX9_80 (by decide) ⟨Nat.le_refl _, Nat.le_refl _, Nat.le_refl _⟩ (Nat.le_of_ble_eq_true rfl) ltk_0 shk_0 rfl ?_
      intro r12 rf m11 hrf h hr12
      exact G_ireturn (len := 1) pX9_door_20 ⟨hrf, _, rfl, h⟩ ⟨_, rfl, rfl⟩
def B_X9_lineUp_24 (x1 : Int32) (x2 : Int32) (x3 : Int32) (mem : MMt) (Q : Int32 → MMt → Prop) : Prop := LOOP (σ := Int32 × MMt) (fun X24 z => (fun (x3 : Int32) (mem : MMt) => (((mem 11 0) ≤ x3 → L_X9_error (2 : Int32) mem (fun r3 m2 => Q r3 m2)) ∧ (¬ (mem 11 0) ≤ x3 → (∀ v4 : Int32, v4 = (mem 1 2) + x3 → L_X5_doorPlace (0 : Int32) x1 v4 mem (fun r6 m5 => L_X5_doorPlace (1 : Int32) x2 v4 m5 (fun r8 m7 => ((¬ r6 = r8 → (∀ v10 : Int32, v10 = x3 + (1 : Int32) → X24 (v10, m7))) ∧ (r6 = r8 → Q x3 m7)))))))) z.1 z.2) (x3, mem)
set_option maxRecDepth 4000 in
theorem gB_X9_lineUp_24 {sx : Nat × (Nat → Int32)} {rf : RFt} {Q : Int32 → MMt → Prop} (hrf : RFok rf) (x1 : Int32) (x2 : Int32) (x3 : Int32) (mem : MMt) (h : B_X9_lineUp_24 x1 x2 x3 mem Q) : G sx yX9_lineUp cX9_lineUp 5 (some .int) 3 NX NX (QQi (RFok) Q) NX rf mem 24 [some (.ref 0), some (.int x1), some (.int x2), some (.int x3), none] [] := by
  obtain ⟨I, ⟨n, h0⟩, hI⟩ := h
  have key : ∀ (n : Nat) (rf : RFt) (x3 : Int32) (mem : MMt), RFok rf → I n (x3, mem) → G sx yX9_lineUp cX9_lineUp 5 (some .int) 3 NX NX (QQi (RFok) Q) NX rf mem 24 [some (.ref 0), some (.int x1), some (.int x2), some (.int x3), none] [] := by
    intro n
    induction n using Nat.strongRecOn with
    | _ n ih =>
    intro rf x3 mem hrf h0
    have hX24 : ∀ (rf : RFt) (x3 : Int32) (mem : MMt), RFok rf → (fun s' => ∃ m, m < n ∧ I m s') (x3, mem) → G sx yX9_lineUp cX9_lineUp 5 (some .int) 3 NX NX (QQi (RFok) Q) NX rf mem 24 [some (.ref 0), some (.int x1), some (.int x2), some (.int x3), none] [] := fun rf x3 mem hrf ⟨m, hm, hi⟩ => ih m hm rf x3 mem hrf hi
    have h := hI n _ h0
    clear ih h0
    try dsimp only at h
    refine G_iload_n (i := 3) pX9_lineUp_24 rfl rfl ?_
    refine G_aload_n (i := 0) pX9_lineUp_25 rfl rfl ?_
    refine G_getR (ci := 9) (j := 1) (N := 12) pX9_lineUp_26 fl_RX9_19 rfl ltk_0 shk_0 (by decide) rfl (hrf.lit 0 1 rfl) ?_
    refine G_getI (ci := 5) (j := 0) (N := 10) pX9_lineUp_29 fl_RX9_154 rfl ltk_11 shk_11 (by decide) rfl ?_
    refine G_icmp_ge pX9_lineUp_32 (fun c1 => ?_) (fun c1 => ?_)
    · have h := h.1 c1
      refine G_aload_n (i := 0) pX9_lineUp_79 rfl rfl ?_
      refine G_iconst pX9_lineUp_80 ic_2 ?_
      refine G_callV1i (b := 0) (ci := 9) (N := 12) pX9_lineUp_81 (g_X9_error (2 : Int32) hrf _ h) mV_X9_error ml_RX9_80 (by decide) ⟨Nat.le_refl _, Nat.le_refl _, Nat.le_refl _⟩ (Nat.le_of_ble_eq_true rfl) ltk_0 shk_0 rfl ?_
      intro r3 rf m2 hrf h hr3
      exact G_ireturn (len := 1) pX9_lineUp_84 ⟨hrf, _, rfl, h⟩ ⟨_, rfl, rfl⟩
    · have h := h.2 c1
      refine G_aload_n (i := 0) pX9_lineUp_35 rfl rfl ?_
      refine G_getR (ci := 9) (j := 0) (N := 12) pX9_lineUp_36 fl_RX9_10 rfl ltk_0 shk_0 (by decide) rfl (hrf.lit 0 0 rfl) ?_
      refine G_getI (ci := 0) (j := 2) (N := 4) pX9_lineUp_39 fl_RX9_166 rfl ltk_1 shk_1 (by decide) rfl ?_
      refine G_iload_n (i := 3) pX9_lineUp_42 rfl rfl ?_
      refine G_iadd pX9_lineUp_43 ?_
      obtain ⟨v4, e4⟩ : ∃ z : Int32, z = (mem 1 2) + x3 := ⟨_, rfl⟩
      have h := h v4 e4
      refine G_istoreW (L' := [some (.ref 0), some (.int x1), some (.int x2), some (.int x3), some (.int v4)]) pX9_lineUp_44 e4.symm rfl ?_
      refine G_aload_n (i := 0) pX9_lineUp_46 rfl rfl ?_
      refine G_getR (ci := 9) (j := 1) (N := 12) pX9_lineUp_47 fl_RX9_19 rfl ltk_0 shk_0 (by decide) rfl (hrf.lit 0 1 rfl) ?_
      refine G_iconst pX9_lineUp_50 ic_0 ?_
      refine G_iload_n (i := 1) pX9_lineUp_51 rfl rfl ?_
      refine G_iload (i := 4) pX9_lineUp_52 rfl ?_
      refine G_callV3i (b := 11) (ci := 5) (N := 10) pX9_lineUp_54 (g_X5_doorPlace (0 : Int32) x1 v4 hrf _ h) mV_X5_doorPlace ml_RX9_169 (by decide) ⟨Nat.le_refl _, Nat.le_refl _, Nat.le_refl _⟩ (Nat.le_of_ble_eq_true rfl) ltk_11 shk_11 rfl ?_
      intro r6 rf m5 hrf h hr6
      refine G_aload_n (i := 0) pX9_lineUp_57 rfl rfl ?_
      refine G_getR (ci := 9) (j := 1) (N := 12) pX9_lineUp_58 fl_RX9_19 rfl ltk_0 shk_0 (by decide) rfl (hrf.lit 0 1 rfl) ?_
      refine G_iconst pX9_lineUp_61 ic_1 ?_
      refine G_iload_n (i := 2) pX9_lineUp_62 rfl rfl ?_
      refine G_iload (i := 4) pX9_lineUp_63 rfl ?_
      refine G_callV3i (b := 11) (ci := 5) (N := 10) pX9_lineUp_65 (g_X5_doorPlace (1 : Int32) x2 v4 hrf _ h) mV_X5_doorPlace ml_RX9_169 (by decide) ⟨Nat.le_refl _, Nat.le_refl _, Nat.le_refl _⟩ (Nat.le_of_ble_eq_true rfl) ltk_11 shk_11 rfl ?_
      intro r8 rf m7 hrf h hr8
      refine G_icmp_ne pX9_lineUp_68 (fun c9 => ?_) (fun c9 => ?_)
      · have h := h.1 c9
        obtain ⟨v10, e10⟩ : ∃ z : Int32, z = x3 + (1 : Int32) := ⟨_, rfl⟩
        have h := h v10 e10
        refine G_iincW (L' := [some (.ref 0), some (.int x1), some (.int x2), some (.int v10), some (.int v4)]) pX9_lineUp_73 rfl ic_1 e10.symm rfl ?_
        refine G_goto pX9_lineUp_76 ?_
        refine G_wk (L2 := [some (.ref 0), some (.int x1), some (.int x2), some (.int v10), none]) ⟨Or.inr rfl, Or.inr rfl, Or.inr rfl, Or.inr rfl, Or.inl rfl, trivial⟩ ?_
        exact hX24 _ _ _ hrf h
      · have h := h.2 c9
        refine G_iload_n (i := 3) pX9_lineUp_71 rfl rfl ?_
        exact G_ireturn (len := 1) pX9_lineUp_72 ⟨hrf, _, rfl, h⟩ ⟨_, rfl, rfl⟩
  exact key n rf _ _ hrf h0
def L_X9_lineUp (a1 : Int32) (a2 : Int32) (mem : MMt) (Q : Int32 → MMt → Prop) : Prop := L_X9_isDoor a1 mem (fun r2 m1 => ((r2 = 0 → L_X9_error (1 : Int32) m1 (fun r5 m4 => Q r5 m4)) ∧ (¬ r2 = 0 → L_X9_isDoor a2 m1 (fun r7 m6 => ((¬ r7 = 0 → B_X9_lineUp_24 a1 a2 (0 : Int32) m6 Q) ∧ (r7 = 0 → L_X9_error (1 : Int32) m6 (fun r10 m9 => Q r10 m9)))))))
set_option maxRecDepth 4000 in
theorem g_X9_lineUp {sx : Nat × (Nat → Int32)} {rf : RFt} {Q : Int32 → MMt → Prop} (a1 : Int32) (a2 : Int32) (hrf : RFok rf) (mem : MMt) (h : L_X9_lineUp a1 a2 mem Q) : Ct sx yX9_lineUp cX9_lineUp 5 (some .int) 3 [.ref 0, .int a1, .int a2] NX NX rf mem (QQi (RFok) Q) := by
  refine Ct_of [some (.ref 0), some (.int a1), some (.int a2), none, none] (by decide +kernel) (by simp [Lof, Value.category]) rfl ?_
  unfold L_X9_lineUp at h
  refine G_aload_n (i := 0) pX9_lineUp_0 rfl rfl ?_
  refine G_iload_n (i := 1) pX9_lineUp_1 rfl rfl ?_
  refine G_callV1i (b := 0) (ci := 9) (N := 12) pX9_lineUp_2 (g_X9_isDoor a1 hrf _ h) mV_X9_isDoor ml_RX9_163 (by decide) ⟨Nat.le_refl _, Nat.le_refl _, Nat.le_refl _⟩ (Nat.le_of_ble_eq_true rfl) ltk_0 shk_0 rfl ?_
  intro r2 rf m1 hrf h hr2
  refine G_if_eq pX9_lineUp_5 (fun c3 => ?_) (fun c3 => ?_)
  · have h := h.1 c3
    refine G_aload_n (i := 0) pX9_lineUp_16 rfl rfl ?_
    refine G_iconst pX9_lineUp_17 ic_1 ?_
    refine G_callV1i (b := 0) (ci := 9) (N := 12) pX9_lineUp_18 (g_X9_error (1 : Int32) hrf _ h) mV_X9_error ml_RX9_80 (by decide) ⟨Nat.le_refl _, Nat.le_refl _, Nat.le_refl _⟩ (Nat.le_of_ble_eq_true rfl) ltk_0 shk_0 rfl ?_
    intro r5 rf m4 hrf h hr5
    exact G_ireturn (len := 1) pX9_lineUp_21 ⟨hrf, _, rfl, h⟩ ⟨_, rfl, rfl⟩
  · have h := h.2 c3
    refine G_aload_n (i := 0) pX9_lineUp_8 rfl rfl ?_
    refine G_iload_n (i := 2) pX9_lineUp_9 rfl rfl ?_
    refine G_callV1i (b := 0) (ci := 9) (N := 12) pX9_lineUp_10 (g_X9_isDoor a2 hrf _ h) mV_X9_isDoor ml_RX9_163 (by decide) ⟨Nat.le_refl _, Nat.le_refl _, Nat.le_refl _⟩ (Nat.le_of_ble_eq_true rfl) ltk_0 shk_0 rfl ?_
    intro r7 rf m6 hrf h hr7
    refine G_if_ne pX9_lineUp_13 (fun c8 => ?_) (fun c8 => ?_)
    · have h := h.1 c8
      refine G_iconst pX9_lineUp_22 ic_0 ?_
      refine G_istore_n (i := 3) (L' := [some (.ref 0), some (.int a1), some (.int a2), some (.int (0 : Int32)), none]) pX9_lineUp_23 rfl rfl ?_
      exact gB_X9_lineUp_24 hrf a1 a2 (0 : Int32) _ h
    · have h := h.2 c8
      refine G_aload_n (i := 0) pX9_lineUp_16 rfl rfl ?_
      refine G_iconst pX9_lineUp_17 ic_1 ?_
      refine G_callV1i (b := 0) (ci := 9) (N := 12) pX9_lineUp_18 (g_X9_error (1 : Int32) hrf _ h) mV_X9_error ml_RX9_80 (by decide) ⟨Nat.le_refl _, Nat.le_refl _, Nat.le_refl _⟩ (Nat.le_of_ble_eq_true rfl) ltk_0 shk_0 rfl ?_
      intro r10 rf m9 hrf h hr10
      exact G_ireturn (len := 1) pX9_lineUp_21 ⟨hrf, _, rfl, h⟩ ⟨_, rfl, rfl⟩
def B_X9_feed_39 (x1 : Int64) (x3 : Int32) (x4 : Int32) (mem : MMt) (Q : Int32 → MMt → Prop) : Prop := LOOP (σ := Int32 × MMt) (fun X39 z => (fun (x4 : Int32) (mem : MMt) => ((x3 ≤ x4 → (∀ m2 : MMt, m2 = up2 mem 11 4 ((mem 11 4) + x3) → Q (m2 11 4) m2)) ∧ (¬ x3 ≤ x4 → (vp_in ((mem 11 4) + x4) 50 ∧ ∀ m3 : MMt, m3 = up2 mem 13 ((mem 11 4) + x4).toNatClampNeg (((((x1.toUInt64 >>> (((8 : Int32) * x4).toInt64.toUInt64 &&& Int64.toUInt64 63)).toInt64).toInt32).toInt8.toInt32).toInt8.toInt32) → (∀ v5 : Int32, v5 = x4 + (1 : Int32) → X39 (v5, m3)))))) z.1 z.2) (x4, mem)
set_option maxRecDepth 4000 in
theorem gB_X9_feed_39 {sx : Nat × (Nat → Int32)} {rf : RFt} {Q : Int32 → MMt → Prop} (hrf : RFok rf) (x1 : Int64) (x3 : Int32) (x4 : Int32) (mem : MMt) (h : B_X9_feed_39 x1 x3 x4 mem Q) : G sx yX9_feed cX9_feed 5 (some .int) 2 NX NX (QQi (RFok) Q) NX rf mem 39 [some (.ref 0), some (.long x1), none, some (.int x3), some (.int x4)] [] := by
  obtain ⟨I, ⟨n, h0⟩, hI⟩ := h
  have key : ∀ (n : Nat) (rf : RFt) (x4 : Int32) (mem : MMt), RFok rf → I n (x4, mem) → G sx yX9_feed cX9_feed 5 (some .int) 2 NX NX (QQi (RFok) Q) NX rf mem 39 [some (.ref 0), some (.long x1), none, some (.int x3), some (.int x4)] [] := by
    intro n
    induction n using Nat.strongRecOn with
    | _ n ih =>
    intro rf x4 mem hrf h0
    have hX39 : ∀ (rf : RFt) (x4 : Int32) (mem : MMt), RFok rf → (fun s' => ∃ m, m < n ∧ I m s') (x4, mem) → G sx yX9_feed cX9_feed 5 (some .int) 2 NX NX (QQi (RFok) Q) NX rf mem 39 [some (.ref 0), some (.long x1), none, some (.int x3), some (.int x4)] [] := fun rf x4 mem hrf ⟨m, hm, hi⟩ => ih m hm rf x4 mem hrf hi
    have h := hI n _ h0
    clear ih h0
    try dsimp only at h
    refine G_iload (i := 4) pX9_feed_39 rfl ?_
    refine G_iload_n (i := 3) pX9_feed_41 rfl rfl ?_
    refine G_icmp_ge pX9_feed_42 (fun c1 => ?_) (fun c1 => ?_)
    · have h := h.1 c1
      refine G_aload_n (i := 0) pX9_feed_78 rfl rfl ?_
      refine G_getR (ci := 9) (j := 1) (N := 12) pX9_feed_79 fl_RX9_19 rfl ltk_0 shk_0 (by decide) rfl (hrf.lit 0 1 rfl) ?_
      refine G_dup pX9_feed_82 rfl ?_
      refine G_getI (ci := 5) (j := 4) (N := 10) pX9_feed_83 fl_RX9_173 rfl ltk_11 shk_11 (by decide) rfl ?_
      refine G_iload_n (i := 3) pX9_feed_86 rfl rfl ?_
      refine G_iadd pX9_feed_87 ?_
      obtain ⟨m2, em2⟩ : ∃ z : MMt, z = up2 mem 11 4 ((mem 11 4) + x3) := ⟨_, rfl⟩
      have h := h m2 em2
      refine G_putIW (ci := 5) (j := 4) (N := 10) pX9_feed_88 fw_RX9_173 rfl ltk_11 shk_11 (by decide) rfl (fun _ => ⟨rfl, rfl⟩) em2.symm ?_
      refine G_aload_n (i := 0) pX9_feed_91 rfl rfl ?_
      refine G_getR (ci := 9) (j := 1) (N := 12) pX9_feed_92 fl_RX9_19 rfl ltk_0 shk_0 (by decide) rfl (hrf.lit 0 1 rfl) ?_
      refine G_getI (ci := 5) (j := 4) (N := 10) pX9_feed_95 fl_RX9_173 rfl ltk_11 shk_11 (by decide) rfl ?_
      exact G_ireturn (len := 1) pX9_feed_98 ⟨hrf, _, rfl, h⟩ ⟨_, rfl, rfl⟩
    · have h := h.2 c1
      refine G_aload_n (i := 0) pX9_feed_45 rfl rfl ?_
      refine G_getR (ci := 9) (j := 1) (N := 12) pX9_feed_46 fl_RX9_19 rfl ltk_0 shk_0 (by decide) rfl (hrf.lit 0 1 rfl) ?_
      refine G_getR (ci := 5) (j := 3) (N := 10) pX9_feed_49 fl_RX9_176 rfl ltk_11 shk_11 (by decide) rfl (hrf.lit 11 3 rfl) ?_
      refine G_aload_n (i := 0) pX9_feed_52 rfl rfl ?_
      refine G_getR (ci := 9) (j := 1) (N := 12) pX9_feed_53 fl_RX9_19 rfl ltk_0 shk_0 (by decide) rfl (hrf.lit 0 1 rfl) ?_
      refine G_getI (ci := 5) (j := 4) (N := 10) pX9_feed_56 fl_RX9_173 rfl ltk_11 shk_11 (by decide) rfl ?_
      refine G_iload (i := 4) pX9_feed_59 rfl ?_
      refine G_iadd pX9_feed_61 ?_
      refine G_lload_n (i := 1) pX9_feed_62 rfl rfl ?_
      refine G_bipush pX9_feed_63 bi_8 ?_
      refine G_iload (i := 4) pX9_feed_65 rfl ?_
      refine G_imul pX9_feed_67 ?_
      refine G_lushr pX9_feed_68 ?_
      refine G_l2i pX9_feed_69 ?_
      refine G_i2b pX9_feed_70 ?_
      obtain ⟨hi4, h⟩ := h
      obtain ⟨m3, em3⟩ : ∃ z : MMt, z = up2 mem 13 ((mem 11 4) + x4).toNatClampNeg (((((x1.toUInt64 >>> (((8 : Int32) * x4).toInt64.toUInt64 &&& Int64.toUInt64 63)).toInt64).toInt32).toInt8.toInt32).toInt8.toInt32) := ⟨_, rfl⟩
      have h := h m3 em3
      refine G_bastW pX9_feed_71 ltk_13 shk_13 hi4 em3.symm ?_
      obtain ⟨v5, e5⟩ : ∃ z : Int32, z = x4 + (1 : Int32) := ⟨_, rfl⟩
      have h := h v5 e5
      refine G_iincW (L' := [some (.ref 0), some (.long x1), none, some (.int x3), some (.int v5)]) pX9_feed_72 rfl ic_1 e5.symm rfl ?_
      refine G_goto pX9_feed_75 ?_
      exact hX39 _ _ _ hrf h
  exact key n rf _ _ hrf h0
def L_X9_feed (a1 : Int64) (a2 : Int32) (mem : MMt) (Q : Int32 → MMt → Prop) : Prop := L_X9_within a2 (1 : Int32) (8 : Int32) mem (fun r2 m1 => ((¬ r2 = 0 → ((((m1 11 4) + a2) ≤ (50 : Int32) → B_X9_feed_39 a1 a2 (0 : Int32) m1 Q) ∧ (¬ ((m1 11 4) + a2) ≤ (50 : Int32) → L_X9_error (4 : Int32) m1 (fun r6 m5 => Q r6 m5)))) ∧ (r2 = 0 → L_X9_error (1 : Int32) m1 (fun r8 m7 => Q r8 m7))))
set_option maxRecDepth 4000 in
theorem g_X9_feed {sx : Nat × (Nat → Int32)} {rf : RFt} {Q : Int32 → MMt → Prop} (a1 : Int64) (a2 : Int32) (hrf : RFok rf) (mem : MMt) (h : L_X9_feed a1 a2 mem Q) : Ct sx yX9_feed cX9_feed 5 (some .int) 2 [.ref 0, .long a1, .int a2] NX NX rf mem (QQi (RFok) Q) := by
  refine Ct_of [some (.ref 0), some (.long a1), none, some (.int a2), none] (by decide +kernel) (by simp [Lof, Value.category]) rfl ?_
  unfold L_X9_feed at h
  refine G_iload_n (i := 3) pX9_feed_0 rfl rfl ?_
  refine G_iconst pX9_feed_1 ic_1 ?_
  refine G_bipush pX9_feed_2 bi_8 ?_
  refine G_callS3i pX9_feed_4 (g_X9_within a2 (1 : Int32) (8 : Int32) hrf _ h) mS_X9_within ml_RX9_104 (by decide) ⟨Nat.le_refl _, Nat.le_refl _, Nat.le_refl _⟩ (Nat.le_of_ble_eq_true rfl) ?_
  intro r2 rf m1 hrf h hr2
  refine G_if_ne pX9_feed_7 (fun c3 => ?_) (fun c3 => ?_)
  · have h := h.1 c3
    refine G_aload_n (i := 0) pX9_feed_16 rfl rfl ?_
    refine G_getR (ci := 9) (j := 1) (N := 12) pX9_feed_17 fl_RX9_19 rfl ltk_0 shk_0 (by decide) rfl (hrf.lit 0 1 rfl) ?_
    refine G_getI (ci := 5) (j := 4) (N := 10) pX9_feed_20 fl_RX9_173 rfl ltk_11 shk_11 (by decide) rfl ?_
    refine G_iload_n (i := 3) pX9_feed_23 rfl rfl ?_
    refine G_iadd pX9_feed_24 ?_
    refine G_bipush pX9_feed_25 bi_50 ?_
    refine G_icmp_le pX9_feed_27 (fun c4 => ?_) (fun c4 => ?_)
    · have h := h.1 c4
      refine G_iconst pX9_feed_36 ic_0 ?_
      refine G_istore (i := 4) (L' := [some (.ref 0), some (.long a1), none, some (.int a2), some (.int (0 : Int32))]) pX9_feed_37 rfl ?_
      exact gB_X9_feed_39 hrf a1 a2 (0 : Int32) _ h
    · have h := h.2 c4
      refine G_aload_n (i := 0) pX9_feed_30 rfl rfl ?_
      refine G_iconst pX9_feed_31 ic_4 ?_
      refine G_callV1i (b := 0) (ci := 9) (N := 12) pX9_feed_32 (g_X9_error (4 : Int32) hrf _ h) mV_X9_error ml_RX9_80 (by decide) ⟨Nat.le_refl _, Nat.le_refl _, Nat.le_refl _⟩ (Nat.le_of_ble_eq_true rfl) ltk_0 shk_0 rfl ?_
      intro r6 rf m5 hrf h hr6
      exact G_ireturn (len := 1) pX9_feed_35 ⟨hrf, _, rfl, h⟩ ⟨_, rfl, rfl⟩
  · have h := h.2 c3
    refine G_aload_n (i := 0) pX9_feed_10 rfl rfl ?_
    refine G_iconst pX9_feed_11 ic_1 ?_
    refine G_callV1i (b := 0) (ci := 9) (N := 12) pX9_feed_12 (g_X9_error (1 : Int32) hrf _ h) mV_X9_error ml_RX9_80 (by decide) ⟨Nat.le_refl _, Nat.le_refl _, Nat.le_refl _⟩ (Nat.le_of_ble_eq_true rfl) ltk_0 shk_0 rfl ?_
    intro r8 rf m7 hrf h hr8
    exact G_ireturn (len := 1) pX9_feed_15 ⟨hrf, _, rfl, h⟩ ⟨_, rfl, rfl⟩
def L_X9_isUse (a1 : Int32) (mem : MMt) (Q : Int32 → MMt → Prop) : Prop := L_X9_within a1 (0 : Int32) (1 : Int32) mem (fun r2 m1 => Q r2 m1)
set_option maxRecDepth 4000 in
theorem g_X9_isUse {sx : Nat × (Nat → Int32)} {M : RFt → Prop} {rf : RFt} {Q : Int32 → MMt → Prop} (a1 : Int32) (hrf : M rf) (mem : MMt) (h : L_X9_isUse a1 mem Q) : Ct sx yX9_isUse cX9_isUse 1 (some .boolean) 2 [.int a1] NX NX rf mem (QQi (M) Q) := by
  refine Ct_of [some (.int a1)] (by decide +kernel) (by simp [Lof, Value.category]) rfl ?_
  unfold L_X9_isUse at h
  refine G_iload_n (i := 0) pX9_isUse_0 rfl rfl ?_
  refine G_iconst pX9_isUse_1 ic_0 ?_
  refine G_iconst pX9_isUse_2 ic_1 ?_
  refine G_callS3i pX9_isUse_3 (g_X9_within a1 (0 : Int32) (1 : Int32) hrf _ h) mS_X9_within ml_RX9_104 (by decide) ⟨Nat.le_refl _, Nat.le_refl _, Nat.le_refl _⟩ (Nat.le_of_ble_eq_true rfl) ?_
  intro r2 rf m1 hrf h hr2
  exact G_ireturn (len := 1) pX9_isUse_6 ⟨hrf, _, rfl, h⟩ hr2
def L_X4_isDigit (a1 : Int32) (mem : MMt) (Q : Int32 → MMt → Prop) : Prop := L_X9_within a1 (48 : Int32) (57 : Int32) mem (fun r2 m1 => Q r2 m1)
set_option maxRecDepth 4000 in
theorem g_X4_isDigit {sx : Nat × (Nat → Int32)} {M : RFt → Prop} {rf : RFt} {Q : Int32 → MMt → Prop} (a1 : Int32) (hrf : M rf) (mem : MMt) (h : L_X4_isDigit a1 mem Q) : Ct sx yX4_isDigit cX4_isDigit 1 (some .boolean) 2 [.int a1] NX NX rf mem (QQi (M) Q) := by
  refine Ct_of [some (.int a1)] (by decide +kernel) (by simp [Lof, Value.category]) rfl ?_
  unfold L_X4_isDigit at h
  refine G_iload_n (i := 0) pX4_isDigit_0 rfl rfl ?_
  refine G_bipush pX4_isDigit_1 bi_48 ?_
  refine G_bipush pX4_isDigit_3 bi_57 ?_
  refine G_callSN3i pX4_isDigit_5 (g_X9_within a1 (48 : Int32) (57 : Int32) hrf _ h) mS_X9_within (by decide) (by decide) ⟨Nat.le_refl _, Nat.le_refl _, Nat.le_refl _⟩ (Nat.le_of_ble_eq_true rfl) ?_
  intro r2 rf m1 hrf h hr2
  exact G_ireturn (len := 1) pX4_isDigit_8 ⟨hrf, _, rfl, h⟩ hr2
def L_X4_keep (b : Nat) (a1 : Int32) (mem : MMt) (Q : MMt → Prop) : Prop := (((50 : Int32) ≤ (mem 55 1) → Q mem) ∧ (¬ (50 : Int32) ≤ (mem 55 1) → (vp_in (mem 55 1) 50 ∧ ∀ m2 : MMt, m2 = up2 mem 56 (mem 55 1).toNatClampNeg a1 → (∀ m4 : MMt, m4 = up2 m2 55 1 ((m2 55 1) + (1 : Int32)) → Q m4))))
set_option maxRecDepth 4000 in
theorem g_X4_keep {sx : Nat × (Nat → Int32)} {rf : RFt} {Q : MMt → Prop} (b : Nat) (a1 : Int32) (hb : b < 2) (hrf : RFr b rf) (mem : MMt) (h : L_X4_keep b a1 mem Q) : Ct sx yX4_keep cX4_keep 2 none 1 [.ref 55, .int a1] NX NX rf mem (QQv (RFr b) Q) := by
  refine Ct_of [some (.ref 55), some (.int a1)] (by decide +kernel) (by simp [Lof, Value.category]) rfl ?_
  unfold L_X4_keep at h
  refine G_aload_n (i := 0) pX4_keep_0 rfl rfl ?_
  refine G_getI (ci := 4) (j := 1) (N := 6) pX4_keep_1 fl_RX4_42 rfl ltk_55 shk_55 (by decide) rfl ?_
  refine G_bipush pX4_keep_4 bi_50 ?_
  refine G_icmp_ge pX4_keep_6 (fun c1 => ?_) (fun c1 => ?_)
  · have h := h.1 c1
    exact G_return (len := 1) pX4_keep_29 ⟨hrf, rfl, h⟩ rfl
  · have h := h.2 c1
    refine G_aload_n (i := 0) pX4_keep_9 rfl rfl ?_
    refine G_getR (ci := 4) (j := 0) (N := 6) pX4_keep_10 fl_RX4_9 rfl ltk_55 shk_55 (by decide) rfl (hrf.1.lit 55 0 rfl) ?_
    refine G_aload_n (i := 0) pX4_keep_13 rfl rfl ?_
    refine G_getI (ci := 4) (j := 1) (N := 6) pX4_keep_14 fl_RX4_42 rfl ltk_55 shk_55 (by decide) rfl ?_
    refine G_iload_n (i := 1) pX4_keep_17 rfl rfl ?_
    obtain ⟨hi3, h⟩ := h
    obtain ⟨m2, em2⟩ : ∃ z : MMt, z = up2 mem 56 (mem 55 1).toNatClampNeg a1 := ⟨_, rfl⟩
    have h := h m2 em2
    refine G_iastW pX4_keep_18 ltk_56 shk_56 hi3 em2.symm ?_
    refine G_aload_n (i := 0) pX4_keep_19 rfl rfl ?_
    refine G_dup pX4_keep_20 rfl ?_
    refine G_getI (ci := 4) (j := 1) (N := 6) pX4_keep_21 fl_RX4_42 rfl ltk_55 shk_55 (by decide) rfl ?_
    refine G_iconst pX4_keep_24 ic_1 ?_
    refine G_iadd pX4_keep_25 ?_
    obtain ⟨m4, em4⟩ : ∃ z : MMt, z = up2 m2 55 1 ((m2 55 1) + (1 : Int32)) := ⟨_, rfl⟩
    have h := h m4 em4
    refine G_putIW (ci := 4) (j := 1) (N := 6) pX4_keep_26 fw_RX4_42 rfl ltk_55 shk_55 (by decide) rfl (fun _ => ⟨rfl, rfl⟩) em4.symm ?_
    exact G_return (len := 1) pX4_keep_29 ⟨hrf, rfl, h⟩ rfl
def B_X4_readNumber_16 (b : Nat) (x1 : Int32) (x2 : Int32) (mem : MMt) (Q : Int32 → MMt → Prop) : Prop := LOOP (σ := Int32 × MMt) (fun X16 z => (fun (x1 : Int32) (mem : MMt) => ((x2 ≤ (mem 55 4) → L_X4_keep b x1 mem (fun m2 => Q (1 : Int32) m2)) ∧ (¬ x2 ≤ (mem 55 4) → (vp_in (mem 55 4) 50 ∧ L_X4_isDigit (mem 13 (mem 55 4).toNatClampNeg) mem (fun r5 m4 => ((r5 = 0 → L_X4_keep b x1 m4 (fun m7 => Q (1 : Int32) m7)) ∧ (¬ r5 = 0 → (vp_in (m4 55 4) 50 ∧ (∀ v9 : Int32, v9 = ((x1 * (10 : Int32)) + (m4 13 (m4 55 4).toNatClampNeg)) - (48 : Int32) → (∀ m10 : MMt, m10 = up2 m4 55 4 ((m4 55 4) + (1 : Int32)) → X16 (v9, m10))))))))))) z.1 z.2) (x1, mem)
set_option maxRecDepth 4000 in
theorem gB_X4_readNumber_16 {sx : Nat × (Nat → Int32)} {rf : RFt} {Q : Int32 → MMt → Prop} (b : Nat) (hb : b < 2) (hrf : RFr b rf) (x1 : Int32) (x2 : Int32) (mem : MMt) (h : B_X4_readNumber_16 b x1 x2 mem Q) : G sx yX4_readNumber cX4_readNumber 3 (some .boolean) 3 NX NX (QQi (RFr b) Q) NX rf mem 16 [some (.ref 55), some (.int x1), some (.int x2)] [] := by
  obtain ⟨I, ⟨n, h0⟩, hI⟩ := h
  have key : ∀ (n : Nat) (rf : RFt) (x1 : Int32) (mem : MMt), RFr b rf → I n (x1, mem) → G sx yX4_readNumber cX4_readNumber 3 (some .boolean) 3 NX NX (QQi (RFr b) Q) NX rf mem 16 [some (.ref 55), some (.int x1), some (.int x2)] [] := by
    intro n
    induction n using Nat.strongRecOn with
    | _ n ih =>
    intro rf x1 mem hrf h0
    have hX16 : ∀ (rf : RFt) (x1 : Int32) (mem : MMt), RFr b rf → (fun s' => ∃ m, m < n ∧ I m s') (x1, mem) → G sx yX4_readNumber cX4_readNumber 3 (some .boolean) 3 NX NX (QQi (RFr b) Q) NX rf mem 16 [some (.ref 55), some (.int x1), some (.int x2)] [] := fun rf x1 mem hrf ⟨m, hm, hi⟩ => ih m hm rf x1 mem hrf hi
    have h := hI n _ h0
    clear ih h0
    try dsimp only at h
    refine G_aload_n (i := 0) pX4_readNumber_16 rfl rfl ?_
    refine G_getI (ci := 4) (j := 4) (N := 6) pX4_readNumber_17 fl_RX4_39 rfl ltk_55 shk_55 (by decide) rfl ?_
    refine G_iload_n (i := 2) pX4_readNumber_20 rfl rfl ?_
    refine G_icmp_ge pX4_readNumber_21 (fun c1 => ?_) (fun c1 => ?_)
    · have h := h.1 c1
      refine G_aload_n (i := 0) pX4_readNumber_70 rfl rfl ?_
      refine G_iload_n (i := 1) pX4_readNumber_71 rfl rfl ?_
      refine G_callV1v (b := 55) (ci := 4) (N := 6) pX4_readNumber_72 (g_X4_keep b x1 hb hrf _ h) mV_X4_keep ml_RX4_59 (by decide) ⟨Nat.le_refl _, Nat.le_refl _, Nat.le_refl _⟩ (Nat.le_of_ble_eq_true rfl) ltk_55 shk_55 rfl ?_
      intro rf m2 hrf h
      refine G_iconst pX4_readNumber_75 ic_1 ?_
      exact G_ireturn (len := 1) pX4_readNumber_76 ⟨hrf, _, rfl, h⟩ ⟨_, rfl, rfl⟩
    · have h := h.2 c1
      refine G_aload_n (i := 0) pX4_readNumber_24 rfl rfl ?_
      refine G_getR (ci := 4) (j := 2) (N := 6) pX4_readNumber_25 fl_RX4_15 rfl ltk_55 shk_55 (by decide) rfl hrf.2.1 ?_
      refine G_aload_n (i := 0) pX4_readNumber_28 rfl rfl ?_
      refine G_getI (ci := 4) (j := 4) (N := 6) pX4_readNumber_29 fl_RX4_39 rfl ltk_55 shk_55 (by decide) rfl ?_
      obtain ⟨hi3, h⟩ := h
      refine G_bald pX4_readNumber_32 ltk_13 shk_13 hi3 ?_
      refine G_callS1i pX4_readNumber_33 (g_X4_isDigit (mem 13 (mem 55 4).toNatClampNeg) hrf _ h) mS_X4_isDigit ml_RX4_63 (by decide) ⟨Nat.le_refl _, Nat.le_refl _, Nat.le_refl _⟩ (Nat.le_of_ble_eq_true rfl) ?_
      intro r5 rf m4 hrf h hr5
      refine G_if_eq pX4_readNumber_36 (fun c6 => ?_) (fun c6 => ?_)
      · have h := h.1 c6
        refine G_aload_n (i := 0) pX4_readNumber_70 rfl rfl ?_
        refine G_iload_n (i := 1) pX4_readNumber_71 rfl rfl ?_
        refine G_callV1v (b := 55) (ci := 4) (N := 6) pX4_readNumber_72 (g_X4_keep b x1 hb hrf _ h) mV_X4_keep ml_RX4_59 (by decide) ⟨Nat.le_refl _, Nat.le_refl _, Nat.le_refl _⟩ (Nat.le_of_ble_eq_true rfl) ltk_55 shk_55 rfl ?_
        intro rf m7 hrf h
        refine G_iconst pX4_readNumber_75 ic_1 ?_
        exact G_ireturn (len := 1) pX4_readNumber_76 ⟨hrf, _, rfl, h⟩ ⟨_, rfl, rfl⟩
      · have h := h.2 c6
        refine G_iload_n (i := 1) pX4_readNumber_39 rfl rfl ?_
        refine G_bipush pX4_readNumber_40 bi_10 ?_
        refine G_imul pX4_readNumber_42 ?_
        refine G_aload_n (i := 0) pX4_readNumber_43 rfl rfl ?_
        refine G_getR (ci := 4) (j := 2) (N := 6) pX4_readNumber_44 fl_RX4_15 rfl ltk_55 shk_55 (by decide) rfl hrf.2.1 ?_
        refine G_aload_n (i := 0) pX4_readNumber_47 rfl rfl ?_
        refine G_getI (ci := 4) (j := 4) (N := 6) pX4_readNumber_48 fl_RX4_39 rfl ltk_55 shk_55 (by decide) rfl ?_
        obtain ⟨hi8, h⟩ := h
        refine G_bald pX4_readNumber_51 ltk_13 shk_13 hi8 ?_
        refine G_iadd pX4_readNumber_52 ?_
        refine G_bipush pX4_readNumber_53 bi_48 ?_
        refine G_isub pX4_readNumber_55 ?_
        obtain ⟨v9, e9⟩ : ∃ z : Int32, z = ((x1 * (10 : Int32)) + (m4 13 (m4 55 4).toNatClampNeg)) - (48 : Int32) := ⟨_, rfl⟩
        have h := h v9 e9
        refine G_istore_nW (L' := [some (.ref 55), some (.int v9), some (.int x2)]) pX4_readNumber_56 rfl e9.symm rfl ?_
        refine G_aload_n (i := 0) pX4_readNumber_57 rfl rfl ?_
        refine G_dup pX4_readNumber_58 rfl ?_
        refine G_getI (ci := 4) (j := 4) (N := 6) pX4_readNumber_59 fl_RX4_39 rfl ltk_55 shk_55 (by decide) rfl ?_
        refine G_iconst pX4_readNumber_62 ic_1 ?_
        refine G_iadd pX4_readNumber_63 ?_
        obtain ⟨m10, em10⟩ : ∃ z : MMt, z = up2 m4 55 4 ((m4 55 4) + (1 : Int32)) := ⟨_, rfl⟩
        have h := h m10 em10
        refine G_putIW (ci := 4) (j := 4) (N := 6) pX4_readNumber_64 fw_RX4_39 rfl ltk_55 shk_55 (by decide) rfl (fun _ => ⟨rfl, rfl⟩) em10.symm ?_
        refine G_goto pX4_readNumber_67 ?_
        exact hX16 _ _ _ hrf h
  exact key n rf _ _ hrf h0
def L_X4_readNumber (b : Nat) (mem : MMt) (Q : Int32 → MMt → Prop) : Prop := L_J9_min_7cf53 (mem 55 3) ((mem 55 4) + (4 : Int32)) mem (fun r2 m1 => B_X4_readNumber_16 b (0 : Int32) r2 m1 Q)
set_option maxRecDepth 4000 in
theorem g_X4_readNumber {sx : Nat × (Nat → Int32)} {rf : RFt} {Q : Int32 → MMt → Prop} (b : Nat) (hb : b < 2) (hrf : RFr b rf) (mem : MMt) (h : L_X4_readNumber b mem Q) : Ct sx yX4_readNumber cX4_readNumber 3 (some .boolean) 3 [.ref 55] NX NX rf mem (QQi (RFr b) Q) := by
  refine Ct_of [some (.ref 55), none, none] (by decide +kernel) (by simp [Lof, Value.category]) rfl ?_
  unfold L_X4_readNumber at h
  refine G_iconst pX4_readNumber_0 ic_0 ?_
  refine G_istore_n (i := 1) (L' := [some (.ref 55), some (.int (0 : Int32)), none]) pX4_readNumber_1 rfl rfl ?_
  refine G_aload_n (i := 0) pX4_readNumber_2 rfl rfl ?_
  refine G_getI (ci := 4) (j := 3) (N := 6) pX4_readNumber_3 fl_RX4_31 rfl ltk_55 shk_55 (by decide) rfl ?_
  refine G_aload_n (i := 0) pX4_readNumber_6 rfl rfl ?_
  refine G_getI (ci := 4) (j := 4) (N := 6) pX4_readNumber_7 fl_RX4_39 rfl ltk_55 shk_55 (by decide) rfl ?_
  refine G_iconst pX4_readNumber_10 ic_4 ?_
  refine G_iadd pX4_readNumber_11 ?_
  refine G_callS2i pX4_readNumber_12 (g_J9_min_7cf53 (mem 55 3) ((mem 55 4) + (4 : Int32)) hrf _ h) mS_J9_min_7cf53 ml_RX4_25 (by decide) ⟨Nat.le_refl _, Nat.le_refl _, Nat.le_refl _⟩ (Nat.le_of_ble_eq_true rfl) ?_
  intro r2 rf m1 hrf h hr2
  refine G_istore_n (i := 2) (L' := [some (.ref 55), some (.int (0 : Int32)), some (.int r2)]) pX4_readNumber_15 rfl rfl ?_
  exact gB_X4_readNumber_16 b hb hrf (0 : Int32) r2 _ h
