def L_X9_lifts (a1 : Int32) (mem : MMt) (Q : Int32 → MMt → Prop) : Prop := L_X9_within a1 (-2 : Int32) ((mem 1 1) - (1 : Int32)) mem (fun r2 m1 => ((¬ r2 = 0 → L_X3_balance 1 m1 (fun m4 => ((¬ a1 = (-2 : Int32) → ((¬ a1 = (-1 : Int32) → (vp_in a1 8 ∧ Q (m4 63 a1.toNatClampNeg) m4)) ∧ (a1 = (-1 : Int32) → Q (m4 58 7) m4))) ∧ (a1 = (-2 : Int32) → Q (m4 58 6) m4)))) ∧ (r2 = 0 → L_X9_error (1 : Int32) m1 (fun r9 m8 => Q r9 m8))))
set_option maxRecDepth 4000 in
theorem g_X9_lifts {sx : Nat × (Nat → Int32)} {rf : RFt} {Q : Int32 → MMt → Prop} (a1 : Int32) (hrf : RFok rf) (mem : MMt) (h : L_X9_lifts a1 mem Q) : Ct sx yX9_lifts cX9_lifts 2 (some .int) 25 [.ref 0, .int a1] NX NX rf mem (QQi (RFok) Q) := by
  refine Ct_of [some (.ref 0), some (.int a1)] (by decide +kernel) (by simp [Lof, Value.category]) rfl ?_
  unfold L_X9_lifts at h
  refine G_iload_n (i := 1) pX9_lifts_0 rfl rfl ?_
  refine G_bipush pX9_lifts_1 bi_m2 ?_
  refine G_aload_n (i := 0) pX9_lifts_3 rfl rfl ?_
  refine G_getR (ci := 9) (j := 0) (N := 12) pX9_lifts_4 fl_RX9_10 rfl ltk_0 shk_0 (by decide) rfl (hrf.lit 0 0 rfl) ?_
  refine G_getI (ci := 0) (j := 1) (N := 4) pX9_lifts_7 fl_RX9_84 rfl ltk_1 shk_1 (by decide) rfl ?_
  refine G_iconst pX9_lifts_10 ic_1 ?_
  refine G_isub pX9_lifts_11 ?_
  refine G_callS3i pX9_lifts_12 (g_X9_within a1 (-2 : Int32) ((mem 1 1) - (1 : Int32)) hrf _ h) mS_X9_within ml_RX9_104 (by decide) ⟨Nat.le_refl _, Nat.le_refl _, Nat.le_refl _⟩ (Nat.le_of_ble_eq_true rfl) ?_
  intro r2 rf m1 hrf h hr2
  refine G_if_ne pX9_lifts_15 (fun c3 => ?_) (fun c3 => ?_)
  · have h := h.1 c3
    refine G_aload_n (i := 0) pX9_lifts_24 rfl rfl ?_
    refine G_getR (ci := 9) (j := 7) (N := 12) pX9_lifts_25 fl_RX9_51 rfl ltk_0 shk_0 (by decide) rfl (hrf.lit 0 7 rfl) ?_
    refine G_aload_n (i := 0) pX9_lifts_28 rfl rfl ?_
    refine G_getR (ci := 9) (j := 0) (N := 12) pX9_lifts_29 fl_RX9_10 rfl ltk_0 shk_0 (by decide) rfl (hrf.lit 0 0 rfl) ?_
    refine G_callV1v (b := 58) (ci := 3) (N := 9) pX9_lifts_32 (g_X3_balance 1 (IS_lit shk_1 ltk_1) hrf _ h) mV_X3_balance ml_RX9_240 (by decide) ⟨Nat.le_refl _, Nat.le_refl _, Nat.le_refl _⟩ (Nat.le_of_ble_eq_true rfl) ltk_58 shk_58 rfl ?_
    intro rf m4 hrf h
    refine G_iload_n (i := 1) pX9_lifts_35 rfl rfl ?_
    refine G_bipush pX9_lifts_36 bi_m2 ?_
    refine G_icmp_ne pX9_lifts_38 (fun c5 => ?_) (fun c5 => ?_)
    · have h := h.1 c5
      refine G_iload_n (i := 1) pX9_lifts_49 rfl rfl ?_
      refine G_iconst pX9_lifts_50 ic_m1 ?_
      refine G_icmp_ne pX9_lifts_51 (fun c6 => ?_) (fun c6 => ?_)
      · have h := h.1 c6
        refine G_aload_n (i := 0) pX9_lifts_64 rfl rfl ?_
        refine G_getR (ci := 9) (j := 7) (N := 12) pX9_lifts_65 fl_RX9_51 rfl ltk_0 shk_0 (by decide) rfl (hrf.lit 0 7 rfl) ?_
        refine G_getR (ci := 3) (j := 8) (N := 9) pX9_lifts_68 fl_RX9_249 rfl ltk_58 shk_58 (by decide) rfl (hrf.lit 58 8 rfl) ?_
        refine G_iload_n (i := 1) pX9_lifts_71 rfl rfl ?_
        obtain ⟨hi7, h⟩ := h
        refine G_iald pX9_lifts_72 ltk_63 shk_63 hi7 ?_
        exact G_ireturn (len := 1) pX9_lifts_73 ⟨hrf, _, rfl, h⟩ ⟨_, rfl, rfl⟩
      · have h := h.2 c6
        refine G_aload_n (i := 0) pX9_lifts_54 rfl rfl ?_
        refine G_getR (ci := 9) (j := 7) (N := 12) pX9_lifts_55 fl_RX9_51 rfl ltk_0 shk_0 (by decide) rfl (hrf.lit 0 7 rfl) ?_
        refine G_getI (ci := 3) (j := 7) (N := 9) pX9_lifts_58 fl_RX9_246 rfl ltk_58 shk_58 (by decide) rfl ?_
        refine G_goto pX9_lifts_61 ?_
        exact G_ireturn (len := 1) pX9_lifts_73 ⟨hrf, _, rfl, h⟩ ⟨_, rfl, rfl⟩
    · have h := h.2 c5
      refine G_aload_n (i := 0) pX9_lifts_41 rfl rfl ?_
      refine G_getR (ci := 9) (j := 7) (N := 12) pX9_lifts_42 fl_RX9_51 rfl ltk_0 shk_0 (by decide) rfl (hrf.lit 0 7 rfl) ?_
      refine G_getI (ci := 3) (j := 6) (N := 9) pX9_lifts_45 fl_RX9_243 rfl ltk_58 shk_58 (by decide) rfl ?_
      exact G_ireturn (len := 1) pX9_lifts_48 ⟨hrf, _, rfl, h⟩ ⟨_, rfl, rfl⟩
  · have h := h.2 c3
    refine G_aload_n (i := 0) pX9_lifts_18 rfl rfl ?_
    refine G_iconst pX9_lifts_19 ic_1 ?_
    refine G_callV1i (b := 0) (ci := 9) (N := 12) pX9_lifts_20 (g_X9_error (1 : Int32) hrf _ h) mV_X9_error ml_RX9_80 (by decide) ⟨Nat.le_refl _, Nat.le_refl _, Nat.le_refl _⟩ (Nat.le_of_ble_eq_true rfl) ltk_0 shk_0 rfl ?_
    intro r9 rf m8 hrf h hr9
    exact G_ireturn (len := 1) pX9_lifts_23 ⟨hrf, _, rfl, h⟩ ⟨_, rfl, rfl⟩
def L_X9_isSheet (a1 : Int32) (mem : MMt) (Q : Int32 → MMt → Prop) : Prop := L_X9_within a1 (0 : Int32) (3 : Int32) mem (fun r2 m1 => Q r2 m1)
set_option maxRecDepth 4000 in
theorem g_X9_isSheet {sx : Nat × (Nat → Int32)} {M : RFt → Prop} {rf : RFt} {Q : Int32 → MMt → Prop} (a1 : Int32) (hrf : M rf) (mem : MMt) (h : L_X9_isSheet a1 mem Q) : Ct sx yX9_isSheet cX9_isSheet 1 (some .boolean) 2 [.int a1] NX NX rf mem (QQi (M) Q) := by
  refine Ct_of [some (.int a1)] (by decide +kernel) (by simp [Lof, Value.category]) rfl ?_
  unfold L_X9_isSheet at h
  refine G_iload_n (i := 0) pX9_isSheet_0 rfl rfl ?_
  refine G_iconst pX9_isSheet_1 ic_0 ?_
  refine G_iconst pX9_isSheet_2 ic_3 ?_
  refine G_callS3i pX9_isSheet_3 (g_X9_within a1 (0 : Int32) (3 : Int32) hrf _ h) mS_X9_within ml_RX9_104 (by decide) ⟨Nat.le_refl _, Nat.le_refl _, Nat.le_refl _⟩ (Nat.le_of_ble_eq_true rfl) ?_
  intro r2 rf m1 hrf h hr2
  exact G_ireturn (len := 1) pX9_isSheet_6 ⟨hrf, _, rfl, h⟩ hr2
def L_X6_isMissing (q0 : Nat) (mem : MMt) (Q : Int32 → MMt → Prop) : Prop := ((¬ (mem q0 0) = 0 → Q (0 : Int32) mem) ∧ ((mem q0 0) = 0 → Q (1 : Int32) mem))
set_option maxRecDepth 4000 in
theorem g_X6_isMissing {sx : Nat × (Nat → Int32)} {M : RFt → Prop} {rf : RFt} {Q : Int32 → MMt → Prop} (q0 : Nat) (hq0 : IS 6 q0) (hrf : M rf) (mem : MMt) (h : L_X6_isMissing q0 mem Q) : Ct sx yX6_isMissing cX6_isMissing 1 (some .boolean) 1 [.ref q0] NX NX rf mem (QQi (M) Q) := by
  refine Ct_of [some (.ref q0)] (by decide +kernel) (by simp [Lof, Value.category]) rfl ?_
  unfold L_X6_isMissing at h
  refine G_aload_n (i := 0) pX6_isMissing_0 rfl rfl ?_
  refine G_getI (ci := 6) (j := 0) (N := 3) pX6_isMissing_1 fl_RX6_15 rfl hq0.2 hq0.sh6 (by decide) rfl ?_
  refine G_if_ne pX6_isMissing_4 (fun c1 => ?_) (fun c1 => ?_)
  · have h := h.1 c1
    refine G_iconst pX6_isMissing_11 ic_0 ?_
    exact G_ireturn (len := 1) pX6_isMissing_12 ⟨hrf, _, rfl, h⟩ ⟨_, rfl, rfl⟩
  · have h := h.2 c1
    refine G_iconst pX6_isMissing_7 ic_1 ?_
    refine G_goto pX6_isMissing_8 ?_
    exact G_ireturn (len := 1) pX6_isMissing_12 ⟨hrf, _, rfl, h⟩ ⟨_, rfl, rfl⟩
def B_X7_goesSo_2 (a1 : Nat) (x1 : Nat) (x2 : Int32) (mem : MMt) (Q : Int32 → MMt → Prop) : Prop := LOOP (σ := Int32 × MMt) (fun X2 z => (fun (x2 : Int32) (mem : MMt) => (((mem x1 1) ≤ x2 → Q (1 : Int32) mem) ∧ (¬ (mem x1 1) ≤ x2 → L_X7_goesOn mem (fun r3 m2 => (vp_in x2 40 ∧ (((m2 54 2) = (m2 (x1 + 1) x2.toNatClampNeg) → (∀ v6 : Int32, v6 = x2 + (1 : Int32) → X2 (v6, m2))) ∧ (¬ (m2 54 2) = (m2 (x1 + 1) x2.toNatClampNeg) → Q (0 : Int32) m2))))))) z.1 z.2) (x2, mem)
set_option maxRecDepth 4000 in
theorem gB_X7_goesSo_2 {sx : Nat × (Nat → Int32)} {rf : RFt} {Q : Int32 → MMt → Prop} (a1 : Nat) (ha1 : IS 6 a1) (hrf : RFok rf) (x1 : Nat) (x2 : Int32) (hx1 : IS 6 x1) (mem : MMt) (h : B_X7_goesSo_2 a1 x1 x2 mem Q) : G sx yX7_goesSo cX7_goesSo 3 (some .boolean) 6 NX NX (QQi (RFok) Q) NX rf mem 2 [some (.ref 53), some (.ref x1), some (.int x2)] [] := by
  obtain ⟨I, ⟨n, h0⟩, hI⟩ := h
  have key : ∀ (n : Nat) (rf : RFt) (x2 : Int32) (mem : MMt), RFok rf → I n (x2, mem) → G sx yX7_goesSo cX7_goesSo 3 (some .boolean) 6 NX NX (QQi (RFok) Q) NX rf mem 2 [some (.ref 53), some (.ref x1), some (.int x2)] [] := by
    intro n
    induction n using Nat.strongRecOn with
    | _ n ih =>
    intro rf x2 mem hrf h0
    have hX2 : ∀ (rf : RFt) (x2 : Int32) (mem : MMt), RFok rf → (fun s' => ∃ m, m < n ∧ I m s') (x2, mem) → G sx yX7_goesSo cX7_goesSo 3 (some .boolean) 6 NX NX (QQi (RFok) Q) NX rf mem 2 [some (.ref 53), some (.ref x1), some (.int x2)] [] := fun rf x2 mem hrf ⟨m, hm, hi⟩ => ih m hm rf x2 mem hrf hi
    have h := hI n _ h0
    clear ih h0
    try dsimp only at h
    refine G_iload_n (i := 2) pX7_goesSo_2 rfl rfl ?_
    refine G_aload_n (i := 1) pX7_goesSo_3 rfl rfl ?_
    refine G_getI (ci := 6) (j := 1) (N := 3) pX7_goesSo_4 fl_RX7_58 rfl hx1.2 hx1.sh6 (by decide) rfl ?_
    refine G_icmp_ge pX7_goesSo_7 (fun c1 => ?_) (fun c1 => ?_)
    · have h := h.1 c1
      refine G_iconst pX7_goesSo_39 ic_1 ?_
      exact G_ireturn (len := 1) pX7_goesSo_40 ⟨hrf, _, rfl, h⟩ ⟨_, rfl, rfl⟩
    · have h := h.2 c1
      refine G_aload_n (i := 0) pX7_goesSo_10 rfl rfl ?_
      refine G_callV0i (b := 53) (ci := 7) (N := 2) pX7_goesSo_11 (g_X7_goesOn hrf _ h) mV_X7_goesOn ml_RX7_36 (by decide) ⟨Nat.le_refl _, Nat.le_refl _, Nat.le_refl _⟩ (Nat.le_of_ble_eq_true rfl) ltk_53 shk_53 rfl ?_
      intro r3 rf m2 hrf h hr3
      refine G_pop pX7_goesSo_14 rfl ?_
      refine G_aload_n (i := 0) pX7_goesSo_15 rfl rfl ?_
      refine G_getR (ci := 7) (j := 0) (N := 2) pX7_goesSo_16 fl_RX7_12 rfl ltk_53 shk_53 (by decide) rfl (hrf.lit 53 0 rfl) ?_
      refine G_getI (ci := 1) (j := 2) (N := 5) pX7_goesSo_19 fl_RX7_44 rfl ltk_54 shk_54 (by decide) rfl ?_
      refine G_aload_n (i := 1) pX7_goesSo_22 rfl rfl ?_
      refine G_getR (ci := 6) (j := 2) (N := 3) pX7_goesSo_23 fl_RX7_63 rfl hx1.2 hx1.sh6 (by decide) rfl ((lay_6_2 hx1).2.2 hrf) ?_
      refine G_iload_n (i := 2) pX7_goesSo_26 rfl rfl ?_
      obtain ⟨hi4, h⟩ := h
      refine G_iald pX7_goesSo_27 (lay_6_2 hx1).2.1 (lay_6_2 hx1).1 hi4 ?_
      refine G_icmp_eq pX7_goesSo_28 (fun c5 => ?_) (fun c5 => ?_)
      · have h := h.1 c5
        obtain ⟨v6, e6⟩ : ∃ z : Int32, z = x2 + (1 : Int32) := ⟨_, rfl⟩
        have h := h v6 e6
        refine G_iincW (L' := [some (.ref 53), some (.ref x1), some (.int v6)]) pX7_goesSo_33 rfl ic_1 e6.symm rfl ?_
        refine G_goto pX7_goesSo_36 ?_
        exact hX2 _ _ _ hrf h
      · have h := h.2 c5
        refine G_iconst pX7_goesSo_31 ic_0 ?_
        exact G_ireturn (len := 1) pX7_goesSo_32 ⟨hrf, _, rfl, h⟩ ⟨_, rfl, rfl⟩
  exact key n rf _ _ hrf h0
def L_X7_goesSo (a1 : Nat) (mem : MMt) (Q : Int32 → MMt → Prop) : Prop := B_X7_goesSo_2 a1 a1 (0 : Int32) mem Q
set_option maxRecDepth 4000 in
theorem g_X7_goesSo {sx : Nat × (Nat → Int32)} {rf : RFt} {Q : Int32 → MMt → Prop} (a1 : Nat) (ha1 : IS 6 a1) (hrf : RFok rf) (mem : MMt) (h : L_X7_goesSo a1 mem Q) : Ct sx yX7_goesSo cX7_goesSo 3 (some .boolean) 6 [.ref 53, .ref a1] NX NX rf mem (QQi (RFok) Q) := by
  refine Ct_of [some (.ref 53), some (.ref a1), none] (by decide +kernel) (by simp [Lof, Value.category]) rfl ?_
  unfold L_X7_goesSo at h
  refine G_iconst pX7_goesSo_0 ic_0 ?_
  refine G_istore_n (i := 2) (L' := [some (.ref 53), some (.ref a1), some (.int (0 : Int32))]) pX7_goesSo_1 rfl rfl ?_
  exact gB_X7_goesSo_2 a1 ha1 hrf a1 (0 : Int32) ha1 _ h
def L_X7_rollsSo (a1 : Nat) (a2 : Int32) (a3 : Nat) (mem : MMt) (Q : Int32 → MMt → Prop) : Prop := L_X1_copyFrom 54 a1 mem (fun m1 => (∀ m2 : MMt, m2 = up2 m1 54 3 a2 → L_X7_goesSo a3 m2 (fun r4 m3 => Q r4 m3)))
set_option maxRecDepth 4000 in
theorem g_X7_rollsSo {sx : Nat × (Nat → Int32)} {rf : RFt} {Q : Int32 → MMt → Prop} (a1 : Nat) (a2 : Int32) (a3 : Nat) (ha1 : IS 1 a1) (ha3 : IS 6 a3) (hrf : RFok rf) (mem : MMt) (h : L_X7_rollsSo a1 a2 a3 mem Q) : Ct sx yX7_rollsSo cX7_rollsSo 4 (some .boolean) 7 [.ref 53, .ref a1, .int a2, .ref a3] NX NX rf mem (QQi (RFok) Q) := by
  refine Ct_of [some (.ref 53), some (.ref a1), some (.int a2), some (.ref a3)] (by decide +kernel) (by simp [Lof, Value.category]) rfl ?_
  unfold L_X7_rollsSo at h
  refine G_aload_n (i := 0) pX7_rollsSo_0 rfl rfl ?_
  refine G_getR (ci := 7) (j := 0) (N := 2) pX7_rollsSo_1 fl_RX7_12 rfl ltk_53 shk_53 (by decide) rfl (hrf.lit 53 0 rfl) ?_
  refine G_aload_n (i := 1) pX7_rollsSo_4 rfl rfl ?_
  refine G_callV1v (b := 54) (ci := 1) (N := 5) pX7_rollsSo_5 (g_X1_copyFrom 54 a1 (IS_lit shk_54 ltk_54) ha1 hrf _ h) mV_X1_copyFrom ml_RX7_32 (by decide) ⟨Nat.le_refl _, Nat.le_refl _, Nat.le_refl _⟩ (Nat.le_of_ble_eq_true rfl) ltk_54 shk_54 rfl ?_
  intro rf m1 hrf h
  refine G_aload_n (i := 0) pX7_rollsSo_8 rfl rfl ?_
  refine G_getR (ci := 7) (j := 0) (N := 2) pX7_rollsSo_9 fl_RX7_12 rfl ltk_53 shk_53 (by decide) rfl (hrf.lit 53 0 rfl) ?_
  refine G_iload_n (i := 2) pX7_rollsSo_12 rfl rfl ?_
  obtain ⟨m2, em2⟩ : ∃ z : MMt, z = up2 m1 54 3 a2 := ⟨_, rfl⟩
  have h := h m2 em2
  refine G_putIW (ci := 1) (j := 3) (N := 5) pX7_rollsSo_13 fw_RX7_48 rfl ltk_54 shk_54 (by decide) rfl (fun _ => ⟨rfl, rfl⟩) em2.symm ?_
  refine G_aload_n (i := 0) pX7_rollsSo_16 rfl rfl ?_
  refine G_aload_n (i := 3) pX7_rollsSo_17 rfl rfl ?_
  refine G_callV1i (b := 53) (ci := 7) (N := 2) pX7_rollsSo_18 (g_X7_goesSo a3 ha3 hrf _ h) mV_X7_goesSo ml_RX7_51 (by decide) ⟨Nat.le_refl _, Nat.le_refl _, Nat.le_refl _⟩ (Nat.le_of_ble_eq_true rfl) ltk_53 shk_53 rfl ?_
  intro r4 rf m3 hrf h hr4
  exact G_ireturn (len := 1) pX7_rollsSo_21 ⟨hrf, _, rfl, h⟩ hr4
def B_X9_rolled_104 (X58 : Int32 × Int32 × Int32 × MMt → Prop) (x1 : Int32) (x2 : Int32) (x3 : Int32) (x5 : Int32) (x6 : Int32) (s0 : Int32) (mem : MMt) (Q : Int32 → MMt → Prop) : Prop := (∀ v1 : Int32, v1 = x5 + (1 : Int32) → (∀ v2 : Int32, v2 = x6 + (1 : Int32) → X58 (s0, v1, v2, mem)))
set_option maxRecDepth 4000 in
theorem gB_X9_rolled_104 {sx : Nat × (Nat → Int32)} {X58 : Int32 × Int32 × Int32 × MMt → Prop} {rf : RFt} {Q : Int32 → MMt → Prop} (hrf : RFok rf) (x1 : Int32) (x2 : Int32) (x3 : Int32) (x5 : Int32) (x6 : Int32) (s0 : Int32) (hX58 : ∀ (rf : RFt) (x4 : Int32) (x5 : Int32) (x6 : Int32) (mem : MMt), RFok rf → X58 (x4, x5, x6, mem) → G sx yX9_rolled cX9_rolled 7 (some .int) 8 NX NX (QQi (RFok) Q) NX rf mem 58 [some (.ref 0), some (.int x1), some (.int x2), some (.int x3), some (.int x4), some (.int x5), some (.int x6)] []) (mem : MMt) (h : B_X9_rolled_104 X58 x1 x2 x3 x5 x6 s0 mem Q) : G sx yX9_rolled cX9_rolled 7 (some .int) 8 NX NX (QQi (RFok) Q) NX rf mem 104 [some (.ref 0), some (.int x1), some (.int x2), some (.int x3), none, some (.int x5), some (.int x6)] [.int s0] := by
  unfold B_X9_rolled_104 at h
  refine G_istore (i := 4) (L' := [some (.ref 0), some (.int x1), some (.int x2), some (.int x3), some (.int s0), some (.int x5), some (.int x6)]) pX9_rolled_104 rfl ?_
  obtain ⟨v1, e1⟩ : ∃ z : Int32, z = x5 + (1 : Int32) := ⟨_, rfl⟩
  have h := h v1 e1
  refine G_iincW (L' := [some (.ref 0), some (.int x1), some (.int x2), some (.int x3), some (.int s0), some (.int v1), some (.int x6)]) pX9_rolled_106 rfl ic_1 e1.symm rfl ?_
  obtain ⟨v2, e2⟩ : ∃ z : Int32, z = x6 + (1 : Int32) := ⟨_, rfl⟩
  have h := h v2 e2
  refine G_iincW (L' := [some (.ref 0), some (.int x1), some (.int x2), some (.int x3), some (.int s0), some (.int v1), some (.int v2)]) pX9_rolled_109 rfl ic_1 e2.symm rfl ?_
  refine G_goto pX9_rolled_112 ?_
  exact hX58 _ _ _ _ _ hrf h
def B_X9_rolled_58 (x1 : Int32) (x2 : Int32) (x3 : Int32) (x4 : Int32) (x5 : Int32) (x6 : Int32) (mem : MMt) (Q : Int32 → MMt → Prop) : Prop := LOOP (σ := Int32 × Int32 × Int32 × MMt) (fun X58 z => (fun (x4 : Int32) (x5 : Int32) (x6 : Int32) (mem : MMt) => (((9 : Int32) < x6 → ((¬ x5 = 0 → ((¬ x3 = 0 → Q x5 mem) ∧ (x3 = 0 → Q x4 mem))) ∧ (x5 = 0 → L_X9_error (2 : Int32) mem (fun r5 m4 => Q r5 m4)))) ∧ (¬ (9 : Int32) < x6 → (vp_in x1 8 ∧ (vp_in x2 4 ∧ L_X7_rollsSo (1 + 2 + x1.toNatClampNeg) x6 (68 + 2 * x2.toNatClampNeg) mem (fun r9 m8 => ((r9 = 0 → (∀ v11 : Int32, v11 = x6 + (1 : Int32) → X58 (x4, x5, v11, m8))) ∧ (¬ r9 = 0 → ((¬ x5 = 0 → B_X9_rolled_104 X58 x1 x2 x3 x5 x6 x4 m8 Q) ∧ (x5 = 0 → B_X9_rolled_104 X58 x1 x2 x3 x5 x6 x6 m8 Q)))))))))) z.1 z.2.1 z.2.2.1 z.2.2.2) (x4, x5, x6, mem)
set_option maxRecDepth 4000 in
theorem gB_X9_rolled_58 {sx : Nat × (Nat → Int32)} {rf : RFt} {Q : Int32 → MMt → Prop} (hrf : RFok rf) (x1 : Int32) (x2 : Int32) (x3 : Int32) (x4 : Int32) (x5 : Int32) (x6 : Int32) (mem : MMt) (h : B_X9_rolled_58 x1 x2 x3 x4 x5 x6 mem Q) : G sx yX9_rolled cX9_rolled 7 (some .int) 8 NX NX (QQi (RFok) Q) NX rf mem 58 [some (.ref 0), some (.int x1), some (.int x2), some (.int x3), some (.int x4), some (.int x5), some (.int x6)] [] := by
  obtain ⟨I, ⟨n, h0⟩, hI⟩ := h
  have key : ∀ (n : Nat) (rf : RFt) (x4 : Int32) (x5 : Int32) (x6 : Int32) (mem : MMt), RFok rf → I n (x4, x5, x6, mem) → G sx yX9_rolled cX9_rolled 7 (some .int) 8 NX NX (QQi (RFok) Q) NX rf mem 58 [some (.ref 0), some (.int x1), some (.int x2), some (.int x3), some (.int x4), some (.int x5), some (.int x6)] [] := by
    intro n
    induction n using Nat.strongRecOn with
    | _ n ih =>
    intro rf x4 x5 x6 mem hrf h0
    have hX58 : ∀ (rf : RFt) (x4 : Int32) (x5 : Int32) (x6 : Int32) (mem : MMt), RFok rf → (fun s' => ∃ m, m < n ∧ I m s') (x4, x5, x6, mem) → G sx yX9_rolled cX9_rolled 7 (some .int) 8 NX NX (QQi (RFok) Q) NX rf mem 58 [some (.ref 0), some (.int x1), some (.int x2), some (.int x3), some (.int x4), some (.int x5), some (.int x6)] [] := fun rf x4 x5 x6 mem hrf ⟨m, hm, hi⟩ => ih m hm rf x4 x5 x6 mem hrf hi
    have h := hI n _ h0
    clear ih h0
    try dsimp only at h
    refine G_iload (i := 6) pX9_rolled_58 rfl ?_
    refine G_bipush pX9_rolled_60 bi_9 ?_
    refine G_icmp_gt pX9_rolled_62 (fun c1 => ?_) (fun c1 => ?_)
    · have h := h.1 c1
      refine G_iload (i := 5) pX9_rolled_115 rfl ?_
      refine G_if_ne pX9_rolled_117 (fun c2 => ?_) (fun c2 => ?_)
      · have h := h.1 c2
        refine G_iload_n (i := 3) pX9_rolled_126 rfl rfl ?_
        refine G_if_ne pX9_rolled_127 (fun c3 => ?_) (fun c3 => ?_)
        · have h := h.1 c3
          refine G_iload (i := 5) pX9_rolled_135 rfl ?_
          exact G_ireturn (len := 1) pX9_rolled_137 ⟨hrf, _, rfl, h⟩ ⟨_, rfl, rfl⟩
        · have h := h.2 c3
          refine G_iload (i := 4) pX9_rolled_130 rfl ?_
          refine G_goto pX9_rolled_132 ?_
          exact G_ireturn (len := 1) pX9_rolled_137 ⟨hrf, _, rfl, h⟩ ⟨_, rfl, rfl⟩
      · have h := h.2 c2
        refine G_aload_n (i := 0) pX9_rolled_120 rfl rfl ?_
        refine G_iconst pX9_rolled_121 ic_2 ?_
        refine G_callV1i (b := 0) (ci := 9) (N := 12) pX9_rolled_122 (g_X9_error (2 : Int32) hrf _ h) mV_X9_error ml_RX9_80 (by decide) ⟨Nat.le_refl _, Nat.le_refl _, Nat.le_refl _⟩ (Nat.le_of_ble_eq_true rfl) ltk_0 shk_0 rfl ?_
        intro r5 rf m4 hrf h hr5
        exact G_ireturn (len := 1) pX9_rolled_125 ⟨hrf, _, rfl, h⟩ ⟨_, rfl, rfl⟩
    · have h := h.2 c1
      refine G_aload_n (i := 0) pX9_rolled_65 rfl rfl ?_
      refine G_getR (ci := 9) (j := 5) (N := 12) pX9_rolled_66 fl_RX9_37 rfl ltk_0 shk_0 (by decide) rfl (hrf.lit 0 5 rfl) ?_
      refine G_aload_n (i := 0) pX9_rolled_69 rfl rfl ?_
      refine G_getR (ci := 9) (j := 0) (N := 12) pX9_rolled_70 fl_RX9_10 rfl ltk_0 shk_0 (by decide) rfl (hrf.lit 0 0 rfl) ?_
      refine G_getR (ci := 0) (j := 0) (N := 4) pX9_rolled_73 fl_RX9_88 rfl ltk_1 shk_1 (by decide) rfl (hrf.lit 1 0 rfl) ?_
      refine G_iload_n (i := 1) pX9_rolled_76 rfl rfl ?_
      obtain ⟨hi6, h⟩ := h
      refine G_aald pX9_rolled_77 ltk_2 shk_2 (by decide) hi6 (gd_rf (IS_lit shk_1 ltk_1) hrf hi6) ?_
      refine G_iload (i := 6) pX9_rolled_78 rfl ?_
      refine G_aload_n (i := 0) pX9_rolled_80 rfl rfl ?_
      refine G_getR (ci := 9) (j := 9) (N := 12) pX9_rolled_81 fl_RX9_64 rfl ltk_0 shk_0 (by decide) rfl (hrf.lit 0 9 rfl) ?_
      refine G_iload_n (i := 2) pX9_rolled_84 rfl rfl ?_
      obtain ⟨hi7, h⟩ := h
      refine G_aald pX9_rolled_85 ltk_66 shk_66 (by decide) hi7 (st_rf hrf hi7) ?_
      refine G_callV3i (b := 53) (ci := 7) (N := 2) pX9_rolled_86 (g_X7_rollsSo (1 + 2 + x1.toNatClampNeg) x6 (68 + 2 * x2.toNatClampNeg) (gd_in (IS_lit shk_1 ltk_1) hi6) (st_in hi7) hrf _ h) mV_X7_rollsSo ml_RX9_259 (by decide) ⟨Nat.le_refl _, Nat.le_refl _, Nat.le_refl _⟩ (Nat.le_of_ble_eq_true rfl) ltk_53 shk_53 rfl ?_
      intro r9 rf m8 hrf h hr9
      refine G_if_eq pX9_rolled_89 (fun c10 => ?_) (fun c10 => ?_)
      · have h := h.1 c10
        obtain ⟨v11, e11⟩ : ∃ z : Int32, z = x6 + (1 : Int32) := ⟨_, rfl⟩
        have h := h v11 e11
        refine G_iincW (L' := [some (.ref 0), some (.int x1), some (.int x2), some (.int x3), some (.int x4), some (.int x5), some (.int v11)]) pX9_rolled_109 rfl ic_1 e11.symm rfl ?_
        refine G_goto pX9_rolled_112 ?_
        exact hX58 _ _ _ _ _ hrf h
      · have h := h.2 c10
        refine G_iload (i := 5) pX9_rolled_92 rfl ?_
        refine G_if_ne pX9_rolled_94 (fun c12 => ?_) (fun c12 => ?_)
        · have h := h.1 c12
          refine G_iload (i := 4) pX9_rolled_102 rfl ?_
          refine G_wk (L2 := [some (.ref 0), some (.int x1), some (.int x2), some (.int x3), none, some (.int x5), some (.int x6)]) ⟨Or.inr rfl, Or.inr rfl, Or.inr rfl, Or.inr rfl, Or.inl rfl, Or.inr rfl, Or.inr rfl, trivial⟩ ?_
          exact gB_X9_rolled_104 hrf x1 x2 x3 x5 x6 x4 hX58 _ h
        · have h := h.2 c12
          refine G_iload (i := 6) pX9_rolled_97 rfl ?_
          refine G_goto pX9_rolled_99 ?_
          refine G_wk (L2 := [some (.ref 0), some (.int x1), some (.int x2), some (.int x3), none, some (.int x5), some (.int x6)]) ⟨Or.inr rfl, Or.inr rfl, Or.inr rfl, Or.inr rfl, Or.inl rfl, Or.inr rfl, Or.inr rfl, trivial⟩ ?_
          exact gB_X9_rolled_104 hrf x1 x2 x3 x5 x6 x6 hX58 _ h
  exact key n rf _ _ _ _ hrf h0
def L_X9_rolled (a1 : Int32) (a2 : Int32) (a3 : Int32) (mem : MMt) (Q : Int32 → MMt → Prop) : Prop := L_X9_isGood a1 mem (fun r2 m1 => ((r2 = 0 → L_X9_error (1 : Int32) m1 (fun r5 m4 => Q r5 m4)) ∧ (¬ r2 = 0 → L_X9_isSheet a2 m1 (fun r7 m6 => ((r7 = 0 → L_X9_error (1 : Int32) m6 (fun r10 m9 => Q r10 m9)) ∧ (¬ r7 = 0 → L_X9_within a3 (0 : Int32) (1 : Int32) m6 (fun r12 m11 => ((¬ r12 = 0 → (vp_in a2 4 ∧ L_X6_isMissing (68 + 2 * a2.toNatClampNeg) m11 (fun r16 m15 => ((r16 = 0 → B_X9_rolled_58 a1 a2 a3 (0 : Int32) (0 : Int32) (-9 : Int32) m15 Q) ∧ (¬ r16 = 0 → L_X9_error (2 : Int32) m15 (fun r19 m18 => Q r19 m18)))))) ∧ (r12 = 0 → L_X9_error (1 : Int32) m11 (fun r21 m20 => Q r21 m20))))))))))
set_option maxRecDepth 4000 in
theorem g_X9_rolled {sx : Nat × (Nat → Int32)} {rf : RFt} {Q : Int32 → MMt → Prop} (a1 : Int32) (a2 : Int32) (a3 : Int32) (hrf : RFok rf) (mem : MMt) (h : L_X9_rolled a1 a2 a3 mem Q) : Ct sx yX9_rolled cX9_rolled 7 (some .int) 8 [.ref 0, .int a1, .int a2, .int a3] NX NX rf mem (QQi (RFok) Q) := by
  refine Ct_of [some (.ref 0), some (.int a1), some (.int a2), some (.int a3), none, none, none] (by decide +kernel) (by simp [Lof, Value.category]) rfl ?_
  unfold L_X9_rolled at h
  refine G_aload_n (i := 0) pX9_rolled_0 rfl rfl ?_
  refine G_iload_n (i := 1) pX9_rolled_1 rfl rfl ?_
  refine G_callV1i (b := 0) (ci := 9) (N := 12) pX9_rolled_2 (g_X9_isGood a1 hrf _ h) mV_X9_isGood ml_RX9_101 (by decide) ⟨Nat.le_refl _, Nat.le_refl _, Nat.le_refl _⟩ (Nat.le_of_ble_eq_true rfl) ltk_0 shk_0 rfl ?_
  intro r2 rf m1 hrf h hr2
  refine G_if_eq pX9_rolled_5 (fun c3 => ?_) (fun c3 => ?_)
  · have h := h.1 c3
    refine G_aload_n (i := 0) pX9_rolled_24 rfl rfl ?_
    refine G_iconst pX9_rolled_25 ic_1 ?_
    refine G_callV1i (b := 0) (ci := 9) (N := 12) pX9_rolled_26 (g_X9_error (1 : Int32) hrf _ h) mV_X9_error ml_RX9_80 (by decide) ⟨Nat.le_refl _, Nat.le_refl _, Nat.le_refl _⟩ (Nat.le_of_ble_eq_true rfl) ltk_0 shk_0 rfl ?_
    intro r5 rf m4 hrf h hr5
    exact G_ireturn (len := 1) pX9_rolled_29 ⟨hrf, _, rfl, h⟩ ⟨_, rfl, rfl⟩
  · have h := h.2 c3
    refine G_iload_n (i := 2) pX9_rolled_8 rfl rfl ?_
    refine G_callS1i pX9_rolled_9 (g_X9_isSheet a2 hrf _ h) mS_X9_isSheet ml_RX9_252 (by decide) ⟨Nat.le_refl _, Nat.le_refl _, Nat.le_refl _⟩ (Nat.le_of_ble_eq_true rfl) ?_
    intro r7 rf m6 hrf h hr7
    refine G_if_eq pX9_rolled_12 (fun c8 => ?_) (fun c8 => ?_)
    · have h := h.1 c8
      refine G_aload_n (i := 0) pX9_rolled_24 rfl rfl ?_
      refine G_iconst pX9_rolled_25 ic_1 ?_
      refine G_callV1i (b := 0) (ci := 9) (N := 12) pX9_rolled_26 (g_X9_error (1 : Int32) hrf _ h) mV_X9_error ml_RX9_80 (by decide) ⟨Nat.le_refl _, Nat.le_refl _, Nat.le_refl _⟩ (Nat.le_of_ble_eq_true rfl) ltk_0 shk_0 rfl ?_
      intro r10 rf m9 hrf h hr10
      exact G_ireturn (len := 1) pX9_rolled_29 ⟨hrf, _, rfl, h⟩ ⟨_, rfl, rfl⟩
    · have h := h.2 c8
      refine G_iload_n (i := 3) pX9_rolled_15 rfl rfl ?_
      refine G_iconst pX9_rolled_16 ic_0 ?_
      refine G_iconst pX9_rolled_17 ic_1 ?_
      refine G_callS3i pX9_rolled_18 (g_X9_within a3 (0 : Int32) (1 : Int32) hrf _ h) mS_X9_within ml_RX9_104 (by decide) ⟨Nat.le_refl _, Nat.le_refl _, Nat.le_refl _⟩ (Nat.le_of_ble_eq_true rfl) ?_
      intro r12 rf m11 hrf h hr12
      refine G_if_ne pX9_rolled_21 (fun c13 => ?_) (fun c13 => ?_)
      · have h := h.1 c13
        refine G_aload_n (i := 0) pX9_rolled_30 rfl rfl ?_
        refine G_getR (ci := 9) (j := 9) (N := 12) pX9_rolled_31 fl_RX9_64 rfl ltk_0 shk_0 (by decide) rfl (hrf.lit 0 9 rfl) ?_
        refine G_iload_n (i := 2) pX9_rolled_34 rfl rfl ?_
        obtain ⟨hi14, h⟩ := h
        refine G_aald pX9_rolled_35 ltk_66 shk_66 (by decide) hi14 (st_rf hrf hi14) ?_
        refine G_callV0i (b := 68 + 2 * a2.toNatClampNeg) (ci := 6) (N := 3) pX9_rolled_36 (g_X6_isMissing (68 + 2 * a2.toNatClampNeg) (st_in hi14) hrf _ h) mV_X6_isMissing ml_RX9_255 (by decide) ⟨Nat.le_refl _, Nat.le_refl _, Nat.le_refl _⟩ (Nat.le_of_ble_eq_true rfl) (st_in hi14).2 (st_in hi14).sh6 rfl ?_
        intro r16 rf m15 hrf h hr16
        refine G_if_eq pX9_rolled_39 (fun c17 => ?_) (fun c17 => ?_)
        · have h := h.1 c17
          refine G_iconst pX9_rolled_48 ic_0 ?_
          refine G_istore (i := 4) (L' := [some (.ref 0), some (.int a1), some (.int a2), some (.int a3), some (.int (0 : Int32)), none, none]) pX9_rolled_49 rfl ?_
          refine G_iconst pX9_rolled_51 ic_0 ?_
          refine G_istore (i := 5) (L' := [some (.ref 0), some (.int a1), some (.int a2), some (.int a3), some (.int (0 : Int32)), some (.int (0 : Int32)), none]) pX9_rolled_52 rfl ?_
          refine G_bipush pX9_rolled_54 bi_m9 ?_
          refine G_istore (i := 6) (L' := [some (.ref 0), some (.int a1), some (.int a2), some (.int a3), some (.int (0 : Int32)), some (.int (0 : Int32)), some (.int (-9 : Int32))]) pX9_rolled_56 rfl ?_
          exact gB_X9_rolled_58 hrf a1 a2 a3 (0 : Int32) (0 : Int32) (-9 : Int32) _ h
        · have h := h.2 c17
          refine G_aload_n (i := 0) pX9_rolled_42 rfl rfl ?_
          refine G_iconst pX9_rolled_43 ic_2 ?_
          refine G_callV1i (b := 0) (ci := 9) (N := 12) pX9_rolled_44 (g_X9_error (2 : Int32) hrf _ h) mV_X9_error ml_RX9_80 (by decide) ⟨Nat.le_refl _, Nat.le_refl _, Nat.le_refl _⟩ (Nat.le_of_ble_eq_true rfl) ltk_0 shk_0 rfl ?_
          intro r19 rf m18 hrf h hr19
          exact G_ireturn (len := 1) pX9_rolled_47 ⟨hrf, _, rfl, h⟩ ⟨_, rfl, rfl⟩
      · have h := h.2 c13
        refine G_aload_n (i := 0) pX9_rolled_24 rfl rfl ?_
        refine G_iconst pX9_rolled_25 ic_1 ?_
        refine G_callV1i (b := 0) (ci := 9) (N := 12) pX9_rolled_26 (g_X9_error (1 : Int32) hrf _ h) mV_X9_error ml_RX9_80 (by decide) ⟨Nat.le_refl _, Nat.le_refl _, Nat.le_refl _⟩ (Nat.le_of_ble_eq_true rfl) ltk_0 shk_0 rfl ?_
        intro r21 rf m20 hrf h hr21
        exact G_ireturn (len := 1) pX9_rolled_29 ⟨hrf, _, rfl, h⟩ ⟨_, rfl, rfl⟩
def L_X7_goesSoAs (a1 : Nat) (a2 : Int32) (a3 : Nat) (mem : MMt) (Q : Int32 → MMt → Prop) : Prop := L_X1_copyFrom 54 a1 mem (fun m1 => (∀ m2 : MMt, m2 = up2 m1 54 0 a2 → L_X7_goesSo a3 m2 (fun r4 m3 => Q r4 m3)))
set_option maxRecDepth 4000 in
theorem g_X7_goesSoAs {sx : Nat × (Nat → Int32)} {rf : RFt} {Q : Int32 → MMt → Prop} (a1 : Nat) (a2 : Int32) (a3 : Nat) (ha1 : IS 1 a1) (ha3 : IS 6 a3) (hrf : RFok rf) (mem : MMt) (h : L_X7_goesSoAs a1 a2 a3 mem Q) : Ct sx yX7_goesSoAs cX7_goesSoAs 4 (some .boolean) 7 [.ref 53, .ref a1, .int a2, .ref a3] NX NX rf mem (QQi (RFok) Q) := by
  refine Ct_of [some (.ref 53), some (.ref a1), some (.int a2), some (.ref a3)] (by decide +kernel) (by simp [Lof, Value.category]) rfl ?_
  unfold L_X7_goesSoAs at h
  refine G_aload_n (i := 0) pX7_goesSoAs_0 rfl rfl ?_
  refine G_getR (ci := 7) (j := 0) (N := 2) pX7_goesSoAs_1 fl_RX7_12 rfl ltk_53 shk_53 (by decide) rfl (hrf.lit 53 0 rfl) ?_
  refine G_aload_n (i := 1) pX7_goesSoAs_4 rfl rfl ?_
  refine G_callV1v (b := 54) (ci := 1) (N := 5) pX7_goesSoAs_5 (g_X1_copyFrom 54 a1 (IS_lit shk_54 ltk_54) ha1 hrf _ h) mV_X1_copyFrom ml_RX7_32 (by decide) ⟨Nat.le_refl _, Nat.le_refl _, Nat.le_refl _⟩ (Nat.le_of_ble_eq_true rfl) ltk_54 shk_54 rfl ?_
  intro rf m1 hrf h
  refine G_aload_n (i := 0) pX7_goesSoAs_8 rfl rfl ?_
  refine G_getR (ci := 7) (j := 0) (N := 2) pX7_goesSoAs_9 fl_RX7_12 rfl ltk_53 shk_53 (by decide) rfl (hrf.lit 53 0 rfl) ?_
  refine G_iload_n (i := 2) pX7_goesSoAs_12 rfl rfl ?_
  obtain ⟨m2, em2⟩ : ∃ z : MMt, z = up2 m1 54 0 a2 := ⟨_, rfl⟩
  have h := h m2 em2
  refine G_putIW (ci := 1) (j := 0) (N := 5) pX7_goesSoAs_13 fw_RX7_55 rfl ltk_54 shk_54 (by decide) rfl (fun _ => ⟨rfl, rfl⟩) em2.symm ?_
  refine G_aload_n (i := 0) pX7_goesSoAs_16 rfl rfl ?_
  refine G_aload_n (i := 3) pX7_goesSoAs_17 rfl rfl ?_
  refine G_callV1i (b := 53) (ci := 7) (N := 2) pX7_goesSoAs_18 (g_X7_goesSo a3 ha3 hrf _ h) mV_X7_goesSo ml_RX7_51 (by decide) ⟨Nat.le_refl _, Nat.le_refl _, Nat.le_refl _⟩ (Nat.le_of_ble_eq_true rfl) ltk_53 shk_53 rfl ?_
  intro r4 rf m3 hrf h hr4
  exact G_ireturn (len := 1) pX7_goesSoAs_21 ⟨hrf, _, rfl, h⟩ hr4
def B_X9_whose_41 (x1 : Int32) (x2 : Int32) (x3 : Int32) (mem : MMt) (Q : Int32 → MMt → Prop) : Prop := LOOP (σ := Int32 × MMt) (fun X41 z => (fun (x3 : Int32) (mem : MMt) => (((7 : Int32) ≤ x3 → L_X9_error (2 : Int32) mem (fun r3 m2 => Q r3 m2)) ∧ (¬ (7 : Int32) ≤ x3 → (vp_in x1 8 ∧ (vp_in x2 4 ∧ L_X7_goesSoAs (1 + 2 + x1.toNatClampNeg) x3 (68 + 2 * x2.toNatClampNeg) mem (fun r7 m6 => ((r7 = 0 → (∀ v9 : Int32, v9 = x3 + (1 : Int32) → X41 (v9, m6))) ∧ (¬ r7 = 0 → Q x3 m6)))))))) z.1 z.2) (x3, mem)
set_option maxRecDepth 4000 in
theorem gB_X9_whose_41 {sx : Nat × (Nat → Int32)} {rf : RFt} {Q : Int32 → MMt → Prop} (hrf : RFok rf) (x1 : Int32) (x2 : Int32) (x3 : Int32) (mem : MMt) (h : B_X9_whose_41 x1 x2 x3 mem Q) : G sx yX9_whose cX9_whose 4 (some .int) 8 NX NX (QQi (RFok) Q) NX rf mem 41 [some (.ref 0), some (.int x1), some (.int x2), some (.int x3)] [] := by
  obtain ⟨I, ⟨n, h0⟩, hI⟩ := h
  have key : ∀ (n : Nat) (rf : RFt) (x3 : Int32) (mem : MMt), RFok rf → I n (x3, mem) → G sx yX9_whose cX9_whose 4 (some .int) 8 NX NX (QQi (RFok) Q) NX rf mem 41 [some (.ref 0), some (.int x1), some (.int x2), some (.int x3)] [] := by
    intro n
    induction n using Nat.strongRecOn with
    | _ n ih =>
    intro rf x3 mem hrf h0
    have hX41 : ∀ (rf : RFt) (x3 : Int32) (mem : MMt), RFok rf → (fun s' => ∃ m, m < n ∧ I m s') (x3, mem) → G sx yX9_whose cX9_whose 4 (some .int) 8 NX NX (QQi (RFok) Q) NX rf mem 41 [some (.ref 0), some (.int x1), some (.int x2), some (.int x3)] [] := fun rf x3 mem hrf ⟨m, hm, hi⟩ => ih m hm rf x3 mem hrf hi
    have h := hI n _ h0
    clear ih h0
    try dsimp only at h
    refine G_iload_n (i := 3) pX9_whose_41 rfl rfl ?_
    refine G_bipush pX9_whose_42 bi_7 ?_
    refine G_icmp_ge pX9_whose_44 (fun c1 => ?_) (fun c1 => ?_)
    · have h := h.1 c1
      refine G_aload_n (i := 0) pX9_whose_81 rfl rfl ?_
      refine G_iconst pX9_whose_82 ic_2 ?_
      refine G_callV1i (b := 0) (ci := 9) (N := 12) pX9_whose_83 (g_X9_error (2 : Int32) hrf _ h) mV_X9_error ml_RX9_80 (by decide) ⟨Nat.le_refl _, Nat.le_refl _, Nat.le_refl _⟩ (Nat.le_of_ble_eq_true rfl) ltk_0 shk_0 rfl ?_
      intro r3 rf m2 hrf h hr3
      exact G_ireturn (len := 1) pX9_whose_86 ⟨hrf, _, rfl, h⟩ ⟨_, rfl, rfl⟩
    · have h := h.2 c1
      refine G_aload_n (i := 0) pX9_whose_47 rfl rfl ?_
      refine G_getR (ci := 9) (j := 5) (N := 12) pX9_whose_48 fl_RX9_37 rfl ltk_0 shk_0 (by decide) rfl (hrf.lit 0 5 rfl) ?_
      refine G_aload_n (i := 0) pX9_whose_51 rfl rfl ?_
      refine G_getR (ci := 9) (j := 0) (N := 12) pX9_whose_52 fl_RX9_10 rfl ltk_0 shk_0 (by decide) rfl (hrf.lit 0 0 rfl) ?_
      refine G_getR (ci := 0) (j := 0) (N := 4) pX9_whose_55 fl_RX9_88 rfl ltk_1 shk_1 (by decide) rfl (hrf.lit 1 0 rfl) ?_
      refine G_iload_n (i := 1) pX9_whose_58 rfl rfl ?_
      obtain ⟨hi4, h⟩ := h
      refine G_aald pX9_whose_59 ltk_2 shk_2 (by decide) hi4 (gd_rf (IS_lit shk_1 ltk_1) hrf hi4) ?_
      refine G_iload_n (i := 3) pX9_whose_60 rfl rfl ?_
      refine G_aload_n (i := 0) pX9_whose_61 rfl rfl ?_
      refine G_getR (ci := 9) (j := 9) (N := 12) pX9_whose_62 fl_RX9_64 rfl ltk_0 shk_0 (by decide) rfl (hrf.lit 0 9 rfl) ?_
      refine G_iload_n (i := 2) pX9_whose_65 rfl rfl ?_
      obtain ⟨hi5, h⟩ := h
      refine G_aald pX9_whose_66 ltk_66 shk_66 (by decide) hi5 (st_rf hrf hi5) ?_
      refine G_callV3i (b := 53) (ci := 7) (N := 2) pX9_whose_67 (g_X7_goesSoAs (1 + 2 + x1.toNatClampNeg) x3 (68 + 2 * x2.toNatClampNeg) (gd_in (IS_lit shk_1 ltk_1) hi4) (st_in hi5) hrf _ h) mV_X7_goesSoAs ml_RX9_263 (by decide) ⟨Nat.le_refl _, Nat.le_refl _, Nat.le_refl _⟩ (Nat.le_of_ble_eq_true rfl) ltk_53 shk_53 rfl ?_
      intro r7 rf m6 hrf h hr7
      refine G_if_eq pX9_whose_70 (fun c8 => ?_) (fun c8 => ?_)
      · have h := h.1 c8
        obtain ⟨v9, e9⟩ : ∃ z : Int32, z = x3 + (1 : Int32) := ⟨_, rfl⟩
        have h := h v9 e9
        refine G_iincW (L' := [some (.ref 0), some (.int x1), some (.int x2), some (.int v9)]) pX9_whose_75 rfl ic_1 e9.symm rfl ?_
        refine G_goto pX9_whose_78 ?_
        exact hX41 _ _ _ hrf h
      · have h := h.2 c8
        refine G_iload_n (i := 3) pX9_whose_73 rfl rfl ?_
        exact G_ireturn (len := 1) pX9_whose_74 ⟨hrf, _, rfl, h⟩ ⟨_, rfl, rfl⟩
  exact key n rf _ _ hrf h0
def L_X9_whose (a1 : Int32) (a2 : Int32) (mem : MMt) (Q : Int32 → MMt → Prop) : Prop := L_X9_isGood a1 mem (fun r2 m1 => ((r2 = 0 → L_X9_error (1 : Int32) m1 (fun r5 m4 => Q r5 m4)) ∧ (¬ r2 = 0 → L_X9_isSheet a2 m1 (fun r7 m6 => ((¬ r7 = 0 → (vp_in a2 4 ∧ L_X6_isMissing (68 + 2 * a2.toNatClampNeg) m6 (fun r11 m10 => ((r11 = 0 → B_X9_whose_41 a1 a2 (0 : Int32) m10 Q) ∧ (¬ r11 = 0 → L_X9_error (2 : Int32) m10 (fun r14 m13 => Q r14 m13)))))) ∧ (r7 = 0 → L_X9_error (1 : Int32) m6 (fun r16 m15 => Q r16 m15)))))))
set_option maxRecDepth 4000 in
theorem g_X9_whose {sx : Nat × (Nat → Int32)} {rf : RFt} {Q : Int32 → MMt → Prop} (a1 : Int32) (a2 : Int32) (hrf : RFok rf) (mem : MMt) (h : L_X9_whose a1 a2 mem Q) : Ct sx yX9_whose cX9_whose 4 (some .int) 8 [.ref 0, .int a1, .int a2] NX NX rf mem (QQi (RFok) Q) := by
  refine Ct_of [some (.ref 0), some (.int a1), some (.int a2), none] (by decide +kernel) (by simp [Lof, Value.category]) rfl ?_
  unfold L_X9_whose at h
  refine G_aload_n (i := 0) pX9_whose_0 rfl rfl ?_
  refine G_iload_n (i := 1) pX9_whose_1 rfl rfl ?_
  refine G_callV1i (b := 0) (ci := 9) (N := 12) pX9_whose_2 (g_X9_isGood a1 hrf _ h) mV_X9_isGood ml_RX9_101 (by decide) ⟨Nat.le_refl _, Nat.le_refl _, Nat.le_refl _⟩ (Nat.le_of_ble_eq_true rfl) ltk_0 shk_0 rfl ?_
  intro r2 rf m1 hrf h hr2
  refine G_if_eq pX9_whose_5 (fun c3 => ?_) (fun c3 => ?_)
  · have h := h.1 c3
    refine G_aload_n (i := 0) pX9_whose_15 rfl rfl ?_
    refine G_iconst pX9_whose_16 ic_1 ?_
    refine G_callV1i (b := 0) (ci := 9) (N := 12) pX9_whose_17 (g_X9_error (1 : Int32) hrf _ h) mV_X9_error ml_RX9_80 (by decide) ⟨Nat.le_refl _, Nat.le_refl _, Nat.le_refl _⟩ (Nat.le_of_ble_eq_true rfl) ltk_0 shk_0 rfl ?_
    intro r5 rf m4 hrf h hr5
    exact G_ireturn (len := 1) pX9_whose_20 ⟨hrf, _, rfl, h⟩ ⟨_, rfl, rfl⟩
  · have h := h.2 c3
    refine G_iload_n (i := 2) pX9_whose_8 rfl rfl ?_
    refine G_callS1i pX9_whose_9 (g_X9_isSheet a2 hrf _ h) mS_X9_isSheet ml_RX9_252 (by decide) ⟨Nat.le_refl _, Nat.le_refl _, Nat.le_refl _⟩ (Nat.le_of_ble_eq_true rfl) ?_
    intro r7 rf m6 hrf h hr7
    refine G_if_ne pX9_whose_12 (fun c8 => ?_) (fun c8 => ?_)
    · have h := h.1 c8
      refine G_aload_n (i := 0) pX9_whose_21 rfl rfl ?_
      refine G_getR (ci := 9) (j := 9) (N := 12) pX9_whose_22 fl_RX9_64 rfl ltk_0 shk_0 (by decide) rfl (hrf.lit 0 9 rfl) ?_
      refine G_iload_n (i := 2) pX9_whose_25 rfl rfl ?_
      obtain ⟨hi9, h⟩ := h
      refine G_aald pX9_whose_26 ltk_66 shk_66 (by decide) hi9 (st_rf hrf hi9) ?_
      refine G_callV0i (b := 68 + 2 * a2.toNatClampNeg) (ci := 6) (N := 3) pX9_whose_27 (g_X6_isMissing (68 + 2 * a2.toNatClampNeg) (st_in hi9) hrf _ h) mV_X6_isMissing ml_RX9_255 (by decide) ⟨Nat.le_refl _, Nat.le_refl _, Nat.le_refl _⟩ (Nat.le_of_ble_eq_true rfl) (st_in hi9).2 (st_in hi9).sh6 rfl ?_
      intro r11 rf m10 hrf h hr11
      refine G_if_eq pX9_whose_30 (fun c12 => ?_) (fun c12 => ?_)
      · have h := h.1 c12
        refine G_iconst pX9_whose_39 ic_0 ?_
        refine G_istore_n (i := 3) (L' := [some (.ref 0), some (.int a1), some (.int a2), some (.int (0 : Int32))]) pX9_whose_40 rfl rfl ?_
        exact gB_X9_whose_41 hrf a1 a2 (0 : Int32) _ h
      · have h := h.2 c12
        refine G_aload_n (i := 0) pX9_whose_33 rfl rfl ?_
        refine G_iconst pX9_whose_34 ic_2 ?_
        refine G_callV1i (b := 0) (ci := 9) (N := 12) pX9_whose_35 (g_X9_error (2 : Int32) hrf _ h) mV_X9_error ml_RX9_80 (by decide) ⟨Nat.le_refl _, Nat.le_refl _, Nat.le_refl _⟩ (Nat.le_of_ble_eq_true rfl) ltk_0 shk_0 rfl ?_
        intro r14 rf m13 hrf h hr14
        exact G_ireturn (len := 1) pX9_whose_38 ⟨hrf, _, rfl, h⟩ ⟨_, rfl, rfl⟩
    · have h := h.2 c8
      refine G_aload_n (i := 0) pX9_whose_15 rfl rfl ?_
      refine G_iconst pX9_whose_16 ic_1 ?_
      refine G_callV1i (b := 0) (ci := 9) (N := 12) pX9_whose_17 (g_X9_error (1 : Int32) hrf _ h) mV_X9_error ml_RX9_80 (by decide) ⟨Nat.le_refl _, Nat.le_refl _, Nat.le_refl _⟩ (Nat.le_of_ble_eq_true rfl) ltk_0 shk_0 rfl ?_
      intro r16 rf m15 hrf h hr16
      exact G_ireturn (len := 1) pX9_whose_20 ⟨hrf, _, rfl, h⟩ ⟨_, rfl, rfl⟩
def B_X7_goThroughQuakes_34 (X5 : Int32 × Int32 × MMt → Prop) (x2 : Int32) (x3 : Int32) (x4 : Int32) (mem : MMt) (Q : MMt → Prop) : Prop := L_X7_goesOn mem (fun r2 m1 => ((¬ r2 = 0 → (∀ v4 : Int32, v4 = x4 + (1 : Int32) → X5 (x3, v4, m1))) ∧ (r2 = 0 → ((x4 < x2 → (∀ v6 : Int32, v6 = x4 + (1 : Int32) → X5 (x3, v6, m1))) ∧ (¬ x4 < x2 → Q m1)))))
set_option maxRecDepth 4000 in
theorem gB_X7_goThroughQuakes_34 {sx : Nat × (Nat → Int32)} {X5 : Int32 × Int32 × MMt → Prop} {rf : RFt} {Q : MMt → Prop} (hrf : RFok rf) (x2 : Int32) (x3 : Int32) (x4 : Int32) (hX5 : ∀ (rf : RFt) (x3 : Int32) (x4 : Int32) (mem : MMt), RFok rf → X5 (x3, x4, mem) → G sx yX7_goThroughQuakes cX7_goThroughQuakes 5 none 6 NX NX (QQv (RFok) Q) NX rf mem 5 [some (.ref 53), none, some (.int x2), some (.int x3), some (.int x4)] []) (mem : MMt) (h : B_X7_goThroughQuakes_34 X5 x2 x3 x4 mem Q) : G sx yX7_goThroughQuakes cX7_goThroughQuakes 5 none 6 NX NX (QQv (RFok) Q) NX rf mem 34 [some (.ref 53), none, some (.int x2), some (.int x3), some (.int x4)] [] := by
  unfold B_X7_goThroughQuakes_34 at h
  refine G_aload_n (i := 0) pX7_goThroughQuakes_34 rfl rfl ?_
  refine G_callV0i (b := 53) (ci := 7) (N := 2) pX7_goThroughQuakes_35 (g_X7_goesOn hrf _ h) mV_X7_goesOn ml_RX7_36 (by decide) ⟨Nat.le_refl _, Nat.le_refl _, Nat.le_refl _⟩ (Nat.le_of_ble_eq_true rfl) ltk_53 shk_53 rfl ?_
  intro r2 rf m1 hrf h hr2
  refine G_if_ne pX7_goThroughQuakes_38 (fun c3 => ?_) (fun c3 => ?_)
  · have h := h.1 c3
    obtain ⟨v4, e4⟩ : ∃ z : Int32, z = x4 + (1 : Int32) := ⟨_, rfl⟩
    have h := h v4 e4
    refine G_iincW (L' := [some (.ref 53), none, some (.int x2), some (.int x3), some (.int v4)]) pX7_goThroughQuakes_50 rfl ic_1 e4.symm rfl ?_
    refine G_goto pX7_goThroughQuakes_53 ?_
    exact hX5 _ _ _ _ hrf h
  · have h := h.2 c3
    refine G_iload (i := 4) pX7_goThroughQuakes_41 rfl ?_
    refine G_iload_n (i := 2) pX7_goThroughQuakes_43 rfl rfl ?_
    refine G_icmp_lt pX7_goThroughQuakes_44 (fun c5 => ?_) (fun c5 => ?_)
    · have h := h.1 c5
      obtain ⟨v6, e6⟩ : ∃ z : Int32, z = x4 + (1 : Int32) := ⟨_, rfl⟩
      have h := h v6 e6
      refine G_iincW (L' := [some (.ref 53), none, some (.int x2), some (.int x3), some (.int v6)]) pX7_goThroughQuakes_50 rfl ic_1 e6.symm rfl ?_
      refine G_goto pX7_goThroughQuakes_53 ?_
      exact hX5 _ _ _ _ hrf h
    · have h := h.2 c5
      refine G_goto pX7_goThroughQuakes_47 ?_
      exact G_return (len := 1) pX7_goThroughQuakes_56 ⟨hrf, rfl, h⟩ rfl
def B_X7_goThroughQuakes_5 (x2 : Int32) (x3 : Int32) (x4 : Int32) (mem : MMt) (Q : MMt → Prop) : Prop := LOOP (σ := Int32 × Int32 × MMt) (fun X5 z => (fun (x3 : Int32) (x4 : Int32) (mem : MMt) => (((50 : Int32) ≤ x4 → Q mem) ∧ (¬ (50 : Int32) ≤ x4 → ((x2 ≤ x4 → B_X7_goThroughQuakes_34 X5 x2 x3 x4 mem Q) ∧ (¬ x2 ≤ x4 → L_X1_shove 54 ((x3 - x3 / (3 : Int32) * (3 : Int32)) - (1 : Int32)) mem (fun m3 => (∀ v4 : Int32, v4 = x3 / (3 : Int32) → B_X7_goThroughQuakes_34 X5 x2 v4 x4 m3 Q))))))) z.1 z.2.1 z.2.2) (x3, x4, mem)
set_option maxRecDepth 4000 in
theorem gB_X7_goThroughQuakes_5 {sx : Nat × (Nat → Int32)} {rf : RFt} {Q : MMt → Prop} (hrf : RFok rf) (x2 : Int32) (x3 : Int32) (x4 : Int32) (mem : MMt) (h : B_X7_goThroughQuakes_5 x2 x3 x4 mem Q) : G sx yX7_goThroughQuakes cX7_goThroughQuakes 5 none 6 NX NX (QQv (RFok) Q) NX rf mem 5 [some (.ref 53), none, some (.int x2), some (.int x3), some (.int x4)] [] := by
  obtain ⟨I, ⟨n, h0⟩, hI⟩ := h
  have key : ∀ (n : Nat) (rf : RFt) (x3 : Int32) (x4 : Int32) (mem : MMt), RFok rf → I n (x3, x4, mem) → G sx yX7_goThroughQuakes cX7_goThroughQuakes 5 none 6 NX NX (QQv (RFok) Q) NX rf mem 5 [some (.ref 53), none, some (.int x2), some (.int x3), some (.int x4)] [] := by
    intro n
    induction n using Nat.strongRecOn with
    | _ n ih =>
    intro rf x3 x4 mem hrf h0
    have hX5 : ∀ (rf : RFt) (x3 : Int32) (x4 : Int32) (mem : MMt), RFok rf → (fun s' => ∃ m, m < n ∧ I m s') (x3, x4, mem) → G sx yX7_goThroughQuakes cX7_goThroughQuakes 5 none 6 NX NX (QQv (RFok) Q) NX rf mem 5 [some (.ref 53), none, some (.int x2), some (.int x3), some (.int x4)] [] := fun rf x3 x4 mem hrf ⟨m, hm, hi⟩ => ih m hm rf x3 x4 mem hrf hi
    have h := hI n _ h0
    clear ih h0
    try dsimp only at h
    refine G_iload (i := 4) pX7_goThroughQuakes_5 rfl ?_
    refine G_bipush pX7_goThroughQuakes_7 bi_50 ?_
    refine G_icmp_ge pX7_goThroughQuakes_9 (fun c1 => ?_) (fun c1 => ?_)
    · have h := h.1 c1
      exact G_return (len := 1) pX7_goThroughQuakes_56 ⟨hrf, rfl, h⟩ rfl
    · have h := h.2 c1
      refine G_iload (i := 4) pX7_goThroughQuakes_12 rfl ?_
      refine G_iload_n (i := 2) pX7_goThroughQuakes_14 rfl rfl ?_
      refine G_icmp_ge pX7_goThroughQuakes_15 (fun c2 => ?_) (fun c2 => ?_)
      · have h := h.1 c2
        exact gB_X7_goThroughQuakes_34 hrf x2 x3 x4 hX5 _ h
      · have h := h.2 c2
        refine G_aload_n (i := 0) pX7_goThroughQuakes_18 rfl rfl ?_
        refine G_getR (ci := 7) (j := 0) (N := 2) pX7_goThroughQuakes_19 fl_RX7_12 rfl ltk_53 shk_53 (by decide) rfl (hrf.lit 53 0 rfl) ?_
        refine G_iload_n (i := 3) pX7_goThroughQuakes_22 rfl rfl ?_
        refine G_iconst pX7_goThroughQuakes_23 ic_3 ?_
        refine G_irem pX7_goThroughQuakes_24 (by decide) ?_
        refine G_iconst pX7_goThroughQuakes_25 ic_1 ?_
        refine G_isub pX7_goThroughQuakes_26 ?_
        refine G_callV1v (b := 54) (ci := 1) (N := 5) pX7_goThroughQuakes_27 (g_X1_shove 54 ((x3 - x3 / (3 : Int32) * (3 : Int32)) - (1 : Int32)) (IS_lit shk_54 ltk_54) hrf _ h) mV_X1_shove ml_RX7_40 (by decide) ⟨Nat.le_refl _, Nat.le_refl _, Nat.le_refl _⟩ (Nat.le_of_ble_eq_true rfl) ltk_54 shk_54 rfl ?_
        intro rf m3 hrf h
        refine G_iload_n (i := 3) pX7_goThroughQuakes_30 rfl rfl ?_
        refine G_iconst pX7_goThroughQuakes_31 ic_3 ?_
        refine G_idiv pX7_goThroughQuakes_32 (by decide) ?_
        obtain ⟨v4, e4⟩ : ∃ z : Int32, z = x3 / (3 : Int32) := ⟨_, rfl⟩
        have h := h v4 e4
        refine G_istore_nW (L' := [some (.ref 53), none, some (.int x2), some (.int v4), some (.int x4)]) pX7_goThroughQuakes_33 rfl e4.symm rfl ?_
        exact gB_X7_goThroughQuakes_34 hrf x2 v4 x4 hX5 _ h
  exact key n rf _ _ _ hrf h0
def L_X7_goThroughQuakes (a1 : Int32) (a2 : Int32) (mem : MMt) (Q : MMt → Prop) : Prop := B_X7_goThroughQuakes_5 a2 a1 (0 : Int32) mem Q
set_option maxRecDepth 4000 in
theorem g_X7_goThroughQuakes {sx : Nat × (Nat → Int32)} {rf : RFt} {Q : MMt → Prop} (a1 : Int32) (a2 : Int32) (hrf : RFok rf) (mem : MMt) (h : L_X7_goThroughQuakes a1 a2 mem Q) : Ct sx yX7_goThroughQuakes cX7_goThroughQuakes 5 none 6 [.ref 53, .int a1, .int a2] NX NX rf mem (QQv (RFok) Q) := by
  refine Ct_of [some (.ref 53), some (.int a1), some (.int a2), none, none] (by decide +kernel) (by simp [Lof, Value.category]) rfl ?_
  unfold L_X7_goThroughQuakes at h
  refine G_iload_n (i := 1) pX7_goThroughQuakes_0 rfl rfl ?_
  refine G_istore_n (i := 3) (L' := [some (.ref 53), some (.int a1), some (.int a2), some (.int a1), none]) pX7_goThroughQuakes_1 rfl rfl ?_
  refine G_iconst pX7_goThroughQuakes_2 ic_0 ?_
  refine G_istore (i := 4) (L' := [some (.ref 53), some (.int a1), some (.int a2), some (.int a1), some (.int (0 : Int32))]) pX7_goThroughQuakes_3 rfl ?_
  refine G_wk (L2 := [some (.ref 53), none, some (.int a2), some (.int a1), some (.int (0 : Int32))]) ⟨Or.inr rfl, Or.inl rfl, Or.inr rfl, Or.inr rfl, Or.inr rfl, trivial⟩ ?_
  exact gB_X7_goThroughQuakes_5 hrf a2 a1 (0 : Int32) _ h
def B_X7_landings_49 (a1 : Nat) (X6 : Int32 × Int32 × MMt → Prop) (x1 : Nat) (x2 : Int32) (x3 : Int32) (x4 : Int32) (x6 : Int32) (s0 : Int32) (s1 : Int32) (mem : MMt) (Q : Int32 → MMt → Prop) : Prop := (∀ v1 : Int32, v1 = s1 + s0 → (∀ v2 : Int32, v2 = x6 + (1 : Int32) → X6 (v1, v2, mem)))
set_option maxRecDepth 4000 in
theorem gB_X7_landings_49 {sx : Nat × (Nat → Int32)} {X6 : Int32 × Int32 × MMt → Prop} {rf : RFt} {Q : Int32 → MMt → Prop} (a1 : Nat) (ha1 : IS 1 a1) (hrf : RFok rf) (x1 : Nat) (x2 : Int32) (x3 : Int32) (x4 : Int32) (x6 : Int32) (s0 : Int32) (s1 : Int32) (hx1 : IS 1 x1) (hX6 : ∀ (rf : RFt) (x5 : Int32) (x6 : Int32) (mem : MMt), RFok rf → X6 (x5, x6, mem) → G sx yX7_landings cX7_landings 7 (some .int) 7 NX NX (QQi (RFok) Q) NX rf mem 6 [some (.ref 53), some (.ref x1), some (.int x2), some (.int x3), some (.int x4), some (.int x5), some (.int x6)] []) (mem : MMt) (h : B_X7_landings_49 a1 X6 x1 x2 x3 x4 x6 s0 s1 mem Q) : G sx yX7_landings cX7_landings 7 (some .int) 7 NX NX (QQi (RFok) Q) NX rf mem 49 [some (.ref 53), some (.ref x1), some (.int x2), some (.int x3), some (.int x4), none, some (.int x6)] [.int s0, .int s1] := by
  unfold B_X7_landings_49 at h
  refine G_iadd pX7_landings_49 ?_
  obtain ⟨v1, e1⟩ : ∃ z : Int32, z = s1 + s0 := ⟨_, rfl⟩
  have h := h v1 e1
  refine G_istoreW (L' := [some (.ref 53), some (.ref x1), some (.int x2), some (.int x3), some (.int x4), some (.int v1), some (.int x6)]) pX7_landings_50 e1.symm rfl ?_
  obtain ⟨v2, e2⟩ : ∃ z : Int32, z = x6 + (1 : Int32) := ⟨_, rfl⟩
  have h := h v2 e2
  refine G_iincW (L' := [some (.ref 53), some (.ref x1), some (.int x2), some (.int x3), some (.int x4), some (.int v1), some (.int v2)]) pX7_landings_52 rfl ic_1 e2.symm rfl ?_
  refine G_goto pX7_landings_55 ?_
  exact hX6 _ _ _ _ hrf h
def B_X7_landings_6 (a1 : Nat) (x1 : Nat) (x2 : Int32) (x3 : Int32) (x4 : Int32) (x5 : Int32) (x6 : Int32) (mem : MMt) (Q : Int32 → MMt → Prop) : Prop := LOOP (σ := Int32 × Int32 × MMt) (fun X6 z => (fun (x5 : Int32) (x6 : Int32) (mem : MMt) => ((x4 ≤ x6 → Q x5 mem) ∧ (¬ x4 ≤ x6 → L_X1_copyFrom 54 x1 mem (fun m2 => L_X7_goThroughQuakes x6 x3 m2 (fun m3 => ((¬ (m3 54 2) = (x2 * (40 : Int32)) → B_X7_landings_49 a1 X6 x1 x2 x3 x4 x6 (0 : Int32) x5 m3 Q) ∧ ((m3 54 2) = (x2 * (40 : Int32)) → B_X7_landings_49 a1 X6 x1 x2 x3 x4 x6 (1 : Int32) x5 m3 Q))))))) z.1 z.2.1 z.2.2) (x5, x6, mem)
set_option maxRecDepth 4000 in
theorem gB_X7_landings_6 {sx : Nat × (Nat → Int32)} {rf : RFt} {Q : Int32 → MMt → Prop} (a1 : Nat) (ha1 : IS 1 a1) (hrf : RFok rf) (x1 : Nat) (x2 : Int32) (x3 : Int32) (x4 : Int32) (x5 : Int32) (x6 : Int32) (hx1 : IS 1 x1) (mem : MMt) (h : B_X7_landings_6 a1 x1 x2 x3 x4 x5 x6 mem Q) : G sx yX7_landings cX7_landings 7 (some .int) 7 NX NX (QQi (RFok) Q) NX rf mem 6 [some (.ref 53), some (.ref x1), some (.int x2), some (.int x3), some (.int x4), some (.int x5), some (.int x6)] [] := by
  obtain ⟨I, ⟨n, h0⟩, hI⟩ := h
  have key : ∀ (n : Nat) (rf : RFt) (x5 : Int32) (x6 : Int32) (mem : MMt), RFok rf → I n (x5, x6, mem) → G sx yX7_landings cX7_landings 7 (some .int) 7 NX NX (QQi (RFok) Q) NX rf mem 6 [some (.ref 53), some (.ref x1), some (.int x2), some (.int x3), some (.int x4), some (.int x5), some (.int x6)] [] := by
    intro n
    induction n using Nat.strongRecOn with
    | _ n ih =>
    intro rf x5 x6 mem hrf h0
    have hX6 : ∀ (rf : RFt) (x5 : Int32) (x6 : Int32) (mem : MMt), RFok rf → (fun s' => ∃ m, m < n ∧ I m s') (x5, x6, mem) → G sx yX7_landings cX7_landings 7 (some .int) 7 NX NX (QQi (RFok) Q) NX rf mem 6 [some (.ref 53), some (.ref x1), some (.int x2), some (.int x3), some (.int x4), some (.int x5), some (.int x6)] [] := fun rf x5 x6 mem hrf ⟨m, hm, hi⟩ => ih m hm rf x5 x6 mem hrf hi
    have h := hI n _ h0
    clear ih h0
    try dsimp only at h
    refine G_iload (i := 6) pX7_landings_6 rfl ?_
    refine G_iload (i := 4) pX7_landings_8 rfl ?_
    refine G_icmp_ge pX7_landings_10 (fun c1 => ?_) (fun c1 => ?_)
    · have h := h.1 c1
      refine G_iload (i := 5) pX7_landings_58 rfl ?_
      exact G_ireturn (len := 1) pX7_landings_60 ⟨hrf, _, rfl, h⟩ ⟨_, rfl, rfl⟩
    · have h := h.2 c1
      refine G_aload_n (i := 0) pX7_landings_13 rfl rfl ?_
      refine G_getR (ci := 7) (j := 0) (N := 2) pX7_landings_14 fl_RX7_12 rfl ltk_53 shk_53 (by decide) rfl (hrf.lit 53 0 rfl) ?_
      refine G_aload_n (i := 1) pX7_landings_17 rfl rfl ?_
      refine G_callV1v (b := 54) (ci := 1) (N := 5) pX7_landings_18 (g_X1_copyFrom 54 x1 (IS_lit shk_54 ltk_54) hx1 hrf _ h) mV_X1_copyFrom ml_RX7_32 (by decide) ⟨Nat.le_refl _, Nat.le_refl _, Nat.le_refl _⟩ (Nat.le_of_ble_eq_true rfl) ltk_54 shk_54 rfl ?_
      intro rf m2 hrf h
      refine G_aload_n (i := 0) pX7_landings_21 rfl rfl ?_
      refine G_iload (i := 6) pX7_landings_22 rfl ?_
      refine G_iload_n (i := 3) pX7_landings_24 rfl rfl ?_
      refine G_callV2v (b := 53) (ci := 7) (N := 2) pX7_landings_25 (g_X7_goThroughQuakes x6 x3 hrf _ h) mV_X7_goThroughQuakes ml_RX7_67 (by decide) ⟨Nat.le_refl _, Nat.le_refl _, Nat.le_refl _⟩ (Nat.le_of_ble_eq_true rfl) ltk_53 shk_53 rfl ?_
      intro rf m3 hrf h
      refine G_iload (i := 5) pX7_landings_28 rfl ?_
      refine G_aload_n (i := 0) pX7_landings_30 rfl rfl ?_
      refine G_getR (ci := 7) (j := 0) (N := 2) pX7_landings_31 fl_RX7_12 rfl ltk_53 shk_53 (by decide) rfl (hrf.lit 53 0 rfl) ?_
      refine G_getI (ci := 1) (j := 2) (N := 5) pX7_landings_34 fl_RX7_44 rfl ltk_54 shk_54 (by decide) rfl ?_
      refine G_iload_n (i := 2) pX7_landings_37 rfl rfl ?_
      refine G_bipush pX7_landings_38 bi_40 ?_
      refine G_imul pX7_landings_40 ?_
      refine G_icmp_ne pX7_landings_41 (fun c4 => ?_) (fun c4 => ?_)
      · have h := h.1 c4
        refine G_iconst pX7_landings_48 ic_0 ?_
        refine G_wk (L2 := [some (.ref 53), some (.ref x1), some (.int x2), some (.int x3), some (.int x4), none, some (.int x6)]) ⟨Or.inr rfl, Or.inr rfl, Or.inr rfl, Or.inr rfl, Or.inr rfl, Or.inl rfl, Or.inr rfl, trivial⟩ ?_
        exact gB_X7_landings_49 a1 ha1 hrf x1 x2 x3 x4 x6 (0 : Int32) x5 hx1 hX6 _ h
      · have h := h.2 c4
        refine G_iconst pX7_landings_44 ic_1 ?_
        refine G_goto pX7_landings_45 ?_
        refine G_wk (L2 := [some (.ref 53), some (.ref x1), some (.int x2), some (.int x3), some (.int x4), none, some (.int x6)]) ⟨Or.inr rfl, Or.inr rfl, Or.inr rfl, Or.inr rfl, Or.inr rfl, Or.inl rfl, Or.inr rfl, trivial⟩ ?_
        exact gB_X7_landings_49 a1 ha1 hrf x1 x2 x3 x4 x6 (1 : Int32) x5 hx1 hX6 _ h
  exact key n rf _ _ _ hrf h0
def L_X7_landings (a1 : Nat) (a2 : Int32) (a3 : Int32) (a4 : Int32) (mem : MMt) (Q : Int32 → MMt → Prop) : Prop := B_X7_landings_6 a1 a1 a2 a3 a4 (0 : Int32) (0 : Int32) mem Q
set_option maxRecDepth 4000 in
theorem g_X7_landings {sx : Nat × (Nat → Int32)} {rf : RFt} {Q : Int32 → MMt → Prop} (a1 : Nat) (a2 : Int32) (a3 : Int32) (a4 : Int32) (ha1 : IS 1 a1) (hrf : RFok rf) (mem : MMt) (h : L_X7_landings a1 a2 a3 a4 mem Q) : Ct sx yX7_landings cX7_landings 7 (some .int) 7 [.ref 53, .ref a1, .int a2, .int a3, .int a4] NX NX rf mem (QQi (RFok) Q) := by
  refine Ct_of [some (.ref 53), some (.ref a1), some (.int a2), some (.int a3), some (.int a4), none, none] (by decide +kernel) (by simp [Lof, Value.category]) rfl ?_
  unfold L_X7_landings at h
  refine G_iconst pX7_landings_0 ic_0 ?_
  refine G_istore (i := 5) (L' := [some (.ref 53), some (.ref a1), some (.int a2), some (.int a3), some (.int a4), some (.int (0 : Int32)), none]) pX7_landings_1 rfl ?_
  refine G_iconst pX7_landings_3 ic_0 ?_
  refine G_istore (i := 6) (L' := [some (.ref 53), some (.ref a1), some (.int a2), some (.int a3), some (.int a4), some (.int (0 : Int32)), some (.int (0 : Int32))]) pX7_landings_4 rfl ?_
  exact gB_X7_landings_6 a1 ha1 hrf a1 a2 a3 a4 (0 : Int32) (0 : Int32) ha1 _ h
def B_X9_odds_120 (x4 : Int32) (x5 : Int32) (x6 : Int32) (mem : MMt) (Q : Int32 → MMt → Prop) : Prop := ((¬ x4 = 0 → Q x5 mem) ∧ (x4 = 0 → Q x6 mem))
set_option maxRecDepth 4000 in
theorem gB_X9_odds_120 {sx : Nat × (Nat → Int32)} {rf : RFt} {Q : Int32 → MMt → Prop} (hrf : RFok rf) (x4 : Int32) (x5 : Int32) (x6 : Int32) (mem : MMt) (h : B_X9_odds_120 x4 x5 x6 mem Q) : G sx yX9_odds cX9_odds 8 (some .int) 8 NX NX (QQi (RFok) Q) NX rf mem 120 [none, none, none, none, some (.int x4), some (.int x5), some (.int x6), none] [] := by
  unfold B_X9_odds_120 at h
  refine G_iload (i := 4) pX9_odds_120 rfl ?_
  refine G_if_ne pX9_odds_122 (fun c1 => ?_) (fun c1 => ?_)
  · have h := h.1 c1
    refine G_iload (i := 5) pX9_odds_130 rfl ?_
    exact G_ireturn (len := 1) pX9_odds_132 ⟨hrf, _, rfl, h⟩ ⟨_, rfl, rfl⟩
  · have h := h.2 c1
    refine G_iload (i := 6) pX9_odds_125 rfl ?_
    refine G_goto pX9_odds_127 ?_
    exact G_ireturn (len := 1) pX9_odds_132 ⟨hrf, _, rfl, h⟩ ⟨_, rfl, rfl⟩
def B_X9_odds_89 (x3 : Int32) (x4 : Int32) (x5 : Int32) (x6 : Int32) (x7 : Int32) (mem : MMt) (Q : Int32 → MMt → Prop) : Prop := LOOP (σ := Int32 × Int32 × Int32 × MMt) (fun X89 z => (fun (x5 : Int32) (x6 : Int32) (x7 : Int32) (mem : MMt) => ((x3 ≤ x7 → B_X9_odds_120 x4 x5 x6 mem Q) ∧ (¬ x3 ≤ x7 → ((¬ (x6 - x6 / (3 : Int32) * (3 : Int32)) = 0 → B_X9_odds_120 x4 x5 x6 mem Q) ∧ ((x6 - x6 / (3 : Int32) * (3 : Int32)) = 0 → (∀ v3 : Int32, v3 = x6 / (3 : Int32) → (∀ v4 : Int32, v4 = x5 / (3 : Int32) → (∀ v5 : Int32, v5 = x7 + (1 : Int32) → X89 (v4, v3, v5, mem))))))))) z.1 z.2.1 z.2.2.1 z.2.2.2) (x5, x6, x7, mem)
set_option maxRecDepth 4000 in
theorem gB_X9_odds_89 {sx : Nat × (Nat → Int32)} {rf : RFt} {Q : Int32 → MMt → Prop} (hrf : RFok rf) (x3 : Int32) (x4 : Int32) (x5 : Int32) (x6 : Int32) (x7 : Int32) (mem : MMt) (h : B_X9_odds_89 x3 x4 x5 x6 x7 mem Q) : G sx yX9_odds cX9_odds 8 (some .int) 8 NX NX (QQi (RFok) Q) NX rf mem 89 [none, none, none, some (.int x3), some (.int x4), some (.int x5), some (.int x6), some (.int x7)] [] := by
  obtain ⟨I, ⟨n, h0⟩, hI⟩ := h
  have key : ∀ (n : Nat) (rf : RFt) (x5 : Int32) (x6 : Int32) (x7 : Int32) (mem : MMt), RFok rf → I n (x5, x6, x7, mem) → G sx yX9_odds cX9_odds 8 (some .int) 8 NX NX (QQi (RFok) Q) NX rf mem 89 [none, none, none, some (.int x3), some (.int x4), some (.int x5), some (.int x6), some (.int x7)] [] := by
    intro n
    induction n using Nat.strongRecOn with
    | _ n ih =>
    intro rf x5 x6 x7 mem hrf h0
    have hX89 : ∀ (rf : RFt) (x5 : Int32) (x6 : Int32) (x7 : Int32) (mem : MMt), RFok rf → (fun s' => ∃ m, m < n ∧ I m s') (x5, x6, x7, mem) → G sx yX9_odds cX9_odds 8 (some .int) 8 NX NX (QQi (RFok) Q) NX rf mem 89 [none, none, none, some (.int x3), some (.int x4), some (.int x5), some (.int x6), some (.int x7)] [] := fun rf x5 x6 x7 mem hrf ⟨m, hm, hi⟩ => ih m hm rf x5 x6 x7 mem hrf hi
    have h := hI n _ h0
    clear ih h0
    try dsimp only at h
    refine G_iload (i := 7) pX9_odds_89 rfl ?_
    refine G_iload_n (i := 3) pX9_odds_91 rfl rfl ?_
    refine G_icmp_ge pX9_odds_92 (fun c1 => ?_) (fun c1 => ?_)
    · have h := h.1 c1
      refine G_wk (L2 := [none, none, none, none, some (.int x4), some (.int x5), some (.int x6), none]) ⟨Or.inr rfl, Or.inr rfl, Or.inr rfl, Or.inl rfl, Or.inr rfl, Or.inr rfl, Or.inr rfl, Or.inl rfl, trivial⟩ ?_
      exact gB_X9_odds_120 hrf x4 x5 x6 _ h
    · have h := h.2 c1
      refine G_iload (i := 6) pX9_odds_95 rfl ?_
      refine G_iconst pX9_odds_97 ic_3 ?_
      refine G_irem pX9_odds_98 (by decide) ?_
      refine G_if_ne pX9_odds_99 (fun c2 => ?_) (fun c2 => ?_)
      · have h := h.1 c2
        refine G_wk (L2 := [none, none, none, none, some (.int x4), some (.int x5), some (.int x6), none]) ⟨Or.inr rfl, Or.inr rfl, Or.inr rfl, Or.inl rfl, Or.inr rfl, Or.inr rfl, Or.inr rfl, Or.inl rfl, trivial⟩ ?_
        exact gB_X9_odds_120 hrf x4 x5 x6 _ h
      · have h := h.2 c2
        refine G_iload (i := 6) pX9_odds_102 rfl ?_
        refine G_iconst pX9_odds_104 ic_3 ?_
        refine G_idiv pX9_odds_105 (by decide) ?_
        obtain ⟨v3, e3⟩ : ∃ z : Int32, z = x6 / (3 : Int32) := ⟨_, rfl⟩
        have h := h v3 e3
        refine G_istoreW (L' := [none, none, none, some (.int x3), some (.int x4), some (.int x5), some (.int v3), some (.int x7)]) pX9_odds_106 e3.symm rfl ?_
        refine G_iload (i := 5) pX9_odds_108 rfl ?_
        refine G_iconst pX9_odds_110 ic_3 ?_
        refine G_idiv pX9_odds_111 (by decide) ?_
        obtain ⟨v4, e4⟩ : ∃ z : Int32, z = x5 / (3 : Int32) := ⟨_, rfl⟩
        have h := h v4 e4
        refine G_istoreW (L' := [none, none, none, some (.int x3), some (.int x4), some (.int v4), some (.int v3), some (.int x7)]) pX9_odds_112 e4.symm rfl ?_
        obtain ⟨v5, e5⟩ : ∃ z : Int32, z = x7 + (1 : Int32) := ⟨_, rfl⟩
        have h := h v5 e5
        refine G_iincW (L' := [none, none, none, some (.int x3), some (.int x4), some (.int v4), some (.int v3), some (.int v5)]) pX9_odds_114 rfl ic_1 e5.symm rfl ?_
        refine G_goto pX9_odds_117 ?_
        exact hX89 _ _ _ _ _ hrf h
  exact key n rf _ _ _ _ hrf h0
def B_X9_odds_46 (x1 : Int32) (x2 : Int32) (x3 : Int32) (x4 : Int32) (x5 : Int32) (x6 : Int32) (mem : MMt) (Q : Int32 → MMt → Prop) : Prop := LOOP (σ := Int32 × Int32 × MMt) (fun X46 z => (fun (x5 : Int32) (x6 : Int32) (mem : MMt) => ((x3 ≤ x6 → (vp_in x1 8 ∧ L_X7_landings (1 + 2 + x1.toNatClampNeg) x2 x3 x5 mem (fun r4 m3 => B_X9_odds_89 x3 x4 x5 r4 (0 : Int32) m3 Q))) ∧ (¬ x3 ≤ x6 → (∀ v5 : Int32, v5 = x5 * (3 : Int32) → (∀ v6 : Int32, v6 = x6 + (1 : Int32) → X46 (v5, v6, mem)))))) z.1 z.2.1 z.2.2) (x5, x6, mem)
set_option maxRecDepth 4000 in
theorem gB_X9_odds_46 {sx : Nat × (Nat → Int32)} {rf : RFt} {Q : Int32 → MMt → Prop} (hrf : RFok rf) (x1 : Int32) (x2 : Int32) (x3 : Int32) (x4 : Int32) (x5 : Int32) (x6 : Int32) (mem : MMt) (h : B_X9_odds_46 x1 x2 x3 x4 x5 x6 mem Q) : G sx yX9_odds cX9_odds 8 (some .int) 8 NX NX (QQi (RFok) Q) NX rf mem 46 [some (.ref 0), some (.int x1), some (.int x2), some (.int x3), some (.int x4), some (.int x5), some (.int x6), none] [] := by
  obtain ⟨I, ⟨n, h0⟩, hI⟩ := h
  have key : ∀ (n : Nat) (rf : RFt) (x5 : Int32) (x6 : Int32) (mem : MMt), RFok rf → I n (x5, x6, mem) → G sx yX9_odds cX9_odds 8 (some .int) 8 NX NX (QQi (RFok) Q) NX rf mem 46 [some (.ref 0), some (.int x1), some (.int x2), some (.int x3), some (.int x4), some (.int x5), some (.int x6), none] [] := by
    intro n
    induction n using Nat.strongRecOn with
    | _ n ih =>
    intro rf x5 x6 mem hrf h0
    have hX46 : ∀ (rf : RFt) (x5 : Int32) (x6 : Int32) (mem : MMt), RFok rf → (fun s' => ∃ m, m < n ∧ I m s') (x5, x6, mem) → G sx yX9_odds cX9_odds 8 (some .int) 8 NX NX (QQi (RFok) Q) NX rf mem 46 [some (.ref 0), some (.int x1), some (.int x2), some (.int x3), some (.int x4), some (.int x5), some (.int x6), none] [] := fun rf x5 x6 mem hrf ⟨m, hm, hi⟩ => ih m hm rf x5 x6 mem hrf hi
    have h := hI n _ h0
    clear ih h0
    try dsimp only at h
    refine G_iload (i := 6) pX9_odds_46 rfl ?_
    refine G_iload_n (i := 3) pX9_odds_48 rfl rfl ?_
    refine G_icmp_ge pX9_odds_49 (fun c1 => ?_) (fun c1 => ?_)
    · have h := h.1 c1
      refine G_aload_n (i := 0) pX9_odds_64 rfl rfl ?_
      refine G_getR (ci := 9) (j := 5) (N := 12) pX9_odds_65 fl_RX9_37 rfl ltk_0 shk_0 (by decide) rfl (hrf.lit 0 5 rfl) ?_
      refine G_aload_n (i := 0) pX9_odds_68 rfl rfl ?_
      refine G_getR (ci := 9) (j := 0) (N := 12) pX9_odds_69 fl_RX9_10 rfl ltk_0 shk_0 (by decide) rfl (hrf.lit 0 0 rfl) ?_
      refine G_getR (ci := 0) (j := 0) (N := 4) pX9_odds_72 fl_RX9_88 rfl ltk_1 shk_1 (by decide) rfl (hrf.lit 1 0 rfl) ?_
      refine G_iload_n (i := 1) pX9_odds_75 rfl rfl ?_
      obtain ⟨hi2, h⟩ := h
      refine G_aald pX9_odds_76 ltk_2 shk_2 (by decide) hi2 (gd_rf (IS_lit shk_1 ltk_1) hrf hi2) ?_
      refine G_iload_n (i := 2) pX9_odds_77 rfl rfl ?_
      refine G_iload_n (i := 3) pX9_odds_78 rfl rfl ?_
      refine G_iload (i := 5) pX9_odds_79 rfl ?_
      refine G_callV4i (b := 53) (ci := 7) (N := 2) pX9_odds_81 (g_X7_landings (1 + 2 + x1.toNatClampNeg) x2 x3 x5 (gd_in (IS_lit shk_1 ltk_1) hi2) hrf _ h) mV_X7_landings ml_RX9_266 (by decide) ⟨Nat.le_refl _, Nat.le_refl _, Nat.le_refl _⟩ (Nat.le_of_ble_eq_true rfl) ltk_53 shk_53 rfl ?_
      intro r4 rf m3 hrf h hr4
      refine G_istore (i := 6) (L' := [some (.ref 0), some (.int x1), some (.int x2), some (.int x3), some (.int x4), some (.int x5), some (.int r4), none]) pX9_odds_84 rfl ?_
      refine G_iconst pX9_odds_86 ic_0 ?_
      refine G_istore (i := 7) (L' := [some (.ref 0), some (.int x1), some (.int x2), some (.int x3), some (.int x4), some (.int x5), some (.int r4), some (.int (0 : Int32))]) pX9_odds_87 rfl ?_
      refine G_wk (L2 := [none, none, none, some (.int x3), some (.int x4), some (.int x5), some (.int r4), some (.int (0 : Int32))]) ⟨Or.inl rfl, Or.inl rfl, Or.inl rfl, Or.inr rfl, Or.inr rfl, Or.inr rfl, Or.inr rfl, Or.inr rfl, trivial⟩ ?_
      exact gB_X9_odds_89 hrf x3 x4 x5 r4 (0 : Int32) _ h
    · have h := h.2 c1
      refine G_iload (i := 5) pX9_odds_52 rfl ?_
      refine G_iconst pX9_odds_54 ic_3 ?_
      refine G_imul pX9_odds_55 ?_
      obtain ⟨v5, e5⟩ : ∃ z : Int32, z = x5 * (3 : Int32) := ⟨_, rfl⟩
      have h := h v5 e5
      refine G_istoreW (L' := [some (.ref 0), some (.int x1), some (.int x2), some (.int x3), some (.int x4), some (.int v5), some (.int x6), none]) pX9_odds_56 e5.symm rfl ?_
      obtain ⟨v6, e6⟩ : ∃ z : Int32, z = x6 + (1 : Int32) := ⟨_, rfl⟩
      have h := h v6 e6
      refine G_iincW (L' := [some (.ref 0), some (.int x1), some (.int x2), some (.int x3), some (.int x4), some (.int v5), some (.int v6), none]) pX9_odds_58 rfl ic_1 e6.symm rfl ?_
      refine G_goto pX9_odds_61 ?_
      exact hX46 _ _ _ _ hrf h
  exact key n rf _ _ _ hrf h0
def L_X9_odds (a1 : Int32) (a2 : Int32) (a3 : Int32) (a4 : Int32) (mem : MMt) (Q : Int32 → MMt → Prop) : Prop := L_X9_isGood a1 mem (fun r2 m1 => ((r2 = 0 → L_X9_error (1 : Int32) m1 (fun r5 m4 => Q r5 m4)) ∧ (¬ r2 = 0 → L_X9_isSide a2 m1 (fun r7 m6 => ((r7 = 0 → L_X9_error (1 : Int32) m6 (fun r10 m9 => Q r10 m9)) ∧ (¬ r7 = 0 → L_X9_within a3 (0 : Int32) (5 : Int32) m6 (fun r12 m11 => ((r12 = 0 → L_X9_error (1 : Int32) m11 (fun r15 m14 => Q r15 m14)) ∧ (¬ r12 = 0 → L_X9_within a4 (0 : Int32) (1 : Int32) m11 (fun r17 m16 => ((¬ r17 = 0 → B_X9_odds_46 a1 a2 a3 a4 (1 : Int32) (0 : Int32) m16 Q) ∧ (r17 = 0 → L_X9_error (1 : Int32) m16 (fun r20 m19 => Q r20 m19)))))))))))))
set_option maxRecDepth 4000 in
theorem g_X9_odds {sx : Nat × (Nat → Int32)} {rf : RFt} {Q : Int32 → MMt → Prop} (a1 : Int32) (a2 : Int32) (a3 : Int32) (a4 : Int32) (hrf : RFok rf) (mem : MMt) (h : L_X9_odds a1 a2 a3 a4 mem Q) : Ct sx yX9_odds cX9_odds 8 (some .int) 8 [.ref 0, .int a1, .int a2, .int a3, .int a4] NX NX rf mem (QQi (RFok) Q) := by
  refine Ct_of [some (.ref 0), some (.int a1), some (.int a2), some (.int a3), some (.int a4), none, none, none] (by decide +kernel) (by simp [Lof, Value.category]) rfl ?_
  unfold L_X9_odds at h
  refine G_aload_n (i := 0) pX9_odds_0 rfl rfl ?_
  refine G_iload_n (i := 1) pX9_odds_1 rfl rfl ?_
  refine G_callV1i (b := 0) (ci := 9) (N := 12) pX9_odds_2 (g_X9_isGood a1 hrf _ h) mV_X9_isGood ml_RX9_101 (by decide) ⟨Nat.le_refl _, Nat.le_refl _, Nat.le_refl _⟩ (Nat.le_of_ble_eq_true rfl) ltk_0 shk_0 rfl ?_
  intro r2 rf m1 hrf h hr2
  refine G_if_eq pX9_odds_5 (fun c3 => ?_) (fun c3 => ?_)
  · have h := h.1 c3
    refine G_aload_n (i := 0) pX9_odds_34 rfl rfl ?_
    refine G_iconst pX9_odds_35 ic_1 ?_
    refine G_callV1i (b := 0) (ci := 9) (N := 12) pX9_odds_36 (g_X9_error (1 : Int32) hrf _ h) mV_X9_error ml_RX9_80 (by decide) ⟨Nat.le_refl _, Nat.le_refl _, Nat.le_refl _⟩ (Nat.le_of_ble_eq_true rfl) ltk_0 shk_0 rfl ?_
    intro r5 rf m4 hrf h hr5
    exact G_ireturn (len := 1) pX9_odds_39 ⟨hrf, _, rfl, h⟩ ⟨_, rfl, rfl⟩
  · have h := h.2 c3
    refine G_iload_n (i := 2) pX9_odds_8 rfl rfl ?_
    refine G_callS1i pX9_odds_9 (g_X9_isSide a2 hrf _ h) mS_X9_isSide ml_RX9_160 (by decide) ⟨Nat.le_refl _, Nat.le_refl _, Nat.le_refl _⟩ (Nat.le_of_ble_eq_true rfl) ?_
    intro r7 rf m6 hrf h hr7
    refine G_if_eq pX9_odds_12 (fun c8 => ?_) (fun c8 => ?_)
    · have h := h.1 c8
      refine G_aload_n (i := 0) pX9_odds_34 rfl rfl ?_
      refine G_iconst pX9_odds_35 ic_1 ?_
      refine G_callV1i (b := 0) (ci := 9) (N := 12) pX9_odds_36 (g_X9_error (1 : Int32) hrf _ h) mV_X9_error ml_RX9_80 (by decide) ⟨Nat.le_refl _, Nat.le_refl _, Nat.le_refl _⟩ (Nat.le_of_ble_eq_true rfl) ltk_0 shk_0 rfl ?_
      intro r10 rf m9 hrf h hr10
      exact G_ireturn (len := 1) pX9_odds_39 ⟨hrf, _, rfl, h⟩ ⟨_, rfl, rfl⟩
    · have h := h.2 c8
      refine G_iload_n (i := 3) pX9_odds_15 rfl rfl ?_
      refine G_iconst pX9_odds_16 ic_0 ?_
      refine G_iconst pX9_odds_17 ic_5 ?_
      refine G_callS3i pX9_odds_18 (g_X9_within a3 (0 : Int32) (5 : Int32) hrf _ h) mS_X9_within ml_RX9_104 (by decide) ⟨Nat.le_refl _, Nat.le_refl _, Nat.le_refl _⟩ (Nat.le_of_ble_eq_true rfl) ?_
      intro r12 rf m11 hrf h hr12
      refine G_if_eq pX9_odds_21 (fun c13 => ?_) (fun c13 => ?_)
      · have h := h.1 c13
        refine G_aload_n (i := 0) pX9_odds_34 rfl rfl ?_
        refine G_iconst pX9_odds_35 ic_1 ?_
        refine G_callV1i (b := 0) (ci := 9) (N := 12) pX9_odds_36 (g_X9_error (1 : Int32) hrf _ h) mV_X9_error ml_RX9_80 (by decide) ⟨Nat.le_refl _, Nat.le_refl _, Nat.le_refl _⟩ (Nat.le_of_ble_eq_true rfl) ltk_0 shk_0 rfl ?_
        intro r15 rf m14 hrf h hr15
        exact G_ireturn (len := 1) pX9_odds_39 ⟨hrf, _, rfl, h⟩ ⟨_, rfl, rfl⟩
      · have h := h.2 c13
        refine G_iload (i := 4) pX9_odds_24 rfl ?_
        refine G_iconst pX9_odds_26 ic_0 ?_
        refine G_iconst pX9_odds_27 ic_1 ?_
        refine G_callS3i pX9_odds_28 (g_X9_within a4 (0 : Int32) (1 : Int32) hrf _ h) mS_X9_within ml_RX9_104 (by decide) ⟨Nat.le_refl _, Nat.le_refl _, Nat.le_refl _⟩ (Nat.le_of_ble_eq_true rfl) ?_
        intro r17 rf m16 hrf h hr17
        refine G_if_ne pX9_odds_31 (fun c18 => ?_) (fun c18 => ?_)
        · have h := h.1 c18
          refine G_iconst pX9_odds_40 ic_1 ?_
          refine G_istore (i := 5) (L' := [some (.ref 0), some (.int a1), some (.int a2), some (.int a3), some (.int a4), some (.int (1 : Int32)), none, none]) pX9_odds_41 rfl ?_
          refine G_iconst pX9_odds_43 ic_0 ?_
          refine G_istore (i := 6) (L' := [some (.ref 0), some (.int a1), some (.int a2), some (.int a3), some (.int a4), some (.int (1 : Int32)), some (.int (0 : Int32)), none]) pX9_odds_44 rfl ?_
          exact gB_X9_odds_46 hrf a1 a2 a3 a4 (1 : Int32) (0 : Int32) _ h
        · have h := h.2 c18
          refine G_aload_n (i := 0) pX9_odds_34 rfl rfl ?_
          refine G_iconst pX9_odds_35 ic_1 ?_
          refine G_callV1i (b := 0) (ci := 9) (N := 12) pX9_odds_36 (g_X9_error (1 : Int32) hrf _ h) mV_X9_error ml_RX9_80 (by decide) ⟨Nat.le_refl _, Nat.le_refl _, Nat.le_refl _⟩ (Nat.le_of_ble_eq_true rfl) ltk_0 shk_0 rfl ?_
          intro r20 rf m19 hrf h hr20
          exact G_ireturn (len := 1) pX9_odds_39 ⟨hrf, _, rfl, h⟩ ⟨_, rfl, rfl⟩
def L_X9_seed (a1 : Int32) (mem : MMt) (Q : Int32 → MMt → Prop) : Prop := (∀ v1 : Int32, v1 = mem 11 2 → (∀ m2 : MMt, m2 = up2 mem 11 2 a1 → Q v1 m2))
set_option maxRecDepth 4000 in
theorem g_X9_seed {sx : Nat × (Nat → Int32)} {rf : RFt} {Q : Int32 → MMt → Prop} (a1 : Int32) (hrf : RFok rf) (mem : MMt) (h : L_X9_seed a1 mem Q) : Ct sx yX9_seed cX9_seed 3 (some .int) 1 [.ref 0, .int a1] NX NX rf mem (QQi (RFok) Q) := by
  refine Ct_of [some (.ref 0), some (.int a1), none] (by decide +kernel) (by simp [Lof, Value.category]) rfl ?_
  unfold L_X9_seed at h
  refine G_aload_n (i := 0) pX9_seed_0 rfl rfl ?_
  refine G_getR (ci := 9) (j := 1) (N := 12) pX9_seed_1 fl_RX9_19 rfl ltk_0 shk_0 (by decide) rfl (hrf.lit 0 1 rfl) ?_
  refine G_getI (ci := 5) (j := 2) (N := 10) pX9_seed_4 fl_RX9_270 rfl ltk_11 shk_11 (by decide) rfl ?_
  obtain ⟨v1, e1⟩ : ∃ z : Int32, z = mem 11 2 := ⟨_, rfl⟩
  have h := h v1 e1
  refine G_istore_nW (L' := [some (.ref 0), some (.int a1), some (.int v1)]) pX9_seed_7 rfl e1.symm rfl ?_
  refine G_aload_n (i := 0) pX9_seed_8 rfl rfl ?_
  refine G_getR (ci := 9) (j := 1) (N := 12) pX9_seed_9 fl_RX9_19 rfl ltk_0 shk_0 (by decide) rfl (hrf.lit 0 1 rfl) ?_
  refine G_iload_n (i := 1) pX9_seed_12 rfl rfl ?_
  obtain ⟨m2, em2⟩ : ∃ z : MMt, z = up2 mem 11 2 a1 := ⟨_, rfl⟩
  have h := h m2 em2
  refine G_putIW (ci := 5) (j := 2) (N := 10) pX9_seed_13 fw_RX9_270 rfl ltk_11 shk_11 (by decide) rfl (fun _ => ⟨rfl, rfl⟩) em2.symm ?_
  refine G_iload_n (i := 2) pX9_seed_16 rfl rfl ?_
  exact G_ireturn (len := 1) pX9_seed_17 ⟨hrf, _, rfl, h⟩ ⟨_, rfl, rfl⟩
def B_X8_bodyOf_42 (x1 : Int32) (x2 : Int32) (mem : MMt) (Q : Int32 → MMt → Prop) : Prop := (vp_in (((4 : Int32) * x2) + x1) 28 ∧ Q (bodiesF (((4 : Int32) * x2) + x1).toNatClampNeg) mem)
set_option maxRecDepth 4000 in
theorem gB_X8_bodyOf_42 {sx : Nat × (Nat → Int32)} {M : RFt → Prop} {rf : RFt} {Q : Int32 → MMt → Prop} (hrf : M rf) (x1 : Int32) (x2 : Int32) (mem : MMt) (h : B_X8_bodyOf_42 x1 x2 mem Q) : G sx yX8_bodyOf cX8_bodyOf 4 (some .int) 1 NX NX (QQi (M) Q) NX rf mem 42 [none, some (.int x1), some (.int x2), none] [] := by
  unfold B_X8_bodyOf_42 at h
  refine G_gsBodies pX8_bodyOf_42 wf_RX8_51 ?_
  refine G_iconst pX8_bodyOf_45 ic_4 ?_
  refine G_iload_n (i := 2) pX8_bodyOf_46 rfl rfl ?_
  refine G_imul pX8_bodyOf_47 ?_
  refine G_iload_n (i := 1) pX8_bodyOf_48 rfl rfl ?_
  refine G_iadd pX8_bodyOf_49 ?_
  obtain ⟨hi1, h⟩ := h
  refine G_ldBodies pX8_bodyOf_50 hi1 ?_
  exact G_ireturn (len := 1) pX8_bodyOf_51 ⟨hrf, _, rfl, h⟩ ⟨_, rfl, rfl⟩
def B_X8_bodyOf_4 (x1 : Int32) (x2 : Int32) (x3 : Int32) (mem : MMt) (Q : Int32 → MMt → Prop) : Prop := LOOP (σ := Int32 × Int32 × MMt) (fun X4 z => (fun (x2 : Int32) (x3 : Int32) (mem : MMt) => (((7 : Int32) ≤ x3 → B_X8_bodyOf_42 x1 x2 mem Q) ∧ (¬ (7 : Int32) ≤ x3 → (vp_in x2 7 ∧ (((aboveF x2.toNatClampNeg) < 0 → B_X8_bodyOf_42 x1 x2 mem Q) ∧ (¬ (aboveF x2.toNatClampNeg) < 0 → (vp_in (((4 : Int32) * x2) + x1) 28 ∧ ((¬ (bodiesF (((4 : Int32) * x2) + x1).toNatClampNeg) = 0 → B_X8_bodyOf_42 x1 x2 mem Q) ∧ ((bodiesF (((4 : Int32) * x2) + x1).toNatClampNeg) = 0 → (vp_in x2 7 ∧ (∀ v7 : Int32, v7 = aboveF x2.toNatClampNeg → (∀ v8 : Int32, v8 = x3 + (1 : Int32) → X4 (v7, v8, mem))))))))))))) z.1 z.2.1 z.2.2) (x2, x3, mem)
set_option maxRecDepth 4000 in
theorem gB_X8_bodyOf_4 {sx : Nat × (Nat → Int32)} {M : RFt → Prop} {rf : RFt} {Q : Int32 → MMt → Prop} (hrf : M rf) (x1 : Int32) (x2 : Int32) (x3 : Int32) (mem : MMt) (h : B_X8_bodyOf_4 x1 x2 x3 mem Q) : G sx yX8_bodyOf cX8_bodyOf 4 (some .int) 1 NX NX (QQi (M) Q) NX rf mem 4 [none, some (.int x1), some (.int x2), some (.int x3)] [] := by
  obtain ⟨I, ⟨n, h0⟩, hI⟩ := h
  have key : ∀ (n : Nat) (rf : RFt) (x2 : Int32) (x3 : Int32) (mem : MMt), M rf → I n (x2, x3, mem) → G sx yX8_bodyOf cX8_bodyOf 4 (some .int) 1 NX NX (QQi (M) Q) NX rf mem 4 [none, some (.int x1), some (.int x2), some (.int x3)] [] := by
    intro n
    induction n using Nat.strongRecOn with
    | _ n ih =>
    intro rf x2 x3 mem hrf h0
    have hX4 : ∀ (rf : RFt) (x2 : Int32) (x3 : Int32) (mem : MMt), M rf → (fun s' => ∃ m, m < n ∧ I m s') (x2, x3, mem) → G sx yX8_bodyOf cX8_bodyOf 4 (some .int) 1 NX NX (QQi (M) Q) NX rf mem 4 [none, some (.int x1), some (.int x2), some (.int x3)] [] := fun rf x2 x3 mem hrf ⟨m, hm, hi⟩ => ih m hm rf x2 x3 mem hrf hi
    have h := hI n _ h0
    clear ih h0
    try dsimp only at h
    refine G_iload_n (i := 3) pX8_bodyOf_4 rfl rfl ?_
    refine G_bipush pX8_bodyOf_5 bi_7 ?_
    refine G_icmp_ge pX8_bodyOf_7 (fun c1 => ?_) (fun c1 => ?_)
    · have h := h.1 c1
      refine G_wk (L2 := [none, some (.int x1), some (.int x2), none]) ⟨Or.inr rfl, Or.inr rfl, Or.inr rfl, Or.inl rfl, trivial⟩ ?_
      exact gB_X8_bodyOf_42 hrf x1 x2 _ h
    · have h := h.2 c1
      refine G_gsAbove pX8_bodyOf_10 rfl rfl ?_
      refine G_iload_n (i := 2) pX8_bodyOf_13 rfl rfl ?_
      obtain ⟨hi2, h⟩ := h
      refine G_ldAbove pX8_bodyOf_14 hi2 ?_
      refine G_if_lt pX8_bodyOf_15 (fun c3 => ?_) (fun c3 => ?_)
      · have h := h.1 c3
        refine G_wk (L2 := [none, some (.int x1), some (.int x2), none]) ⟨Or.inr rfl, Or.inr rfl, Or.inr rfl, Or.inl rfl, trivial⟩ ?_
        exact gB_X8_bodyOf_42 hrf x1 x2 _ h
      · have h := h.2 c3
        refine G_gsBodies pX8_bodyOf_18 wf_RX8_51 ?_
        refine G_iconst pX8_bodyOf_21 ic_4 ?_
        refine G_iload_n (i := 2) pX8_bodyOf_22 rfl rfl ?_
        refine G_imul pX8_bodyOf_23 ?_
        refine G_iload_n (i := 1) pX8_bodyOf_24 rfl rfl ?_
        refine G_iadd pX8_bodyOf_25 ?_
        obtain ⟨hi4, h⟩ := h
        refine G_ldBodies pX8_bodyOf_26 hi4 ?_
        refine G_if_ne pX8_bodyOf_27 (fun c5 => ?_) (fun c5 => ?_)
        · have h := h.1 c5
          refine G_wk (L2 := [none, some (.int x1), some (.int x2), none]) ⟨Or.inr rfl, Or.inr rfl, Or.inr rfl, Or.inl rfl, trivial⟩ ?_
          exact gB_X8_bodyOf_42 hrf x1 x2 _ h
        · have h := h.2 c5
          refine G_gsAbove pX8_bodyOf_30 rfl rfl ?_
          refine G_iload_n (i := 2) pX8_bodyOf_33 rfl rfl ?_
          obtain ⟨hi6, h⟩ := h
          refine G_ldAbove pX8_bodyOf_34 hi6 ?_
          obtain ⟨v7, e7⟩ : ∃ z : Int32, z = aboveF x2.toNatClampNeg := ⟨_, rfl⟩
          have h := h v7 e7
          refine G_istore_nW (L' := [none, some (.int x1), some (.int v7), some (.int x3)]) pX8_bodyOf_35 rfl e7.symm rfl ?_
          obtain ⟨v8, e8⟩ : ∃ z : Int32, z = x3 + (1 : Int32) := ⟨_, rfl⟩
          have h := h v8 e8
          refine G_iincW (L' := [none, some (.int x1), some (.int v7), some (.int v8)]) pX8_bodyOf_36 rfl ic_1 e8.symm rfl ?_
          refine G_goto pX8_bodyOf_39 ?_
          exact hX4 _ _ _ _ hrf h
  exact key n rf _ _ _ hrf h0
def L_X8_bodyOf (a1 : Int32) (a2 : Int32) (mem : MMt) (Q : Int32 → MMt → Prop) : Prop := B_X8_bodyOf_4 a2 a1 (0 : Int32) mem Q
set_option maxRecDepth 4000 in
theorem g_X8_bodyOf {sx : Nat × (Nat → Int32)} {M : RFt → Prop} {rf : RFt} {Q : Int32 → MMt → Prop} (a1 : Int32) (a2 : Int32) (hrf : M rf) (mem : MMt) (h : L_X8_bodyOf a1 a2 mem Q) : Ct sx yX8_bodyOf cX8_bodyOf 4 (some .int) 1 [.int a1, .int a2] NX NX rf mem (QQi (M) Q) := by
  refine Ct_of [some (.int a1), some (.int a2), none, none] (by decide +kernel) (by simp [Lof, Value.category]) rfl ?_
  unfold L_X8_bodyOf at h
  refine G_iload_n (i := 0) pX8_bodyOf_0 rfl rfl ?_
  refine G_istore_n (i := 2) (L' := [some (.int a1), some (.int a2), some (.int a1), none]) pX8_bodyOf_1 rfl rfl ?_
  refine G_iconst pX8_bodyOf_2 ic_0 ?_
  refine G_istore_n (i := 3) (L' := [some (.int a1), some (.int a2), some (.int a1), some (.int (0 : Int32))]) pX8_bodyOf_3 rfl rfl ?_
  refine G_wk (L2 := [none, some (.int a2), some (.int a1), some (.int (0 : Int32))]) ⟨Or.inl rfl, Or.inr rfl, Or.inr rfl, Or.inr rfl, trivial⟩ ?_
  exact gB_X8_bodyOf_4 hrf a2 a1 (0 : Int32) _ h
def L_X8_note (a1 : Int32) (mem : MMt) (Q : MMt → Prop) : Prop := (((40 : Int32) ≤ (mem 64 1) → Q mem) ∧ (¬ (40 : Int32) ≤ (mem 64 1) → (vp_in (mem 64 1) 40 ∧ ∀ m2 : MMt, m2 = up2 mem 65 (mem 64 1).toNatClampNeg a1 → (∀ m4 : MMt, m4 = up2 m2 64 1 ((m2 64 1) + (1 : Int32)) → Q m4))))
set_option maxRecDepth 4000 in
theorem g_X8_note {sx : Nat × (Nat → Int32)} {rf : RFt} {Q : MMt → Prop} (a1 : Int32) (hrf : RFok rf) (mem : MMt) (h : L_X8_note a1 mem Q) : Ct sx yX8_note cX8_note 2 none 1 [.ref 64, .int a1] NX NX rf mem (QQv (RFok) Q) := by
  refine Ct_of [some (.ref 64), some (.int a1)] (by decide +kernel) (by simp [Lof, Value.category]) rfl ?_
  unfold L_X8_note at h
  refine G_aload_n (i := 0) pX8_note_0 rfl rfl ?_
  refine G_getI (ci := 8) (j := 1) (N := 5) pX8_note_1 fl_RX8_29 rfl ltk_64 shk_64 (by decide) rfl ?_
  refine G_bipush pX8_note_4 bi_40 ?_
  refine G_icmp_ge pX8_note_6 (fun c1 => ?_) (fun c1 => ?_)
  · have h := h.1 c1
    exact G_return (len := 1) pX8_note_29 ⟨hrf, rfl, h⟩ rfl
  · have h := h.2 c1
    refine G_aload_n (i := 0) pX8_note_9 rfl rfl ?_
    refine G_getR (ci := 8) (j := 0) (N := 5) pX8_note_10 fl_RX8_11 rfl ltk_64 shk_64 (by decide) rfl (hrf.lit 64 0 rfl) ?_
    refine G_aload_n (i := 0) pX8_note_13 rfl rfl ?_
    refine G_getI (ci := 8) (j := 1) (N := 5) pX8_note_14 fl_RX8_29 rfl ltk_64 shk_64 (by decide) rfl ?_
    refine G_iload_n (i := 1) pX8_note_17 rfl rfl ?_
    obtain ⟨hi3, h⟩ := h
    obtain ⟨m2, em2⟩ : ∃ z : MMt, z = up2 mem 65 (mem 64 1).toNatClampNeg a1 := ⟨_, rfl⟩
    have h := h m2 em2
    refine G_iastW pX8_note_18 ltk_65 shk_65 hi3 em2.symm ?_
    refine G_aload_n (i := 0) pX8_note_19 rfl rfl ?_
    refine G_dup pX8_note_20 rfl ?_
    refine G_getI (ci := 8) (j := 1) (N := 5) pX8_note_21 fl_RX8_29 rfl ltk_64 shk_64 (by decide) rfl ?_
    refine G_iconst pX8_note_24 ic_1 ?_
    refine G_iadd pX8_note_25 ?_
    obtain ⟨m4, em4⟩ : ∃ z : MMt, z = up2 m2 64 1 ((m2 64 1) + (1 : Int32)) := ⟨_, rfl⟩
    have h := h m4 em4
    refine G_putIW (ci := 8) (j := 1) (N := 5) pX8_note_26 fw_RX8_29 rfl ltk_64 shk_64 (by decide) rfl (fun _ => ⟨rfl, rfl⟩) em4.symm ?_
    exact G_return (len := 1) pX8_note_29 ⟨hrf, rfl, h⟩ rfl
def L_X8_own (R_X8_own : Int32 → Int32 → Int32 → MMt → (Int32 → MMt → Prop) → Prop) (R_X8_from : Int32 → Int32 → Int32 → Int32 → MMt → (Int32 → MMt → Prop) → Prop) (a1 : Int32) (a2 : Int32) (a3 : Int32) (mem : MMt) (Q : Int32 → MMt → Prop) : Prop := R_X8_from (mem 64 2) a1 a2 a3 mem (fun r2 m1 => Q r2 m1)
set_option maxRecDepth 4000 in
theorem g_X8_own {sx : Nat × (Nat → Int32)} {R_X8_own : Int32 → Int32 → Int32 → MMt → (Int32 → MMt → Prop) → Prop} {R_X8_from : Int32 → Int32 → Int32 → Int32 → MMt → (Int32 → MMt → Prop) → Prop} {rf : RFt} {Q : Int32 → MMt → Prop} {d0 : Nat} (hd0 : 1 ≤ d0) (hR_X8_own : ∀ (rf : RFt) (a1 : Int32) (a2 : Int32) (a3 : Int32) (mem : MMt) (Q : Int32 → MMt → Prop), RFok rf → R_X8_own a1 a2 a3 mem Q → Ct sx yX8_own cX8_own 4 (some .int) d0 [.ref 64, .int a1, .int a2, .int a3] NX NX rf mem (QQi (RFok) Q)) (hR_X8_from : ∀ (rf : RFt) (a1 : Int32) (a2 : Int32) (a3 : Int32) (a4 : Int32) (mem : MMt) (Q : Int32 → MMt → Prop), RFok rf → R_X8_from a1 a2 a3 a4 mem Q → Ct sx yX8_from cX8_from 7 (some .int) d0 [.ref 64, .int a1, .int a2, .int a3, .int a4] NX NX rf mem (QQi (RFok) Q)) (a1 : Int32) (a2 : Int32) (a3 : Int32) (hrf : RFok rf) (mem : MMt) (h : L_X8_own R_X8_own R_X8_from a1 a2 a3 mem Q) : Ct sx yX8_own cX8_own 4 (some .int) (d0 + 1) [.ref 64, .int a1, .int a2, .int a3] NX NX rf mem (QQi (RFok) Q) := by
  refine Ct_of [some (.ref 64), some (.int a1), some (.int a2), some (.int a3)] (by decide +kernel) (by simp [Lof, Value.category]) rfl ?_
  unfold L_X8_own at h
  refine G_aload_n (i := 0) pX8_own_0 rfl rfl ?_
  refine G_aload_n (i := 0) pX8_own_1 rfl rfl ?_
  refine G_getI (ci := 8) (j := 2) (N := 5) pX8_own_2 fl_RX8_21 rfl ltk_64 shk_64 (by decide) rfl ?_
  refine G_iload_n (i := 1) pX8_own_5 rfl rfl ?_
  refine G_iload_n (i := 2) pX8_own_6 rfl rfl ?_
  refine G_iload_n (i := 3) pX8_own_7 rfl rfl ?_
  refine G_callV4i (b := 64) (ci := 8) (N := 5) pX8_own_8 (hR_X8_from _ (mem 64 2) a1 a2 a3 _ _ hrf h) mV_X8_from ml_RX8_36 (Nat.le_refl _) ⟨Nat.le_refl _, Nat.le_refl _, Nat.le_refl _⟩ (Nat.le_of_ble_eq_true rfl) ltk_64 shk_64 rfl ?_
  intro r2 rf m1 hrf h hr2
  exact G_ireturn (len := 1) pX8_own_11 ⟨hrf, _, rfl, h⟩ ⟨_, rfl, rfl⟩
def L_X8_from (R_X8_own : Int32 → Int32 → Int32 → MMt → (Int32 → MMt → Prop) → Prop) (R_X8_from : Int32 → Int32 → Int32 → Int32 → MMt → (Int32 → MMt → Prop) → Prop) (a1 : Int32) (a2 : Int32) (a3 : Int32) (a4 : Int32) (mem : MMt) (Q : Int32 → MMt → Prop) : Prop := ((a4 ≤ (40 : Int32) → L_X8_bodyOf a1 a2 mem (fun r3 m2 => L_X8_note r3 m2 (fun m4 => (∀ v5 : Int32, v5 = a4 + (1 : Int32) → ((r3 = (10 : Int32) → Q (a3 + (m4 64 3)) m4) ∧ (r3 = (11 : Int32) → R_X8_own (0 : Int32) a3 v5 m4 (fun r9 m8 => Q (r9 * (2 : Int32)) m8)) ∧ (r3 = (12 : Int32) → Q (a3 - (m4 64 4)) m4) ∧ (r3 = (13 : Int32) → R_X8_own (1 : Int32) a3 v5 m4 (fun r13 m12 => R_X8_own (2 : Int32) a3 v5 m12 (fun r15 m14 => Q (r13 ^^^ r15) m14))) ∧ (r3 = (20 : Int32) → R_X8_from (0 : Int32) (1 : Int32) a3 v5 m4 (fun r18 m17 => R_X8_own (2 : Int32) (1 : Int32) v5 m17 (fun r20 m19 => Q (r18 - r20) m19))) ∧ (r3 = (30 : Int32) → R_X8_from (0 : Int32) (2 : Int32) a3 v5 m4 (fun r23 m22 => Q (-r23) m22)) ∧ (r3 = (40 : Int32) → R_X8_from (0 : Int32) (0 : Int32) a3 v5 m4 (fun r26 m25 => Q (r26 * (3 : Int32)) m25)) ∧ (r3 = (50 : Int32) → R_X8_from (2 : Int32) (2 : Int32) a3 v5 m4 (fun r29 m28 => Q (r29 ^^^ (m28 64 3)) m28)) ∧ (r3 = (51 : Int32) → R_X8_own (1 : Int32) a3 v5 m4 (fun r32 m31 => R_X8_from (2 : Int32) (3 : Int32) a3 v5 m31 (fun r34 m33 => Q (r32 - r34) m33))) ∧ (r3 = (60 : Int32) → R_X8_from (3 : Int32) (3 : Int32) a3 v5 m4 (fun r37 m36 => R_X8_own (0 : Int32) (2 : Int32) v5 m36 (fun r39 m38 => Q (r37 - r39) m38))) ∧ (¬ r3 = (10 : Int32) → ¬ r3 = (11 : Int32) → ¬ r3 = (12 : Int32) → ¬ r3 = (13 : Int32) → ¬ r3 = (20 : Int32) → ¬ r3 = (30 : Int32) → ¬ r3 = (40 : Int32) → ¬ r3 = (50 : Int32) → ¬ r3 = (51 : Int32) → ¬ r3 = (60 : Int32) → R_X8_from (1 : Int32) (1 : Int32) (a3 + (1 : Int32)) v5 m4 (fun r41 m40 => Q r41 m40))))))) ∧ (¬ a4 ≤ (40 : Int32) → Q (0 : Int32) mem))
set_option maxRecDepth 4000 in
theorem g_X8_from {sx : Nat × (Nat → Int32)} {R_X8_own : Int32 → Int32 → Int32 → MMt → (Int32 → MMt → Prop) → Prop} {R_X8_from : Int32 → Int32 → Int32 → Int32 → MMt → (Int32 → MMt → Prop) → Prop} {rf : RFt} {Q : Int32 → MMt → Prop} {d0 : Nat} (hd0 : 1 ≤ d0) (hR_X8_own : ∀ (rf : RFt) (a1 : Int32) (a2 : Int32) (a3 : Int32) (mem : MMt) (Q : Int32 → MMt → Prop), RFok rf → R_X8_own a1 a2 a3 mem Q → Ct sx yX8_own cX8_own 4 (some .int) d0 [.ref 64, .int a1, .int a2, .int a3] NX NX rf mem (QQi (RFok) Q)) (hR_X8_from : ∀ (rf : RFt) (a1 : Int32) (a2 : Int32) (a3 : Int32) (a4 : Int32) (mem : MMt) (Q : Int32 → MMt → Prop), RFok rf → R_X8_from a1 a2 a3 a4 mem Q → Ct sx yX8_from cX8_from 7 (some .int) d0 [.ref 64, .int a1, .int a2, .int a3, .int a4] NX NX rf mem (QQi (RFok) Q)) (a1 : Int32) (a2 : Int32) (a3 : Int32) (a4 : Int32) (hrf : RFok rf) (mem : MMt) (h : L_X8_from R_X8_own R_X8_from a1 a2 a3 a4 mem Q) : Ct sx yX8_from cX8_from 7 (some .int) (d0 + 1) [.ref 64, .int a1, .int a2, .int a3, .int a4] NX NX rf mem (QQi (RFok) Q) := by
  refine Ct_of [some (.ref 64), some (.int a1), some (.int a2), some (.int a3), some (.int a4), none, none] (by decide +kernel) (by simp [Lof, Value.category]) rfl ?_
  unfold L_X8_from at h
  refine G_iload (i := 4) pX8_from_0 rfl ?_
  refine G_bipush pX8_from_2 bi_40 ?_
  refine G_icmp_le pX8_from_4 (fun c1 => ?_) (fun c1 => ?_)
  · have h := h.1 c1
    refine G_iload_n (i := 1) pX8_from_9 rfl rfl ?_
    refine G_iload_n (i := 2) pX8_from_10 rfl rfl ?_
    refine G_callS2i pX8_from_11 (g_X8_bodyOf a1 a2 hrf _ h) mS_X8_bodyOf ml_RX8_40 (by omega) ⟨Nat.le_refl _, Nat.le_refl _, Nat.le_refl _⟩ (Nat.le_of_ble_eq_true rfl) ?_
    intro r3 rf m2 hrf h hr3
    refine G_istore (i := 5) (L' := [some (.ref 64), some (.int a1), some (.int a2), some (.int a3), some (.int a4), some (.int r3), none]) pX8_from_14 rfl ?_
    refine G_aload_n (i := 0) pX8_from_16 rfl rfl ?_
    refine G_iload (i := 5) pX8_from_17 rfl ?_
    refine G_callV1v (b := 64) (ci := 8) (N := 5) pX8_from_19 (g_X8_note r3 hrf _ h) mV_X8_note ml_RX8_44 (by omega) ⟨Nat.le_refl _, Nat.le_refl _, Nat.le_refl _⟩ (Nat.le_of_ble_eq_true rfl) ltk_64 shk_64 rfl ?_
    intro rf m4 hrf h
    refine G_iload (i := 4) pX8_from_22 rfl ?_
    refine G_iconst pX8_from_24 ic_1 ?_
    refine G_iadd pX8_from_25 ?_
    obtain ⟨v5, e5⟩ : ∃ z : Int32, z = a4 + (1 : Int32) := ⟨_, rfl⟩
    have h := h v5 e5
    refine G_istoreW (L' := [some (.ref 64), some (.int a1), some (.int a2), some (.int a3), some (.int a4), some (.int r3), some (.int v5)]) pX8_from_26 e5.symm rfl ?_
    refine G_iload (i := 5) pX8_from_28 rfl ?_
    by_cases c6 : r3 = (10 : Int32)
    · have h := h.1 c6
      refine G_lsE (v := (10 : Int32)) (off := 90) (tgt := 120) pX8_from_30 c6 (by decide) (by decide) (by decide) ?_
      refine G_iload_n (i := 3) pX8_from_120 rfl rfl ?_
      refine G_aload_n (i := 0) pX8_from_121 rfl rfl ?_
      refine G_getI (ci := 8) (j := 3) (N := 5) pX8_from_122 fl_RX8_22 rfl ltk_64 shk_64 (by decide) rfl ?_
      refine G_iadd pX8_from_125 ?_
      exact G_ireturn (len := 1) pX8_from_126 ⟨hrf, _, rfl, h⟩ ⟨_, rfl, rfl⟩
    by_cases c7 : r3 = (11 : Int32)
    · have h := h.2.1 c7
      refine G_lsE (v := (11 : Int32)) (off := 97) (tgt := 127) pX8_from_30 c7 (by decide) (by decide) (by decide) ?_
      refine G_aload_n (i := 0) pX8_from_127 rfl rfl ?_
      refine G_iconst pX8_from_128 ic_0 ?_
      refine G_iload_n (i := 3) pX8_from_129 rfl rfl ?_
      refine G_iload (i := 6) pX8_from_130 rfl ?_
      refine G_callV3i (b := 64) (ci := 8) (N := 5) pX8_from_132 (hR_X8_own _ (0 : Int32) a3 v5 _ _ hrf h) mV_X8_own ml_RX8_32 (Nat.le_refl _) ⟨Nat.le_refl _, Nat.le_refl _, Nat.le_refl _⟩ (Nat.le_of_ble_eq_true rfl) ltk_64 shk_64 rfl ?_
      intro r9 rf m8 hrf h hr9
      refine G_iconst pX8_from_135 ic_2 ?_
      refine G_imul pX8_from_136 ?_
      exact G_ireturn (len := 1) pX8_from_137 ⟨hrf, _, rfl, h⟩ ⟨_, rfl, rfl⟩
    by_cases c10 : r3 = (12 : Int32)
    · have h := h.2.2.1 c10
      refine G_lsE (v := (12 : Int32)) (off := 108) (tgt := 138) pX8_from_30 c10 (by decide) (by decide) (by decide) ?_
      refine G_iload_n (i := 3) pX8_from_138 rfl rfl ?_
      refine G_aload_n (i := 0) pX8_from_139 rfl rfl ?_
      refine G_getI (ci := 8) (j := 4) (N := 5) pX8_from_140 fl_RX8_28 rfl ltk_64 shk_64 (by decide) rfl ?_
      refine G_isub pX8_from_143 ?_
      exact G_ireturn (len := 1) pX8_from_144 ⟨hrf, _, rfl, h⟩ ⟨_, rfl, rfl⟩
    by_cases c11 : r3 = (13 : Int32)
    · have h := h.2.2.2.1 c11
      refine G_lsE (v := (13 : Int32)) (off := 115) (tgt := 145) pX8_from_30 c11 (by decide) (by decide) (by decide) ?_
      refine G_aload_n (i := 0) pX8_from_145 rfl rfl ?_
      refine G_iconst pX8_from_146 ic_1 ?_
      refine G_iload_n (i := 3) pX8_from_147 rfl rfl ?_
      refine G_iload (i := 6) pX8_from_148 rfl ?_
      refine G_callV3i (b := 64) (ci := 8) (N := 5) pX8_from_150 (hR_X8_own _ (1 : Int32) a3 v5 _ _ hrf h) mV_X8_own ml_RX8_32 (Nat.le_refl _) ⟨Nat.le_refl _, Nat.le_refl _, Nat.le_refl _⟩ (Nat.le_of_ble_eq_true rfl) ltk_64 shk_64 rfl ?_
      intro r13 rf m12 hrf h hr13
      refine G_aload_n (i := 0) pX8_from_153 rfl rfl ?_
      refine G_iconst pX8_from_154 ic_2 ?_
      refine G_iload_n (i := 3) pX8_from_155 rfl rfl ?_
      refine G_iload (i := 6) pX8_from_156 rfl ?_
      refine G_callV3i (b := 64) (ci := 8) (N := 5) pX8_from_158 (hR_X8_own _ (2 : Int32) a3 v5 _ _ hrf h) mV_X8_own ml_RX8_32 (Nat.le_refl _) ⟨Nat.le_refl _, Nat.le_refl _, Nat.le_refl _⟩ (Nat.le_of_ble_eq_true rfl) ltk_64 shk_64 rfl ?_
      intro r15 rf m14 hrf h hr15
      refine G_ixor pX8_from_161 ?_
      exact G_ireturn (len := 1) pX8_from_162 ⟨hrf, _, rfl, h⟩ ⟨_, rfl, rfl⟩
    by_cases c16 : r3 = (20 : Int32)
    · have h := h.2.2.2.2.1 c16
      refine G_lsE (v := (20 : Int32)) (off := 133) (tgt := 163) pX8_from_30 c16 (by decide) (by decide) (by decide) ?_
      refine G_aload_n (i := 0) pX8_from_163 rfl rfl ?_
      refine G_iconst pX8_from_164 ic_0 ?_
      refine G_iconst pX8_from_165 ic_1 ?_
      refine G_iload_n (i := 3) pX8_from_166 rfl rfl ?_
      refine G_iload (i := 6) pX8_from_167 rfl ?_
      refine G_callV4i (b := 64) (ci := 8) (N := 5) pX8_from_169 (hR_X8_from _ (0 : Int32) (1 : Int32) a3 v5 _ _ hrf h) mV_X8_from ml_RX8_36 (Nat.le_refl _) ⟨Nat.le_refl _, Nat.le_refl _, Nat.le_refl _⟩ (Nat.le_of_ble_eq_true rfl) ltk_64 shk_64 rfl ?_
      intro r18 rf m17 hrf h hr18
      refine G_aload_n (i := 0) pX8_from_172 rfl rfl ?_
      refine G_iconst pX8_from_173 ic_2 ?_
      refine G_iconst pX8_from_174 ic_1 ?_
      refine G_iload (i := 6) pX8_from_175 rfl ?_
      refine G_callV3i (b := 64) (ci := 8) (N := 5) pX8_from_177 (hR_X8_own _ (2 : Int32) (1 : Int32) v5 _ _ hrf h) mV_X8_own ml_RX8_32 (Nat.le_refl _) ⟨Nat.le_refl _, Nat.le_refl _, Nat.le_refl _⟩ (Nat.le_of_ble_eq_true rfl) ltk_64 shk_64 rfl ?_
      intro r20 rf m19 hrf h hr20
      refine G_isub pX8_from_180 ?_
      exact G_ireturn (len := 1) pX8_from_181 ⟨hrf, _, rfl, h⟩ ⟨_, rfl, rfl⟩
    by_cases c21 : r3 = (30 : Int32)
    · have h := h.2.2.2.2.2.1 c21
      refine G_lsE (v := (30 : Int32)) (off := 152) (tgt := 182) pX8_from_30 c21 (by decide) (by decide) (by decide) ?_
      refine G_aload_n (i := 0) pX8_from_182 rfl rfl ?_
      refine G_iconst pX8_from_183 ic_0 ?_
      refine G_iconst pX8_from_184 ic_2 ?_
      refine G_iload_n (i := 3) pX8_from_185 rfl rfl ?_
      refine G_iload (i := 6) pX8_from_186 rfl ?_
      refine G_callV4i (b := 64) (ci := 8) (N := 5) pX8_from_188 (hR_X8_from _ (0 : Int32) (2 : Int32) a3 v5 _ _ hrf h) mV_X8_from ml_RX8_36 (Nat.le_refl _) ⟨Nat.le_refl _, Nat.le_refl _, Nat.le_refl _⟩ (Nat.le_of_ble_eq_true rfl) ltk_64 shk_64 rfl ?_
      intro r23 rf m22 hrf h hr23
      refine G_ineg pX8_from_191 ?_
      exact G_ireturn (len := 1) pX8_from_192 ⟨hrf, _, rfl, h⟩ ⟨_, rfl, rfl⟩
    by_cases c24 : r3 = (40 : Int32)
    · have h := h.2.2.2.2.2.2.1 c24
      refine G_lsE (v := (40 : Int32)) (off := 163) (tgt := 193) pX8_from_30 c24 (by decide) (by decide) (by decide) ?_
      refine G_aload_n (i := 0) pX8_from_193 rfl rfl ?_
      refine G_iconst pX8_from_194 ic_0 ?_
      refine G_iconst pX8_from_195 ic_0 ?_
      refine G_iload_n (i := 3) pX8_from_196 rfl rfl ?_
      refine G_iload (i := 6) pX8_from_197 rfl ?_
      refine G_callV4i (b := 64) (ci := 8) (N := 5) pX8_from_199 (hR_X8_from _ (0 : Int32) (0 : Int32) a3 v5 _ _ hrf h) mV_X8_from ml_RX8_36 (Nat.le_refl _) ⟨Nat.le_refl _, Nat.le_refl _, Nat.le_refl _⟩ (Nat.le_of_ble_eq_true rfl) ltk_64 shk_64 rfl ?_
      intro r26 rf m25 hrf h hr26
      refine G_iconst pX8_from_202 ic_3 ?_
      refine G_imul pX8_from_203 ?_
      exact G_ireturn (len := 1) pX8_from_204 ⟨hrf, _, rfl, h⟩ ⟨_, rfl, rfl⟩
    by_cases c27 : r3 = (50 : Int32)
    · have h := h.2.2.2.2.2.2.2.1 c27
      refine G_lsE (v := (50 : Int32)) (off := 175) (tgt := 205) pX8_from_30 c27 (by decide) (by decide) (by decide) ?_
      refine G_aload_n (i := 0) pX8_from_205 rfl rfl ?_
      refine G_iconst pX8_from_206 ic_2 ?_
      refine G_iconst pX8_from_207 ic_2 ?_
      refine G_iload_n (i := 3) pX8_from_208 rfl rfl ?_
      refine G_iload (i := 6) pX8_from_209 rfl ?_
      refine G_callV4i (b := 64) (ci := 8) (N := 5) pX8_from_211 (hR_X8_from _ (2 : Int32) (2 : Int32) a3 v5 _ _ hrf h) mV_X8_from ml_RX8_36 (Nat.le_refl _) ⟨Nat.le_refl _, Nat.le_refl _, Nat.le_refl _⟩ (Nat.le_of_ble_eq_true rfl) ltk_64 shk_64 rfl ?_
      intro r29 rf m28 hrf h hr29
      refine G_aload_n (i := 0) pX8_from_214 rfl rfl ?_
      refine G_getI (ci := 8) (j := 3) (N := 5) pX8_from_215 fl_RX8_22 rfl ltk_64 shk_64 (by decide) rfl ?_
      refine G_ixor pX8_from_218 ?_
      exact G_ireturn (len := 1) pX8_from_219 ⟨hrf, _, rfl, h⟩ ⟨_, rfl, rfl⟩
    by_cases c30 : r3 = (51 : Int32)
    · have h := h.2.2.2.2.2.2.2.2.1 c30
      refine G_lsE (v := (51 : Int32)) (off := 190) (tgt := 220) pX8_from_30 c30 (by decide) (by decide) (by decide) ?_
      refine G_aload_n (i := 0) pX8_from_220 rfl rfl ?_
      refine G_iconst pX8_from_221 ic_1 ?_
      refine G_iload_n (i := 3) pX8_from_222 rfl rfl ?_
      refine G_iload (i := 6) pX8_from_223 rfl ?_
      refine G_callV3i (b := 64) (ci := 8) (N := 5) pX8_from_225 (hR_X8_own _ (1 : Int32) a3 v5 _ _ hrf h) mV_X8_own ml_RX8_32 (Nat.le_refl _) ⟨Nat.le_refl _, Nat.le_refl _, Nat.le_refl _⟩ (Nat.le_of_ble_eq_true rfl) ltk_64 shk_64 rfl ?_
      intro r32 rf m31 hrf h hr32
      refine G_aload_n (i := 0) pX8_from_228 rfl rfl ?_
      refine G_iconst pX8_from_229 ic_2 ?_
      refine G_iconst pX8_from_230 ic_3 ?_
      refine G_iload_n (i := 3) pX8_from_231 rfl rfl ?_
      refine G_iload (i := 6) pX8_from_232 rfl ?_
      refine G_callV4i (b := 64) (ci := 8) (N := 5) pX8_from_234 (hR_X8_from _ (2 : Int32) (3 : Int32) a3 v5 _ _ hrf h) mV_X8_from ml_RX8_36 (Nat.le_refl _) ⟨Nat.le_refl _, Nat.le_refl _, Nat.le_refl _⟩ (Nat.le_of_ble_eq_true rfl) ltk_64 shk_64 rfl ?_
      intro r34 rf m33 hrf h hr34
      refine G_isub pX8_from_237 ?_
      exact G_ireturn (len := 1) pX8_from_238 ⟨hrf, _, rfl, h⟩ ⟨_, rfl, rfl⟩
    by_cases c35 : r3 = (60 : Int32)
    · have h := h.2.2.2.2.2.2.2.2.2.1 c35
      refine G_lsE (v := (60 : Int32)) (off := 209) (tgt := 239) pX8_from_30 c35 (by decide) (by decide) (by decide) ?_
      refine G_aload_n (i := 0) pX8_from_239 rfl rfl ?_
      refine G_iconst pX8_from_240 ic_3 ?_
      refine G_iconst pX8_from_241 ic_3 ?_
      refine G_iload_n (i := 3) pX8_from_242 rfl rfl ?_
      refine G_iload (i := 6) pX8_from_243 rfl ?_
      refine G_callV4i (b := 64) (ci := 8) (N := 5) pX8_from_245 (hR_X8_from _ (3 : Int32) (3 : Int32) a3 v5 _ _ hrf h) mV_X8_from ml_RX8_36 (Nat.le_refl _) ⟨Nat.le_refl _, Nat.le_refl _, Nat.le_refl _⟩ (Nat.le_of_ble_eq_true rfl) ltk_64 shk_64 rfl ?_
      intro r37 rf m36 hrf h hr37
      refine G_aload_n (i := 0) pX8_from_248 rfl rfl ?_
      refine G_iconst pX8_from_249 ic_0 ?_
      refine G_iconst pX8_from_250 ic_2 ?_
      refine G_iload (i := 6) pX8_from_251 rfl ?_
      refine G_callV3i (b := 64) (ci := 8) (N := 5) pX8_from_253 (hR_X8_own _ (0 : Int32) (2 : Int32) v5 _ _ hrf h) mV_X8_own ml_RX8_32 (Nat.le_refl _) ⟨Nat.le_refl _, Nat.le_refl _, Nat.le_refl _⟩ (Nat.le_of_ble_eq_true rfl) ltk_64 shk_64 rfl ?_
      intro r39 rf m38 hrf h hr39
      refine G_isub pX8_from_256 ?_
      exact G_ireturn (len := 1) pX8_from_257 ⟨hrf, _, rfl, h⟩ ⟨_, rfl, rfl⟩
    refine G_ls (off := 228) (tgt := 258) pX8_from_30 (by decide) ((lv_osw c6 (by decide)).trans ((lv_osw c7 (by decide)).trans ((lv_osw c10 (by decide)).trans ((lv_osw c11 (by decide)).trans ((lv_osw c16 (by decide)).trans ((lv_osw c21 (by decide)).trans ((lv_osw c24 (by decide)).trans ((lv_osw c27 (by decide)).trans ((lv_osw c30 (by decide)).trans ((lv_osw c35 (by decide)).trans rfl)))))))))) (by decide) ?_
    have h := h.2.2.2.2.2.2.2.2.2.2 c6 c7 c10 c11 c16 c21 c24 c27 c30 c35
    refine G_aload_n (i := 0) pX8_from_258 rfl rfl ?_
    refine G_iconst pX8_from_259 ic_1 ?_
    refine G_iconst pX8_from_260 ic_1 ?_
    refine G_iload_n (i := 3) pX8_from_261 rfl rfl ?_
    refine G_iconst pX8_from_262 ic_1 ?_
    refine G_iadd pX8_from_263 ?_
    refine G_iload (i := 6) pX8_from_264 rfl ?_
    refine G_callV4i (b := 64) (ci := 8) (N := 5) pX8_from_266 (hR_X8_from _ (1 : Int32) (1 : Int32) (a3 + (1 : Int32)) v5 _ _ hrf h) mV_X8_from ml_RX8_36 (Nat.le_refl _) ⟨Nat.le_refl _, Nat.le_refl _, Nat.le_refl _⟩ (Nat.le_of_ble_eq_true rfl) ltk_64 shk_64 rfl ?_
    intro r41 rf m40 hrf h hr41
    exact G_ireturn (len := 1) pX8_from_269 ⟨hrf, _, rfl, h⟩ ⟨_, rfl, rfl⟩
  · have h := h.2 c1
    refine G_iconst pX8_from_7 ic_0 ?_
    exact G_ireturn (len := 1) pX8_from_8 ⟨hrf, _, rfl, h⟩ ⟨_, rfl, rfl⟩
def WW_X8_own (n : Nat) : (Int32 → Int32 → Int32 → MMt → (Int32 → MMt → Prop) → Prop) × (Int32 → Int32 → Int32 → Int32 → MMt → (Int32 → MMt → Prop) → Prop) := Nat.rec (motive := fun _ => (Int32 → Int32 → Int32 → MMt → (Int32 → MMt → Prop) → Prop) × (Int32 → Int32 → Int32 → Int32 → MMt → (Int32 → MMt → Prop) → Prop)) ((fun _ _ _ _ _ => False), (fun _ _ _ _ _ _ => False)) (fun _ ih => (L_X8_own (ih.1) (ih.2), L_X8_from (ih.1) (ih.2))) n
def W_X8_own (n : Nat) : Int32 → Int32 → Int32 → MMt → (Int32 → MMt → Prop) → Prop := (WW_X8_own n).1
def W_X8_from (n : Nat) : Int32 → Int32 → Int32 → Int32 → MMt → (Int32 → MMt → Prop) → Prop := (WW_X8_own n).2
theorem W_X8_own_s (n : Nat) : W_X8_own (n + 1) = L_X8_own (W_X8_own n) (W_X8_from n) := rfl
theorem W_X8_from_s (n : Nat) : W_X8_from (n + 1) = L_X8_from (W_X8_own n) (W_X8_from n) := rfl
theorem gWW_X8_own {sx : Nat × (Nat → Int32)} (n : Nat) : (∀ (rf : RFt) (a1 : Int32) (a2 : Int32) (a3 : Int32) (mem : MMt) (Q : Int32 → MMt → Prop), RFok rf → W_X8_own n a1 a2 a3 mem Q → Ct sx yX8_own cX8_own 4 (some .int) (1 + n) [.ref 64, .int a1, .int a2, .int a3] NX NX rf mem (QQi (RFok) Q)) ∧ (∀ (rf : RFt) (a1 : Int32) (a2 : Int32) (a3 : Int32) (a4 : Int32) (mem : MMt) (Q : Int32 → MMt → Prop), RFok rf → W_X8_from n a1 a2 a3 a4 mem Q → Ct sx yX8_from cX8_from 7 (some .int) (1 + n) [.ref 64, .int a1, .int a2, .int a3, .int a4] NX NX rf mem (QQi (RFok) Q)) := by
  induction n with
  | zero => exact ⟨fun rf a1 a2 a3 mem Q hrf h => h.elim, fun rf a1 a2 a3 a4 mem Q hrf h => h.elim⟩
  | succ n ih =>
    exact ⟨fun rf a1 a2 a3 mem Q hrf h => g_X8_own (d0 := 1 + n) (by omega) (ih.1) (ih.2) a1 a2 a3 hrf mem h, fun rf a1 a2 a3 a4 mem Q hrf h => g_X8_from (d0 := 1 + n) (by omega) (ih.1) (ih.2) a1 a2 a3 a4 hrf mem h⟩
theorem gW_X8_own {sx : Nat × (Nat → Int32)} (n : Nat) {rf : RFt} {Q : Int32 → MMt → Prop} (a1 : Int32) (a2 : Int32) (a3 : Int32) (hrf : RFok rf) (mem : MMt) (h : W_X8_own n a1 a2 a3 mem Q) : Ct sx yX8_own cX8_own 4 (some .int) (1 + n) [.ref 64, .int a1, .int a2, .int a3] NX NX rf mem (QQi (RFok) Q) := (gWW_X8_own n).1 rf a1 a2 a3 mem Q hrf h
theorem gW_X8_from {sx : Nat × (Nat → Int32)} (n : Nat) {rf : RFt} {Q : Int32 → MMt → Prop} (a1 : Int32) (a2 : Int32) (a3 : Int32) (a4 : Int32) (hrf : RFok rf) (mem : MMt) (h : W_X8_from n a1 a2 a3 a4 mem Q) : Ct sx yX8_from cX8_from 7 (some .int) (1 + n) [.ref 64, .int a1, .int a2, .int a3, .int a4] NX NX rf mem (QQi (RFok) Q) := (gWW_X8_own n).2 rf a1 a2 a3 a4 mem Q hrf h
def L_X8_speak (a1 : Nat) (a2 : Int32) (a3 : Int32) (a4 : Int32) (mem : MMt) (Q : Int32 → MMt → Prop) : Prop := (∀ m1 : MMt, m1 = up2 mem 64 2 (mem a1 0) → (∀ m2 : MMt, m2 = up2 m1 64 3 a2 → (∀ m3 : MMt, m3 = up2 m2 64 4 (m2 a1 1) → (∀ m4 : MMt, m4 = up2 m3 64 1 (0 : Int32) → W_X8_own 60 a3 a4 (0 : Int32) m4 (fun r6 m5 => Q r6 m5)))))
set_option maxRecDepth 4000 in
theorem g_X8_speak {sx : Nat × (Nat → Int32)} {rf : RFt} {Q : Int32 → MMt → Prop} (a1 : Nat) (a2 : Int32) (a3 : Int32) (a4 : Int32) (ha1 : IS 1 a1) (hrf : RFok rf) (mem : MMt) (h : L_X8_speak a1 a2 a3 a4 mem Q) : Ct sx yX8_speak cX8_speak 5 (some .int) 63 [.ref 64, .ref a1, .int a2, .int a3, .int a4] NX NX rf mem (QQi (RFok) Q) := by
  refine Ct_of [some (.ref 64), some (.ref a1), some (.int a2), some (.int a3), some (.int a4)] (by decide +kernel) (by simp [Lof, Value.category]) rfl ?_
  unfold L_X8_speak at h
  refine G_aload_n (i := 0) pX8_speak_0 rfl rfl ?_
  refine G_aload_n (i := 1) pX8_speak_1 rfl rfl ?_
  refine G_getI (ci := 1) (j := 0) (N := 5) pX8_speak_2 fl_RX8_15 rfl ha1.2 ha1.sh1 (by decide) rfl ?_
  obtain ⟨m1, em1⟩ : ∃ z : MMt, z = up2 mem 64 2 (mem a1 0) := ⟨_, rfl⟩
  have h := h m1 em1
  refine G_putIW (ci := 8) (j := 2) (N := 5) pX8_speak_5 fw_RX8_21 rfl ltk_64 shk_64 (by decide) rfl (fun _ => ⟨rfl, rfl⟩) em1.symm ?_
  refine G_aload_n (i := 0) pX8_speak_8 rfl rfl ?_
  refine G_iload_n (i := 2) pX8_speak_9 rfl rfl ?_
  obtain ⟨m2, em2⟩ : ∃ z : MMt, z = up2 m1 64 3 a2 := ⟨_, rfl⟩
  have h := h m2 em2
  refine G_putIW (ci := 8) (j := 3) (N := 5) pX8_speak_10 fw_RX8_22 rfl ltk_64 shk_64 (by decide) rfl (fun _ => ⟨rfl, rfl⟩) em2.symm ?_
  refine G_aload_n (i := 0) pX8_speak_13 rfl rfl ?_
  refine G_aload_n (i := 1) pX8_speak_14 rfl rfl ?_
  refine G_getI (ci := 1) (j := 1) (N := 5) pX8_speak_15 fl_RX8_25 rfl ha1.2 ha1.sh1 (by decide) rfl ?_
  obtain ⟨m3, em3⟩ : ∃ z : MMt, z = up2 m2 64 4 (m2 a1 1) := ⟨_, rfl⟩
  have h := h m3 em3
  refine G_putIW (ci := 8) (j := 4) (N := 5) pX8_speak_18 fw_RX8_28 rfl ltk_64 shk_64 (by decide) rfl (fun _ => ⟨rfl, rfl⟩) em3.symm ?_
  refine G_aload_n (i := 0) pX8_speak_21 rfl rfl ?_
  refine G_iconst pX8_speak_22 ic_0 ?_
  obtain ⟨m4, em4⟩ : ∃ z : MMt, z = up2 m3 64 1 (0 : Int32) := ⟨_, rfl⟩
  have h := h m4 em4
  refine G_putIW (ci := 8) (j := 1) (N := 5) pX8_speak_23 fw_RX8_29 rfl ltk_64 shk_64 (by decide) rfl (fun _ => ⟨rfl, rfl⟩) em4.symm ?_
  refine G_aload_n (i := 0) pX8_speak_26 rfl rfl ?_
  refine G_iload_n (i := 3) pX8_speak_27 rfl rfl ?_
  refine G_iload (i := 4) pX8_speak_28 rfl ?_
  refine G_iconst pX8_speak_30 ic_0 ?_
  refine G_callV3i (b := 64) (ci := 8) (N := 5) pX8_speak_31 (gW_X8_own 60 a3 a4 (0 : Int32) hrf _ h) mV_X8_own ml_RX8_32 (by decide) ⟨Nat.le_refl _, Nat.le_refl _, Nat.le_refl _⟩ (Nat.le_of_ble_eq_true rfl) ltk_64 shk_64 rfl ?_
  intro r6 rf m5 hrf h hr6
  exact G_ireturn (len := 1) pX8_speak_34 ⟨hrf, _, rfl, h⟩ ⟨_, rfl, rfl⟩
def L_X9_voice (a1 : Int32) (a2 : Int32) (a3 : Int32) (mem : MMt) (Q : Int32 → MMt → Prop) : Prop := L_X9_isGood a1 mem (fun r2 m1 => ((r2 = 0 → L_X9_error (1 : Int32) m1 (fun r5 m4 => Q r5 m4)) ∧ (¬ r2 = 0 → L_X9_within a2 (0 : Int32) (3 : Int32) m1 (fun r7 m6 => ((¬ r7 = 0 → (vp_in a1 8 ∧ L_X8_speak (1 + 2 + a1.toNatClampNeg) a1 a2 a3 m6 (fun r11 m10 => Q r11 m10))) ∧ (r7 = 0 → L_X9_error (1 : Int32) m6 (fun r13 m12 => Q r13 m12)))))))
set_option maxRecDepth 4000 in
theorem g_X9_voice {sx : Nat × (Nat → Int32)} {rf : RFt} {Q : Int32 → MMt → Prop} (a1 : Int32) (a2 : Int32) (a3 : Int32) (hrf : RFok rf) (mem : MMt) (h : L_X9_voice a1 a2 a3 mem Q) : Ct sx yX9_voice cX9_voice 4 (some .int) 64 [.ref 0, .int a1, .int a2, .int a3] NX NX rf mem (QQi (RFok) Q) := by
  refine Ct_of [some (.ref 0), some (.int a1), some (.int a2), some (.int a3)] (by decide +kernel) (by simp [Lof, Value.category]) rfl ?_
  unfold L_X9_voice at h
  refine G_aload_n (i := 0) pX9_voice_0 rfl rfl ?_
  refine G_iload_n (i := 1) pX9_voice_1 rfl rfl ?_
  refine G_callV1i (b := 0) (ci := 9) (N := 12) pX9_voice_2 (g_X9_isGood a1 hrf _ h) mV_X9_isGood ml_RX9_101 (by decide) ⟨Nat.le_refl _, Nat.le_refl _, Nat.le_refl _⟩ (Nat.le_of_ble_eq_true rfl) ltk_0 shk_0 rfl ?_
  intro r2 rf m1 hrf h hr2
  refine G_if_eq pX9_voice_5 (fun c3 => ?_) (fun c3 => ?_)
  · have h := h.1 c3
    refine G_aload_n (i := 0) pX9_voice_17 rfl rfl ?_
    refine G_iconst pX9_voice_18 ic_1 ?_
    refine G_callV1i (b := 0) (ci := 9) (N := 12) pX9_voice_19 (g_X9_error (1 : Int32) hrf _ h) mV_X9_error ml_RX9_80 (by decide) ⟨Nat.le_refl _, Nat.le_refl _, Nat.le_refl _⟩ (Nat.le_of_ble_eq_true rfl) ltk_0 shk_0 rfl ?_
    intro r5 rf m4 hrf h hr5
    exact G_ireturn (len := 1) pX9_voice_22 ⟨hrf, _, rfl, h⟩ ⟨_, rfl, rfl⟩
  · have h := h.2 c3
    refine G_iload_n (i := 2) pX9_voice_8 rfl rfl ?_
    refine G_iconst pX9_voice_9 ic_0 ?_
    refine G_iconst pX9_voice_10 ic_3 ?_
    refine G_callS3i pX9_voice_11 (g_X9_within a2 (0 : Int32) (3 : Int32) hrf _ h) mS_X9_within ml_RX9_104 (by decide) ⟨Nat.le_refl _, Nat.le_refl _, Nat.le_refl _⟩ (Nat.le_of_ble_eq_true rfl) ?_
    intro r7 rf m6 hrf h hr7
    refine G_if_ne pX9_voice_14 (fun c8 => ?_) (fun c8 => ?_)
    · have h := h.1 c8
      refine G_aload_n (i := 0) pX9_voice_23 rfl rfl ?_
      refine G_getR (ci := 9) (j := 8) (N := 12) pX9_voice_24 fl_RX9_58 rfl ltk_0 shk_0 (by decide) rfl (hrf.lit 0 8 rfl) ?_
      refine G_aload_n (i := 0) pX9_voice_27 rfl rfl ?_
      refine G_getR (ci := 9) (j := 0) (N := 12) pX9_voice_28 fl_RX9_10 rfl ltk_0 shk_0 (by decide) rfl (hrf.lit 0 0 rfl) ?_
      refine G_getR (ci := 0) (j := 0) (N := 4) pX9_voice_31 fl_RX9_88 rfl ltk_1 shk_1 (by decide) rfl (hrf.lit 1 0 rfl) ?_
      refine G_iload_n (i := 1) pX9_voice_34 rfl rfl ?_
      obtain ⟨hi9, h⟩ := h
      refine G_aald pX9_voice_35 ltk_2 shk_2 (by decide) hi9 (gd_rf (IS_lit shk_1 ltk_1) hrf hi9) ?_
      refine G_iload_n (i := 1) pX9_voice_36 rfl rfl ?_
      refine G_iload_n (i := 2) pX9_voice_37 rfl rfl ?_
      refine G_iload_n (i := 3) pX9_voice_38 rfl rfl ?_
      refine G_callV4i (b := 64) (ci := 8) (N := 5) pX9_voice_39 (g_X8_speak (1 + 2 + a1.toNatClampNeg) a1 a2 a3 (gd_in (IS_lit shk_1 ltk_1) hi9) hrf _ h) mV_X8_speak ml_RX9_273 (by decide) ⟨Nat.le_refl _, Nat.le_refl _, Nat.le_refl _⟩ (Nat.le_of_ble_eq_true rfl) ltk_64 shk_64 rfl ?_
      intro r11 rf m10 hrf h hr11
      exact G_ireturn (len := 1) pX9_voice_42 ⟨hrf, _, rfl, h⟩ ⟨_, rfl, rfl⟩
    · have h := h.2 c8
      refine G_aload_n (i := 0) pX9_voice_17 rfl rfl ?_
      refine G_iconst pX9_voice_18 ic_1 ?_
      refine G_callV1i (b := 0) (ci := 9) (N := 12) pX9_voice_19 (g_X9_error (1 : Int32) hrf _ h) mV_X9_error ml_RX9_80 (by decide) ⟨Nat.le_refl _, Nat.le_refl _, Nat.le_refl _⟩ (Nat.le_of_ble_eq_true rfl) ltk_0 shk_0 rfl ?_
      intro r13 rf m12 hrf h hr13
      exact G_ireturn (len := 1) pX9_voice_22 ⟨hrf, _, rfl, h⟩ ⟨_, rfl, rfl⟩
def L_X9_trace (a1 : Int32) (mem : MMt) (Q : Int32 → MMt → Prop) : Prop := L_X9_within a1 (0 : Int32) ((mem 64 1) - (1 : Int32)) mem (fun r2 m1 => ((r2 = 0 → L_X9_error (2 : Int32) m1 (fun r5 m4 => Q r5 m4)) ∧ (¬ r2 = 0 → (vp_in a1 40 ∧ Q (m1 65 a1.toNatClampNeg) m1))))
set_option maxRecDepth 4000 in
theorem g_X9_trace {sx : Nat × (Nat → Int32)} {rf : RFt} {Q : Int32 → MMt → Prop} (a1 : Int32) (hrf : RFok rf) (mem : MMt) (h : L_X9_trace a1 mem Q) : Ct sx yX9_trace cX9_trace 2 (some .int) 2 [.ref 0, .int a1] NX NX rf mem (QQi (RFok) Q) := by
  refine Ct_of [some (.ref 0), some (.int a1)] (by decide +kernel) (by simp [Lof, Value.category]) rfl ?_
  unfold L_X9_trace at h
  refine G_iload_n (i := 1) pX9_trace_0 rfl rfl ?_
  refine G_iconst pX9_trace_1 ic_0 ?_
  refine G_aload_n (i := 0) pX9_trace_2 rfl rfl ?_
  refine G_getR (ci := 9) (j := 8) (N := 12) pX9_trace_3 fl_RX9_58 rfl ltk_0 shk_0 (by decide) rfl (hrf.lit 0 8 rfl) ?_
  refine G_getI (ci := 8) (j := 1) (N := 5) pX9_trace_6 fl_RX9_276 rfl ltk_64 shk_64 (by decide) rfl ?_
  refine G_iconst pX9_trace_9 ic_1 ?_
  refine G_isub pX9_trace_10 ?_
  refine G_callS3i pX9_trace_11 (g_X9_within a1 (0 : Int32) ((mem 64 1) - (1 : Int32)) hrf _ h) mS_X9_within ml_RX9_104 (by decide) ⟨Nat.le_refl _, Nat.le_refl _, Nat.le_refl _⟩ (Nat.le_of_ble_eq_true rfl) ?_
  intro r2 rf m1 hrf h hr2
  refine G_if_eq pX9_trace_14 (fun c3 => ?_) (fun c3 => ?_)
  · have h := h.1 c3
    refine G_aload_n (i := 0) pX9_trace_29 rfl rfl ?_
    refine G_iconst pX9_trace_30 ic_2 ?_
    refine G_callV1i (b := 0) (ci := 9) (N := 12) pX9_trace_31 (g_X9_error (2 : Int32) hrf _ h) mV_X9_error ml_RX9_80 (by decide) ⟨Nat.le_refl _, Nat.le_refl _, Nat.le_refl _⟩ (Nat.le_of_ble_eq_true rfl) ltk_0 shk_0 rfl ?_
    intro r5 rf m4 hrf h hr5
    exact G_ireturn (len := 1) pX9_trace_34 ⟨hrf, _, rfl, h⟩ ⟨_, rfl, rfl⟩
  · have h := h.2 c3
    refine G_aload_n (i := 0) pX9_trace_17 rfl rfl ?_
    refine G_getR (ci := 9) (j := 8) (N := 12) pX9_trace_18 fl_RX9_58 rfl ltk_0 shk_0 (by decide) rfl (hrf.lit 0 8 rfl) ?_
    refine G_getR (ci := 8) (j := 0) (N := 5) pX9_trace_21 fl_RX9_279 rfl ltk_64 shk_64 (by decide) rfl (hrf.lit 64 0 rfl) ?_
    refine G_iload_n (i := 1) pX9_trace_24 rfl rfl ?_
    obtain ⟨hi6, h⟩ := h
    refine G_iald pX9_trace_25 ltk_65 shk_65 hi6 ?_
    refine G_goto pX9_trace_26 ?_
    exact G_ireturn (len := 1) pX9_trace_34 ⟨hrf, _, rfl, h⟩ ⟨_, rfl, rfl⟩
def L_X6_clear (q0 : Nat) (a1 : Int32) (a2 : Int32) (mem : MMt) (Q : MMt → Prop) : Prop := (∀ m1 : MMt, m1 = up2 mem q0 0 a1 → (∀ m2 : MMt, m2 = up2 m1 q0 1 a2 → L_J7_fill_53178 (q0 + 1) 40 (0 : Int32) m2 (fun m3 => Q m3)))
set_option maxRecDepth 4000 in
theorem g_X6_clear {sx : Nat × (Nat → Int32)} {rf : RFt} {Q : MMt → Prop} (q0 : Nat) (a1 : Int32) (a2 : Int32) (hq0 : IS 6 q0) (hrf : RFok rf) (mem : MMt) (h : L_X6_clear q0 a1 a2 mem Q) : Ct sx yX6_clear cX6_clear 3 none 2 [.ref q0, .int a1, .int a2] NX NX rf mem (QQv (RFok) Q) := by
  refine Ct_of [some (.ref q0), some (.int a1), some (.int a2)] (by decide +kernel) (by simp [Lof, Value.category]) rfl ?_
  unfold L_X6_clear at h
  refine G_aload_n (i := 0) pX6_clear_0 rfl rfl ?_
  refine G_iload_n (i := 1) pX6_clear_1 rfl rfl ?_
  obtain ⟨m1, em1⟩ : ∃ z : MMt, z = up2 mem q0 0 a1 := ⟨_, rfl⟩
  have h := h m1 em1
  refine G_putIW (ci := 6) (j := 0) (N := 3) pX6_clear_2 fw_RX6_15 rfl hq0.2 hq0.sh6 (by decide) rfl (fun _ => ⟨rfl, rfl⟩) em1.symm ?_
  refine G_aload_n (i := 0) pX6_clear_5 rfl rfl ?_
  refine G_iload_n (i := 2) pX6_clear_6 rfl rfl ?_
  obtain ⟨m2, em2⟩ : ∃ z : MMt, z = up2 m1 q0 1 a2 := ⟨_, rfl⟩
  have h := h m2 em2
  refine G_putIW (ci := 6) (j := 1) (N := 3) pX6_clear_7 fw_RX6_19 rfl hq0.2 hq0.sh6 (by decide) rfl (fun _ => ⟨rfl, rfl⟩) em2.symm ?_
  refine G_aload_n (i := 0) pX6_clear_10 rfl rfl ?_
  refine G_getR (ci := 6) (j := 2) (N := 3) pX6_clear_11 fl_RX6_9 rfl hq0.2 hq0.sh6 (by decide) rfl ((lay_6_2 hq0).2.2 hrf) ?_
  refine G_iconst pX6_clear_14 ic_0 ?_
  refine G_callS2v pX6_clear_15 (g_J7_fill_53178 (q0 + 1) 40 (0 : Int32) (lay_6_2 hq0).1 (lay_6_2 hq0).2.1 hrf _ h) mS_J7_fill_53178 ml_RX6_22 (by decide) ⟨Nat.le_refl _, Nat.le_refl _, Nat.le_refl _⟩ (Nat.le_of_ble_eq_true rfl) ?_
  intro rf m3 hrf h
  exact G_return (len := 1) pX6_clear_18 ⟨hrf, rfl, h⟩ rfl
def B_X9_sheet_65 (x1 : Int32) (x2 : Int32) (x3 : Int32) (mem : MMt) (Q : Int32 → MMt → Prop) : Prop := (vp_in x1 4 ∧ ((¬ x2 = 0 → L_X6_clear (68 + 2 * x1.toNatClampNeg) x2 x3 mem (fun m3 => Q (1 : Int32) m3)) ∧ (x2 = 0 → L_X6_clear (68 + 2 * x1.toNatClampNeg) x2 (0 : Int32) mem (fun m4 => Q (1 : Int32) m4))))
set_option maxRecDepth 4000 in
theorem gB_X9_sheet_65 {sx : Nat × (Nat → Int32)} {rf : RFt} {Q : Int32 → MMt → Prop} (hrf : RFok rf) (x1 : Int32) (x2 : Int32) (x3 : Int32) (mem : MMt) (h : B_X9_sheet_65 x1 x2 x3 mem Q) : G sx yX9_sheet cX9_sheet 4 (some .int) 3 NX NX (QQi (RFok) Q) NX rf mem 65 [some (.ref 0), some (.int x1), some (.int x2), some (.int x3)] [] := by
  unfold B_X9_sheet_65 at h
  refine G_aload_n (i := 0) pX9_sheet_65 rfl rfl ?_
  refine G_getR (ci := 9) (j := 9) (N := 12) pX9_sheet_66 fl_RX9_64 rfl ltk_0 shk_0 (by decide) rfl (hrf.lit 0 9 rfl) ?_
  refine G_iload_n (i := 1) pX9_sheet_69 rfl rfl ?_
  obtain ⟨hi1, h⟩ := h
  refine G_aald pX9_sheet_70 ltk_66 shk_66 (by decide) hi1 (st_rf hrf hi1) ?_
  refine G_iload_n (i := 2) pX9_sheet_71 rfl rfl ?_
  refine G_iload_n (i := 2) pX9_sheet_72 rfl rfl ?_
  refine G_if_ne pX9_sheet_73 (fun c2 => ?_) (fun c2 => ?_)
  · have h := h.1 c2
    refine G_iload_n (i := 3) pX9_sheet_80 rfl rfl ?_
    refine G_callV2v (b := 68 + 2 * x1.toNatClampNeg) (ci := 6) (N := 3) pX9_sheet_81 (g_X6_clear (68 + 2 * x1.toNatClampNeg) x2 x3 (st_in hi1) hrf _ h) mV_X6_clear ml_RX9_282 (by decide) ⟨Nat.le_refl _, Nat.le_refl _, Nat.le_refl _⟩ (Nat.le_of_ble_eq_true rfl) (st_in hi1).2 (st_in hi1).sh6 rfl ?_
    intro rf m3 hrf h
    refine G_iconst pX9_sheet_84 ic_1 ?_
    exact G_ireturn (len := 1) pX9_sheet_85 ⟨hrf, _, rfl, h⟩ ⟨_, rfl, rfl⟩
  · have h := h.2 c2
    refine G_iconst pX9_sheet_76 ic_0 ?_
    refine G_goto pX9_sheet_77 ?_
    refine G_callV2v (b := 68 + 2 * x1.toNatClampNeg) (ci := 6) (N := 3) pX9_sheet_81 (g_X6_clear (68 + 2 * x1.toNatClampNeg) x2 (0 : Int32) (st_in hi1) hrf _ h) mV_X6_clear ml_RX9_282 (by decide) ⟨Nat.le_refl _, Nat.le_refl _, Nat.le_refl _⟩ (Nat.le_of_ble_eq_true rfl) (st_in hi1).2 (st_in hi1).sh6 rfl ?_
    intro rf m4 hrf h
    refine G_iconst pX9_sheet_84 ic_1 ?_
    exact G_ireturn (len := 1) pX9_sheet_85 ⟨hrf, _, rfl, h⟩ ⟨_, rfl, rfl⟩
def B_X9_sheet_49 (x1 : Int32) (x2 : Int32) (x3 : Int32) (mem : MMt) (Q : Int32 → MMt → Prop) : Prop := ((x2 = 0 → B_X9_sheet_65 x1 x2 x3 mem Q) ∧ (¬ x2 = 0 → ((x3 ≤ (40 : Int32) → B_X9_sheet_65 x1 x2 x3 mem Q) ∧ (¬ x3 ≤ (40 : Int32) → L_X9_error (1 : Int32) mem (fun r4 m3 => Q r4 m3)))))
set_option maxRecDepth 4000 in
theorem gB_X9_sheet_49 {sx : Nat × (Nat → Int32)} {rf : RFt} {Q : Int32 → MMt → Prop} (hrf : RFok rf) (x1 : Int32) (x2 : Int32) (x3 : Int32) (mem : MMt) (h : B_X9_sheet_49 x1 x2 x3 mem Q) : G sx yX9_sheet cX9_sheet 4 (some .int) 3 NX NX (QQi (RFok) Q) NX rf mem 49 [some (.ref 0), some (.int x1), some (.int x2), some (.int x3)] [] := by
  unfold B_X9_sheet_49 at h
  refine G_iload_n (i := 2) pX9_sheet_49 rfl rfl ?_
  refine G_if_eq pX9_sheet_50 (fun c1 => ?_) (fun c1 => ?_)
  · have h := h.1 c1
    exact gB_X9_sheet_65 hrf x1 x2 x3 _ h
  · have h := h.2 c1
    refine G_iload_n (i := 3) pX9_sheet_53 rfl rfl ?_
    refine G_bipush pX9_sheet_54 bi_40 ?_
    refine G_icmp_le pX9_sheet_56 (fun c2 => ?_) (fun c2 => ?_)
    · have h := h.1 c2
      exact gB_X9_sheet_65 hrf x1 x2 x3 _ h
    · have h := h.2 c2
      refine G_aload_n (i := 0) pX9_sheet_59 rfl rfl ?_
      refine G_iconst pX9_sheet_60 ic_1 ?_
      refine G_callV1i (b := 0) (ci := 9) (N := 12) pX9_sheet_61 (g_X9_error (1 : Int32) hrf _ h) mV_X9_error ml_RX9_80 (by decide) ⟨Nat.le_refl _, Nat.le_refl _, Nat.le_refl _⟩ (Nat.le_of_ble_eq_true rfl) ltk_0 shk_0 rfl ?_
      intro r4 rf m3 hrf h hr4
      exact G_ireturn (len := 1) pX9_sheet_64 ⟨hrf, _, rfl, h⟩ ⟨_, rfl, rfl⟩
def B_X9_sheet_35 (x1 : Int32) (x2 : Int32) (x3 : Int32) (mem : MMt) (Q : Int32 → MMt → Prop) : Prop := ((x2 = 0 → B_X9_sheet_49 x1 x2 x3 mem Q) ∧ (¬ x2 = 0 → ((0 ≤ x3 → B_X9_sheet_49 x1 x2 x3 mem Q) ∧ (¬ 0 ≤ x3 → L_X9_error (3 : Int32) mem (fun r4 m3 => Q r4 m3)))))
set_option maxRecDepth 4000 in
theorem gB_X9_sheet_35 {sx : Nat × (Nat → Int32)} {rf : RFt} {Q : Int32 → MMt → Prop} (hrf : RFok rf) (x1 : Int32) (x2 : Int32) (x3 : Int32) (mem : MMt) (h : B_X9_sheet_35 x1 x2 x3 mem Q) : G sx yX9_sheet cX9_sheet 4 (some .int) 3 NX NX (QQi (RFok) Q) NX rf mem 35 [some (.ref 0), some (.int x1), some (.int x2), some (.int x3)] [] := by
  unfold B_X9_sheet_35 at h
  refine G_iload_n (i := 2) pX9_sheet_35 rfl rfl ?_
  refine G_if_eq pX9_sheet_36 (fun c1 => ?_) (fun c1 => ?_)
  · have h := h.1 c1
    exact gB_X9_sheet_49 hrf x1 x2 x3 _ h
  · have h := h.2 c1
    refine G_iload_n (i := 3) pX9_sheet_39 rfl rfl ?_
    refine G_if_ge pX9_sheet_40 (fun c2 => ?_) (fun c2 => ?_)
    · have h := h.1 c2
      exact gB_X9_sheet_49 hrf x1 x2 x3 _ h
    · have h := h.2 c2
      refine G_aload_n (i := 0) pX9_sheet_43 rfl rfl ?_
      refine G_iconst pX9_sheet_44 ic_3 ?_
      refine G_callV1i (b := 0) (ci := 9) (N := 12) pX9_sheet_45 (g_X9_error (3 : Int32) hrf _ h) mV_X9_error ml_RX9_80 (by decide) ⟨Nat.le_refl _, Nat.le_refl _, Nat.le_refl _⟩ (Nat.le_of_ble_eq_true rfl) ltk_0 shk_0 rfl ?_
      intro r4 rf m3 hrf h hr4
      exact G_ireturn (len := 1) pX9_sheet_48 ⟨hrf, _, rfl, h⟩ ⟨_, rfl, rfl⟩
def L_X9_sheet (a1 : Int32) (a2 : Int32) (a3 : Int32) (mem : MMt) (Q : Int32 → MMt → Prop) : Prop := L_X9_isSheet a1 mem (fun r2 m1 => ((r2 = 0 → L_X9_error (1 : Int32) m1 (fun r5 m4 => Q r5 m4)) ∧ (¬ r2 = 0 → ((a2 = 0 → B_X9_sheet_35 a1 a2 a3 m1 Q) ∧ (¬ a2 = 0 → ((a2 = (8 : Int32) → B_X9_sheet_35 a1 a2 a3 m1 Q) ∧ (¬ a2 = (8 : Int32) → ((a2 = (16 : Int32) → B_X9_sheet_35 a1 a2 a3 m1 Q) ∧ (¬ a2 = (16 : Int32) → ((a2 = (32 : Int32) → B_X9_sheet_35 a1 a2 a3 m1 Q) ∧ (¬ a2 = (32 : Int32) → L_X9_error (1 : Int32) m1 (fun r11 m10 => Q r11 m10))))))))))))
set_option maxRecDepth 4000 in
theorem g_X9_sheet {sx : Nat × (Nat → Int32)} {rf : RFt} {Q : Int32 → MMt → Prop} (a1 : Int32) (a2 : Int32) (a3 : Int32) (hrf : RFok rf) (mem : MMt) (h : L_X9_sheet a1 a2 a3 mem Q) : Ct sx yX9_sheet cX9_sheet 4 (some .int) 3 [.ref 0, .int a1, .int a2, .int a3] NX NX rf mem (QQi (RFok) Q) := by
  refine Ct_of [some (.ref 0), some (.int a1), some (.int a2), some (.int a3)] (by decide +kernel) (by simp [Lof, Value.category]) rfl ?_
  unfold L_X9_sheet at h
  refine G_iload_n (i := 1) pX9_sheet_0 rfl rfl ?_
  refine G_callS1i pX9_sheet_1 (g_X9_isSheet a1 hrf _ h) mS_X9_isSheet ml_RX9_252 (by decide) ⟨Nat.le_refl _, Nat.le_refl _, Nat.le_refl _⟩ (Nat.le_of_ble_eq_true rfl) ?_
  intro r2 rf m1 hrf h hr2
  refine G_if_eq pX9_sheet_4 (fun c3 => ?_) (fun c3 => ?_)
  · have h := h.1 c3
    refine G_aload_n (i := 0) pX9_sheet_29 rfl rfl ?_
    refine G_iconst pX9_sheet_30 ic_1 ?_
    refine G_callV1i (b := 0) (ci := 9) (N := 12) pX9_sheet_31 (g_X9_error (1 : Int32) hrf _ h) mV_X9_error ml_RX9_80 (by decide) ⟨Nat.le_refl _, Nat.le_refl _, Nat.le_refl _⟩ (Nat.le_of_ble_eq_true rfl) ltk_0 shk_0 rfl ?_
    intro r5 rf m4 hrf h hr5
    exact G_ireturn (len := 1) pX9_sheet_34 ⟨hrf, _, rfl, h⟩ ⟨_, rfl, rfl⟩
  · have h := h.2 c3
    refine G_iload_n (i := 2) pX9_sheet_7 rfl rfl ?_
    refine G_if_eq pX9_sheet_8 (fun c6 => ?_) (fun c6 => ?_)
    · have h := h.1 c6
      exact gB_X9_sheet_35 hrf a1 a2 a3 _ h
    · have h := h.2 c6
      refine G_iload_n (i := 2) pX9_sheet_11 rfl rfl ?_
      refine G_bipush pX9_sheet_12 bi_8 ?_
      refine G_icmp_eq pX9_sheet_14 (fun c7 => ?_) (fun c7 => ?_)
      · have h := h.1 c7
        exact gB_X9_sheet_35 hrf a1 a2 a3 _ h
      · have h := h.2 c7
        refine G_iload_n (i := 2) pX9_sheet_17 rfl rfl ?_
        refine G_bipush pX9_sheet_18 bi_16 ?_
        refine G_icmp_eq pX9_sheet_20 (fun c8 => ?_) (fun c8 => ?_)
        · have h := h.1 c8
          exact gB_X9_sheet_35 hrf a1 a2 a3 _ h
        · have h := h.2 c8
          refine G_iload_n (i := 2) pX9_sheet_23 rfl rfl ?_
          refine G_bipush pX9_sheet_24 bi_32 ?_
          refine G_icmp_eq pX9_sheet_26 (fun c9 => ?_) (fun c9 => ?_)
          · have h := h.1 c9
            exact gB_X9_sheet_35 hrf a1 a2 a3 _ h
          · have h := h.2 c9
            refine G_aload_n (i := 0) pX9_sheet_29 rfl rfl ?_
            refine G_iconst pX9_sheet_30 ic_1 ?_
            refine G_callV1i (b := 0) (ci := 9) (N := 12) pX9_sheet_31 (g_X9_error (1 : Int32) hrf _ h) mV_X9_error ml_RX9_80 (by decide) ⟨Nat.le_refl _, Nat.le_refl _, Nat.le_refl _⟩ (Nat.le_of_ble_eq_true rfl) ltk_0 shk_0 rfl ?_
            intro r11 rf m10 hrf h hr11
            exact G_ireturn (len := 1) pX9_sheet_34 ⟨hrf, _, rfl, h⟩ ⟨_, rfl, rfl⟩
def L_X6_lowestBits (q0 : Nat) (a1 : Int32) (mem : MMt) (Q : Int32 → MMt → Prop) : Prop := ((¬ (mem q0 0) = (32 : Int32) → ((¬ (mem q0 0) = (8 : Int32) → Q a1.toInt16.toInt32 mem) ∧ ((mem q0 0) = (8 : Int32) → Q a1.toInt8.toInt32 mem))) ∧ ((mem q0 0) = (32 : Int32) → Q a1 mem))
set_option maxRecDepth 4000 in
theorem g_X6_lowestBits {sx : Nat × (Nat → Int32)} {M : RFt → Prop} {rf : RFt} {Q : Int32 → MMt → Prop} (q0 : Nat) (a1 : Int32) (hq0 : IS 6 q0) (hrf : M rf) (mem : MMt) (h : L_X6_lowestBits q0 a1 mem Q) : Ct sx yX6_lowestBits cX6_lowestBits 2 (some .int) 1 [.ref q0, .int a1] NX NX rf mem (QQi (M) Q) := by
  refine Ct_of [some (.ref q0), some (.int a1)] (by decide +kernel) (by simp [Lof, Value.category]) rfl ?_
  unfold L_X6_lowestBits at h
  refine G_aload_n (i := 0) pX6_lowestBits_0 rfl rfl ?_
  refine G_getI (ci := 6) (j := 0) (N := 3) pX6_lowestBits_1 fl_RX6_15 rfl hq0.2 hq0.sh6 (by decide) rfl ?_
  refine G_bipush pX6_lowestBits_4 bi_32 ?_
  refine G_icmp_ne pX6_lowestBits_6 (fun c1 => ?_) (fun c1 => ?_)
  · have h := h.1 c1
    refine G_aload_n (i := 0) pX6_lowestBits_11 rfl rfl ?_
    refine G_getI (ci := 6) (j := 0) (N := 3) pX6_lowestBits_12 fl_RX6_15 rfl hq0.2 hq0.sh6 (by decide) rfl ?_
    refine G_bipush pX6_lowestBits_15 bi_8 ?_
    refine G_icmp_ne pX6_lowestBits_17 (fun c2 => ?_) (fun c2 => ?_)
    · have h := h.1 c2
      refine G_iload_n (i := 1) pX6_lowestBits_25 rfl rfl ?_
      refine G_i2s pX6_lowestBits_26 ?_
      exact G_ireturn (len := 1) pX6_lowestBits_27 ⟨hrf, _, rfl, h⟩ ⟨_, rfl, rfl⟩
    · have h := h.2 c2
      refine G_iload_n (i := 1) pX6_lowestBits_20 rfl rfl ?_
      refine G_i2b pX6_lowestBits_21 ?_
      refine G_goto pX6_lowestBits_22 ?_
      exact G_ireturn (len := 1) pX6_lowestBits_27 ⟨hrf, _, rfl, h⟩ ⟨_, rfl, rfl⟩
  · have h := h.2 c1
    refine G_iload_n (i := 1) pX6_lowestBits_9 rfl rfl ?_
    exact G_ireturn (len := 1) pX6_lowestBits_10 ⟨hrf, _, rfl, h⟩ ⟨_, rfl, rfl⟩
def L_X9_put (a1 : Int32) (a2 : Int32) (a3 : Int32) (mem : MMt) (Q : Int32 → MMt → Prop) : Prop := L_X9_isSheet a1 mem (fun r2 m1 => ((¬ r2 = 0 → (vp_in a1 4 ∧ L_X6_isMissing (68 + 2 * a1.toNatClampNeg) m1 (fun r6 m5 => ((r6 = 0 → L_X9_within a2 (0 : Int32) ((m5 (68 + 2 * a1.toNatClampNeg) 1) - (1 : Int32)) m5 (fun r9 m8 => ((¬ r9 = 0 → L_X6_lowestBits (68 + 2 * a1.toNatClampNeg) a3 m8 (fun r12 m11 => (vp_in a2 40 ∧ ∀ m13 : MMt, m13 = up2 m11 (68 + 2 * a1.toNatClampNeg + 1) a2.toNatClampNeg r12 → Q (1 : Int32) m13))) ∧ (r9 = 0 → L_X9_error (1 : Int32) m8 (fun r16 m15 => Q r16 m15))))) ∧ (¬ r6 = 0 → L_X9_error (2 : Int32) m5 (fun r18 m17 => Q r18 m17)))))) ∧ (r2 = 0 → L_X9_error (1 : Int32) m1 (fun r20 m19 => Q r20 m19))))
set_option maxRecDepth 4000 in
theorem g_X9_put {sx : Nat × (Nat → Int32)} {rf : RFt} {Q : Int32 → MMt → Prop} (a1 : Int32) (a2 : Int32) (a3 : Int32) (hrf : RFok rf) (mem : MMt) (h : L_X9_put a1 a2 a3 mem Q) : Ct sx yX9_put cX9_put 5 (some .int) 3 [.ref 0, .int a1, .int a2, .int a3] NX NX rf mem (QQi (RFok) Q) := by
  refine Ct_of [some (.ref 0), some (.int a1), some (.int a2), some (.int a3), none] (by decide +kernel) (by simp [Lof, Value.category]) rfl ?_
  unfold L_X9_put at h
  refine G_iload_n (i := 1) pX9_put_0 rfl rfl ?_
  refine G_callS1i pX9_put_1 (g_X9_isSheet a1 hrf _ h) mS_X9_isSheet ml_RX9_252 (by decide) ⟨Nat.le_refl _, Nat.le_refl _, Nat.le_refl _⟩ (Nat.le_of_ble_eq_true rfl) ?_
  intro r2 rf m1 hrf h hr2
  refine G_if_ne pX9_put_4 (fun c3 => ?_) (fun c3 => ?_)
  · have h := h.1 c3
    refine G_aload_n (i := 0) pX9_put_13 rfl rfl ?_
    refine G_getR (ci := 9) (j := 9) (N := 12) pX9_put_14 fl_RX9_64 rfl ltk_0 shk_0 (by decide) rfl (hrf.lit 0 9 rfl) ?_
    refine G_iload_n (i := 1) pX9_put_17 rfl rfl ?_
    obtain ⟨hi4, h⟩ := h
    refine G_aald pX9_put_18 ltk_66 shk_66 (by decide) hi4 (st_rf hrf hi4) ?_
    refine G_astore (i := 4) (L' := [some (.ref 0), some (.int a1), some (.int a2), some (.int a3), some (.ref (68 + 2 * a1.toNatClampNeg))]) pX9_put_19 rfl ?_
    refine G_aload (i := 4) pX9_put_21 rfl ?_
    refine G_callV0i (b := 68 + 2 * a1.toNatClampNeg) (ci := 6) (N := 3) pX9_put_23 (g_X6_isMissing (68 + 2 * a1.toNatClampNeg) (st_in hi4) hrf _ h) mV_X6_isMissing ml_RX9_255 (by decide) ⟨Nat.le_refl _, Nat.le_refl _, Nat.le_refl _⟩ (Nat.le_of_ble_eq_true rfl) (st_in hi4).2 (st_in hi4).sh6 rfl ?_
    intro r6 rf m5 hrf h hr6
    refine G_if_eq pX9_put_26 (fun c7 => ?_) (fun c7 => ?_)
    · have h := h.1 c7
      refine G_iload_n (i := 2) pX9_put_35 rfl rfl ?_
      refine G_iconst pX9_put_36 ic_0 ?_
      refine G_aload (i := 4) pX9_put_37 rfl ?_
      refine G_getI (ci := 6) (j := 1) (N := 3) pX9_put_39 fl_RX9_286 rfl (st_in hi4).2 (st_in hi4).sh6 (by decide) rfl ?_
      refine G_iconst pX9_put_42 ic_1 ?_
      refine G_isub pX9_put_43 ?_
      refine G_callS3i pX9_put_44 (g_X9_within a2 (0 : Int32) ((m5 (68 + 2 * a1.toNatClampNeg) 1) - (1 : Int32)) hrf _ h) mS_X9_within ml_RX9_104 (by decide) ⟨Nat.le_refl _, Nat.le_refl _, Nat.le_refl _⟩ (Nat.le_of_ble_eq_true rfl) ?_
      intro r9 rf m8 hrf h hr9
      refine G_if_ne pX9_put_47 (fun c10 => ?_) (fun c10 => ?_)
      · have h := h.1 c10
        refine G_aload (i := 4) pX9_put_56 rfl ?_
        refine G_getR (ci := 6) (j := 2) (N := 3) pX9_put_58 fl_RX9_289 rfl (st_in hi4).2 (st_in hi4).sh6 (by decide) rfl ((lay_6_2 (st_in hi4)).2.2 hrf) ?_
        refine G_iload_n (i := 2) pX9_put_61 rfl rfl ?_
        refine G_aload (i := 4) pX9_put_62 rfl ?_
        refine G_iload_n (i := 3) pX9_put_64 rfl rfl ?_
        refine G_callV1i (b := 68 + 2 * a1.toNatClampNeg) (ci := 6) (N := 3) pX9_put_65 (g_X6_lowestBits (68 + 2 * a1.toNatClampNeg) a3 (st_in hi4) hrf _ h) mV_X6_lowestBits ml_RX9_292 (by decide) ⟨Nat.le_refl _, Nat.le_refl _, Nat.le_refl _⟩ (Nat.le_of_ble_eq_true rfl) (st_in hi4).2 (st_in hi4).sh6 rfl ?_
        intro r12 rf m11 hrf h hr12
        obtain ⟨hi14, h⟩ := h
        obtain ⟨m13, em13⟩ : ∃ z : MMt, z = up2 m11 (68 + 2 * a1.toNatClampNeg + 1) a2.toNatClampNeg r12 := ⟨_, rfl⟩
        have h := h m13 em13
        refine G_iastW pX9_put_68 (lay_6_2 (st_in hi4)).2.1 (lay_6_2 (st_in hi4)).1 hi14 em13.symm ?_
        refine G_iconst pX9_put_69 ic_1 ?_
        exact G_ireturn (len := 1) pX9_put_70 ⟨hrf, _, rfl, h⟩ ⟨_, rfl, rfl⟩
      · have h := h.2 c10
        refine G_aload_n (i := 0) pX9_put_50 rfl rfl ?_
        refine G_iconst pX9_put_51 ic_1 ?_
        refine G_callV1i (b := 0) (ci := 9) (N := 12) pX9_put_52 (g_X9_error (1 : Int32) hrf _ h) mV_X9_error ml_RX9_80 (by decide) ⟨Nat.le_refl _, Nat.le_refl _, Nat.le_refl _⟩ (Nat.le_of_ble_eq_true rfl) ltk_0 shk_0 rfl ?_
        intro r16 rf m15 hrf h hr16
        exact G_ireturn (len := 1) pX9_put_55 ⟨hrf, _, rfl, h⟩ ⟨_, rfl, rfl⟩
    · have h := h.2 c7
      refine G_aload_n (i := 0) pX9_put_29 rfl rfl ?_
      refine G_iconst pX9_put_30 ic_2 ?_
      refine G_callV1i (b := 0) (ci := 9) (N := 12) pX9_put_31 (g_X9_error (2 : Int32) hrf _ h) mV_X9_error ml_RX9_80 (by decide) ⟨Nat.le_refl _, Nat.le_refl _, Nat.le_refl _⟩ (Nat.le_of_ble_eq_true rfl) ltk_0 shk_0 rfl ?_
      intro r18 rf m17 hrf h hr18
      exact G_ireturn (len := 1) pX9_put_34 ⟨hrf, _, rfl, h⟩ ⟨_, rfl, rfl⟩
  · have h := h.2 c3
    refine G_aload_n (i := 0) pX9_put_7 rfl rfl ?_
    refine G_iconst pX9_put_8 ic_1 ?_
    refine G_callV1i (b := 0) (ci := 9) (N := 12) pX9_put_9 (g_X9_error (1 : Int32) hrf _ h) mV_X9_error ml_RX9_80 (by decide) ⟨Nat.le_refl _, Nat.le_refl _, Nat.le_refl _⟩ (Nat.le_of_ble_eq_true rfl) ltk_0 shk_0 rfl ?_
    intro r20 rf m19 hrf h hr20
    exact G_ireturn (len := 1) pX9_put_12 ⟨hrf, _, rfl, h⟩ ⟨_, rfl, rfl⟩
def L_X6_hasFrom (q0 : Nat) (a1 : Int32) (a2 : Int32) (mem : MMt) (Q : Int32 → MMt → Prop) : Prop := ((a1 < 0 → Q (0 : Int32) mem) ∧ (¬ a1 < 0 → ((a2 < 0 → Q (0 : Int32) mem) ∧ (¬ a2 < 0 → (((mem q0 1) < a1 → Q (0 : Int32) mem) ∧ (¬ (mem q0 1) < a1 → ((((mem q0 1) - a1) < a2 → Q (0 : Int32) mem) ∧ (¬ ((mem q0 1) - a1) < a2 → Q (1 : Int32) mem))))))))
set_option maxRecDepth 4000 in
theorem g_X6_hasFrom {sx : Nat × (Nat → Int32)} {M : RFt → Prop} {rf : RFt} {Q : Int32 → MMt → Prop} (q0 : Nat) (a1 : Int32) (a2 : Int32) (hq0 : IS 6 q0) (hrf : M rf) (mem : MMt) (h : L_X6_hasFrom q0 a1 a2 mem Q) : Ct sx yX6_hasFrom cX6_hasFrom 3 (some .boolean) 1 [.ref q0, .int a1, .int a2] NX NX rf mem (QQi (M) Q) := by
  refine Ct_of [some (.ref q0), some (.int a1), some (.int a2)] (by decide +kernel) (by simp [Lof, Value.category]) rfl ?_
  unfold L_X6_hasFrom at h
  refine G_iload_n (i := 1) pX6_hasFrom_0 rfl rfl ?_
  refine G_if_lt pX6_hasFrom_1 (fun c1 => ?_) (fun c1 => ?_)
  · have h := h.1 c1
    refine G_iconst pX6_hasFrom_30 ic_0 ?_
    exact G_ireturn (len := 1) pX6_hasFrom_31 ⟨hrf, _, rfl, h⟩ ⟨_, rfl, rfl⟩
  · have h := h.2 c1
    refine G_iload_n (i := 2) pX6_hasFrom_4 rfl rfl ?_
    refine G_if_lt pX6_hasFrom_5 (fun c2 => ?_) (fun c2 => ?_)
    · have h := h.1 c2
      refine G_iconst pX6_hasFrom_30 ic_0 ?_
      exact G_ireturn (len := 1) pX6_hasFrom_31 ⟨hrf, _, rfl, h⟩ ⟨_, rfl, rfl⟩
    · have h := h.2 c2
      refine G_iload_n (i := 1) pX6_hasFrom_8 rfl rfl ?_
      refine G_aload_n (i := 0) pX6_hasFrom_9 rfl rfl ?_
      refine G_getI (ci := 6) (j := 1) (N := 3) pX6_hasFrom_10 fl_RX6_19 rfl hq0.2 hq0.sh6 (by decide) rfl ?_
      refine G_icmp_gt pX6_hasFrom_13 (fun c3 => ?_) (fun c3 => ?_)
      · have h := h.1 c3
        refine G_iconst pX6_hasFrom_30 ic_0 ?_
        exact G_ireturn (len := 1) pX6_hasFrom_31 ⟨hrf, _, rfl, h⟩ ⟨_, rfl, rfl⟩
      · have h := h.2 c3
        refine G_iload_n (i := 2) pX6_hasFrom_16 rfl rfl ?_
        refine G_aload_n (i := 0) pX6_hasFrom_17 rfl rfl ?_
        refine G_getI (ci := 6) (j := 1) (N := 3) pX6_hasFrom_18 fl_RX6_19 rfl hq0.2 hq0.sh6 (by decide) rfl ?_
        refine G_iload_n (i := 1) pX6_hasFrom_21 rfl rfl ?_
        refine G_isub pX6_hasFrom_22 ?_
        refine G_icmp_gt pX6_hasFrom_23 (fun c4 => ?_) (fun c4 => ?_)
        · have h := h.1 c4
          refine G_iconst pX6_hasFrom_30 ic_0 ?_
          exact G_ireturn (len := 1) pX6_hasFrom_31 ⟨hrf, _, rfl, h⟩ ⟨_, rfl, rfl⟩
        · have h := h.2 c4
          refine G_iconst pX6_hasFrom_26 ic_1 ?_
          refine G_goto pX6_hasFrom_27 ?_
          exact G_ireturn (len := 1) pX6_hasFrom_31 ⟨hrf, _, rfl, h⟩ ⟨_, rfl, rfl⟩
def L_X9_move (a1 : Int32) (a2 : Int32) (a3 : Int32) (a4 : Int32) (a5 : Int32) (mem : MMt) (Q : Int32 → MMt → Prop) : Prop := L_X9_isSheet a1 mem (fun r2 m1 => ((r2 = 0 → L_X9_error (1 : Int32) m1 (fun r5 m4 => Q r5 m4)) ∧ (¬ r2 = 0 → L_X9_isSheet a3 m1 (fun r7 m6 => ((¬ r7 = 0 → (vp_in a1 4 ∧ (vp_in a3 4 ∧ L_X6_isMissing (68 + 2 * a1.toNatClampNeg) m6 (fun r12 m11 => ((¬ r12 = 0 → L_X9_error (2 : Int32) m11 (fun r15 m14 => Q r15 m14)) ∧ (r12 = 0 → L_X6_isMissing (68 + 2 * a3.toNatClampNeg) m11 (fun r17 m16 => ((r17 = 0 → (((m16 (68 + 2 * a1.toNatClampNeg) 0) = (m16 (68 + 2 * a3.toNatClampNeg) 0) → L_X6_hasFrom (68 + 2 * a1.toNatClampNeg) a2 a5 m16 (fun r21 m20 => ((r21 = 0 → L_X9_error (1 : Int32) m20 (fun r24 m23 => Q r24 m23)) ∧ (¬ r21 = 0 → L_X6_hasFrom (68 + 2 * a3.toNatClampNeg) a4 a5 m20 (fun r26 m25 => ((¬ r26 = 0 → ((¬ a2 < 0 ∧ ¬ a4 < 0 ∧ ¬ a5 < 0 ∧ a2.toNatClampNeg + a5.toNatClampNeg ≤ 40 ∧ a4.toNatClampNeg + a5.toNatClampNeg ≤ 40) ∧ ∀ m28 : MMt, m28 = cp2 m25 (68 + 2 * a1.toNatClampNeg + 1) (68 + 2 * a3.toNatClampNeg + 1) a2.toNatClampNeg a4.toNatClampNeg a5.toNatClampNeg → Q a5 m28)) ∧ (r26 = 0 → L_X9_error (1 : Int32) m25 (fun r31 m30 => Q r31 m30)))))))) ∧ (¬ (m16 (68 + 2 * a1.toNatClampNeg) 0) = (m16 (68 + 2 * a3.toNatClampNeg) 0) → L_X9_error (5 : Int32) m16 (fun r33 m32 => Q r33 m32)))) ∧ (¬ r17 = 0 → L_X9_error (2 : Int32) m16 (fun r35 m34 => Q r35 m34)))))))))) ∧ (r7 = 0 → L_X9_error (1 : Int32) m6 (fun r37 m36 => Q r37 m36)))))))
set_option maxRecDepth 4000 in
theorem g_X9_move {sx : Nat × (Nat → Int32)} {rf : RFt} {Q : Int32 → MMt → Prop} (a1 : Int32) (a2 : Int32) (a3 : Int32) (a4 : Int32) (a5 : Int32) (hrf : RFok rf) (mem : MMt) (h : L_X9_move a1 a2 a3 a4 a5 mem Q) : Ct sx yX9_move cX9_move 8 (some .int) 3 [.ref 0, .int a1, .int a2, .int a3, .int a4, .int a5] NX NX rf mem (QQi (RFok) Q) := by
  refine Ct_of [some (.ref 0), some (.int a1), some (.int a2), some (.int a3), some (.int a4), some (.int a5), none, none] (by decide +kernel) (by simp [Lof, Value.category]) rfl ?_
  unfold L_X9_move at h
  refine G_iload_n (i := 1) pX9_move_0 rfl rfl ?_
  refine G_callS1i pX9_move_1 (g_X9_isSheet a1 hrf _ h) mS_X9_isSheet ml_RX9_252 (by decide) ⟨Nat.le_refl _, Nat.le_refl _, Nat.le_refl _⟩ (Nat.le_of_ble_eq_true rfl) ?_
  intro r2 rf m1 hrf h hr2
  refine G_if_eq pX9_move_4 (fun c3 => ?_) (fun c3 => ?_)
  · have h := h.1 c3
    refine G_aload_n (i := 0) pX9_move_14 rfl rfl ?_
    refine G_iconst pX9_move_15 ic_1 ?_
    refine G_callV1i (b := 0) (ci := 9) (N := 12) pX9_move_16 (g_X9_error (1 : Int32) hrf _ h) mV_X9_error ml_RX9_80 (by decide) ⟨Nat.le_refl _, Nat.le_refl _, Nat.le_refl _⟩ (Nat.le_of_ble_eq_true rfl) ltk_0 shk_0 rfl ?_
    intro r5 rf m4 hrf h hr5
    exact G_ireturn (len := 1) pX9_move_19 ⟨hrf, _, rfl, h⟩ ⟨_, rfl, rfl⟩
  · have h := h.2 c3
    refine G_iload_n (i := 3) pX9_move_7 rfl rfl ?_
    refine G_callS1i pX9_move_8 (g_X9_isSheet a3 hrf _ h) mS_X9_isSheet ml_RX9_252 (by decide) ⟨Nat.le_refl _, Nat.le_refl _, Nat.le_refl _⟩ (Nat.le_of_ble_eq_true rfl) ?_
    intro r7 rf m6 hrf h hr7
    refine G_if_ne pX9_move_11 (fun c8 => ?_) (fun c8 => ?_)
    · have h := h.1 c8
      refine G_aload_n (i := 0) pX9_move_20 rfl rfl ?_
      refine G_getR (ci := 9) (j := 9) (N := 12) pX9_move_21 fl_RX9_64 rfl ltk_0 shk_0 (by decide) rfl (hrf.lit 0 9 rfl) ?_
      refine G_iload_n (i := 1) pX9_move_24 rfl rfl ?_
      obtain ⟨hi9, h⟩ := h
      refine G_aald pX9_move_25 ltk_66 shk_66 (by decide) hi9 (st_rf hrf hi9) ?_
      refine G_astore (i := 6) (L' := [some (.ref 0), some (.int a1), some (.int a2), some (.int a3), some (.int a4), some (.int a5), some (.ref (68 + 2 * a1.toNatClampNeg)), none]) pX9_move_26 rfl ?_
      refine G_aload_n (i := 0) pX9_move_28 rfl rfl ?_
      refine G_getR (ci := 9) (j := 9) (N := 12) pX9_move_29 fl_RX9_64 rfl ltk_0 shk_0 (by decide) rfl (hrf.lit 0 9 rfl) ?_
      refine G_iload_n (i := 3) pX9_move_32 rfl rfl ?_
      obtain ⟨hi10, h⟩ := h
      refine G_aald pX9_move_33 ltk_66 shk_66 (by decide) hi10 (st_rf hrf hi10) ?_
      refine G_astore (i := 7) (L' := [some (.ref 0), some (.int a1), some (.int a2), some (.int a3), some (.int a4), some (.int a5), some (.ref (68 + 2 * a1.toNatClampNeg)), some (.ref (68 + 2 * a3.toNatClampNeg))]) pX9_move_34 rfl ?_
      refine G_aload (i := 6) pX9_move_36 rfl ?_
      refine G_callV0i (b := 68 + 2 * a1.toNatClampNeg) (ci := 6) (N := 3) pX9_move_38 (g_X6_isMissing (68 + 2 * a1.toNatClampNeg) (st_in hi9) hrf _ h) mV_X6_isMissing ml_RX9_255 (by decide) ⟨Nat.le_refl _, Nat.le_refl _, Nat.le_refl _⟩ (Nat.le_of_ble_eq_true rfl) (st_in hi9).2 (st_in hi9).sh6 rfl ?_
      intro r12 rf m11 hrf h hr12
      refine G_if_ne pX9_move_41 (fun c13 => ?_) (fun c13 => ?_)
      · have h := h.1 c13
        refine G_aload_n (i := 0) pX9_move_52 rfl rfl ?_
        refine G_iconst pX9_move_53 ic_2 ?_
        refine G_callV1i (b := 0) (ci := 9) (N := 12) pX9_move_54 (g_X9_error (2 : Int32) hrf _ h) mV_X9_error ml_RX9_80 (by decide) ⟨Nat.le_refl _, Nat.le_refl _, Nat.le_refl _⟩ (Nat.le_of_ble_eq_true rfl) ltk_0 shk_0 rfl ?_
        intro r15 rf m14 hrf h hr15
        exact G_ireturn (len := 1) pX9_move_57 ⟨hrf, _, rfl, h⟩ ⟨_, rfl, rfl⟩
      · have h := h.2 c13
        refine G_aload (i := 7) pX9_move_44 rfl ?_
        refine G_callV0i (b := 68 + 2 * a3.toNatClampNeg) (ci := 6) (N := 3) pX9_move_46 (g_X6_isMissing (68 + 2 * a3.toNatClampNeg) (st_in hi10) hrf _ h) mV_X6_isMissing ml_RX9_255 (by decide) ⟨Nat.le_refl _, Nat.le_refl _, Nat.le_refl _⟩ (Nat.le_of_ble_eq_true rfl) (st_in hi10).2 (st_in hi10).sh6 rfl ?_
        intro r17 rf m16 hrf h hr17
        refine G_if_eq pX9_move_49 (fun c18 => ?_) (fun c18 => ?_)
        · have h := h.1 c18
          refine G_aload (i := 6) pX9_move_58 rfl ?_
          refine G_getI (ci := 6) (j := 0) (N := 3) pX9_move_60 fl_RX9_295 rfl (st_in hi9).2 (st_in hi9).sh6 (by decide) rfl ?_
          refine G_aload (i := 7) pX9_move_63 rfl ?_
          refine G_getI (ci := 6) (j := 0) (N := 3) pX9_move_65 fl_RX9_295 rfl (st_in hi10).2 (st_in hi10).sh6 (by decide) rfl ?_
          refine G_icmp_eq pX9_move_68 (fun c19 => ?_) (fun c19 => ?_)
          · have h := h.1 c19
            refine G_aload (i := 6) pX9_move_77 rfl ?_
            refine G_iload_n (i := 2) pX9_move_79 rfl rfl ?_
            refine G_iload (i := 5) pX9_move_80 rfl ?_
            refine G_callV2i (b := 68 + 2 * a1.toNatClampNeg) (ci := 6) (N := 3) pX9_move_82 (g_X6_hasFrom (68 + 2 * a1.toNatClampNeg) a2 a5 (st_in hi9) hrf _ h) mV_X6_hasFrom ml_RX9_298 (by decide) ⟨Nat.le_refl _, Nat.le_refl _, Nat.le_refl _⟩ (Nat.le_of_ble_eq_true rfl) (st_in hi9).2 (st_in hi9).sh6 rfl ?_
            intro r21 rf m20 hrf h hr21
            refine G_if_eq pX9_move_85 (fun c22 => ?_) (fun c22 => ?_)
            · have h := h.1 c22
              refine G_aload_n (i := 0) pX9_move_100 rfl rfl ?_
              refine G_iconst pX9_move_101 ic_1 ?_
              refine G_callV1i (b := 0) (ci := 9) (N := 12) pX9_move_102 (g_X9_error (1 : Int32) hrf _ h) mV_X9_error ml_RX9_80 (by decide) ⟨Nat.le_refl _, Nat.le_refl _, Nat.le_refl _⟩ (Nat.le_of_ble_eq_true rfl) ltk_0 shk_0 rfl ?_
              intro r24 rf m23 hrf h hr24
              exact G_ireturn (len := 1) pX9_move_105 ⟨hrf, _, rfl, h⟩ ⟨_, rfl, rfl⟩
            · have h := h.2 c22
              refine G_aload (i := 7) pX9_move_88 rfl ?_
              refine G_iload (i := 4) pX9_move_90 rfl ?_
              refine G_iload (i := 5) pX9_move_92 rfl ?_
              refine G_callV2i (b := 68 + 2 * a3.toNatClampNeg) (ci := 6) (N := 3) pX9_move_94 (g_X6_hasFrom (68 + 2 * a3.toNatClampNeg) a4 a5 (st_in hi10) hrf _ h) mV_X6_hasFrom ml_RX9_298 (by decide) ⟨Nat.le_refl _, Nat.le_refl _, Nat.le_refl _⟩ (Nat.le_of_ble_eq_true rfl) (st_in hi10).2 (st_in hi10).sh6 rfl ?_
              intro r26 rf m25 hrf h hr26
              refine G_if_ne pX9_move_97 (fun c27 => ?_) (fun c27 => ?_)
              · have h := h.1 c27
                refine G_aload (i := 6) pX9_move_106 rfl ?_
                refine G_getR (ci := 6) (j := 2) (N := 3) pX9_move_108 fl_RX9_289 rfl (st_in hi9).2 (st_in hi9).sh6 (by decide) rfl ((lay_6_2 (st_in hi9)).2.2 hrf) ?_
                refine G_iload_n (i := 2) pX9_move_111 rfl rfl ?_
                refine G_aload (i := 7) pX9_move_112 rfl ?_
                refine G_getR (ci := 6) (j := 2) (N := 3) pX9_move_114 fl_RX9_289 rfl (st_in hi10).2 (st_in hi10).sh6 (by decide) rfl ((lay_6_2 (st_in hi10)).2.2 hrf) ?_
                refine G_iload (i := 4) pX9_move_117 rfl ?_
                refine G_iload (i := 5) pX9_move_119 rfl ?_
                obtain ⟨hb29, h⟩ := h
                obtain ⟨m28, em28⟩ : ∃ z : MMt, z = cp2 m25 (68 + 2 * a1.toNatClampNeg + 1) (68 + 2 * a3.toNatClampNeg + 1) a2.toNatClampNeg a4.toNatClampNeg a5.toNatClampNeg := ⟨_, rfl⟩
                have h := h m28 em28
                refine G_copyW (kd := 0) pX9_move_121 (Or.inl ⟨rfl, rfl⟩) ml_RX9_301 wcopy (lay_6_2 (st_in hi9)).2.1 (lay_6_2 (st_in hi10)).2.1 (lay_6_2 (st_in hi9)).1 (lay_6_2 (st_in hi10)).1 hb29 (fun _ _ => rfl) (Nat.le_of_ble_eq_true rfl) (by first | decide | omega) wcopyN em28.symm ?_
                refine G_iload (i := 5) pX9_move_124 rfl ?_
                exact G_ireturn (len := 1) pX9_move_126 ⟨hrf, _, rfl, h⟩ ⟨_, rfl, rfl⟩
              · have h := h.2 c27
                refine G_aload_n (i := 0) pX9_move_100 rfl rfl ?_
                refine G_iconst pX9_move_101 ic_1 ?_
                refine G_callV1i (b := 0) (ci := 9) (N := 12) pX9_move_102 (g_X9_error (1 : Int32) hrf _ h) mV_X9_error ml_RX9_80 (by decide) ⟨Nat.le_refl _, Nat.le_refl _, Nat.le_refl _⟩ (Nat.le_of_ble_eq_true rfl) ltk_0 shk_0 rfl ?_
                intro r31 rf m30 hrf h hr31
                exact G_ireturn (len := 1) pX9_move_105 ⟨hrf, _, rfl, h⟩ ⟨_, rfl, rfl⟩
          · have h := h.2 c19
            refine G_aload_n (i := 0) pX9_move_71 rfl rfl ?_
            refine G_iconst pX9_move_72 ic_5 ?_
            refine G_callV1i (b := 0) (ci := 9) (N := 12) pX9_move_73 (g_X9_error (5 : Int32) hrf _ h) mV_X9_error ml_RX9_80 (by decide) ⟨Nat.le_refl _, Nat.le_refl _, Nat.le_refl _⟩ (Nat.le_of_ble_eq_true rfl) ltk_0 shk_0 rfl ?_
            intro r33 rf m32 hrf h hr33
            exact G_ireturn (len := 1) pX9_move_76 ⟨hrf, _, rfl, h⟩ ⟨_, rfl, rfl⟩
        · have h := h.2 c18
          refine G_aload_n (i := 0) pX9_move_52 rfl rfl ?_
          refine G_iconst pX9_move_53 ic_2 ?_
          refine G_callV1i (b := 0) (ci := 9) (N := 12) pX9_move_54 (g_X9_error (2 : Int32) hrf _ h) mV_X9_error ml_RX9_80 (by decide) ⟨Nat.le_refl _, Nat.le_refl _, Nat.le_refl _⟩ (Nat.le_of_ble_eq_true rfl) ltk_0 shk_0 rfl ?_
          intro r35 rf m34 hrf h hr35
          exact G_ireturn (len := 1) pX9_move_57 ⟨hrf, _, rfl, h⟩ ⟨_, rfl, rfl⟩
    · have h := h.2 c8
      refine G_aload_n (i := 0) pX9_move_14 rfl rfl ?_
      refine G_iconst pX9_move_15 ic_1 ?_
      refine G_callV1i (b := 0) (ci := 9) (N := 12) pX9_move_16 (g_X9_error (1 : Int32) hrf _ h) mV_X9_error ml_RX9_80 (by decide) ⟨Nat.le_refl _, Nat.le_refl _, Nat.le_refl _⟩ (Nat.le_of_ble_eq_true rfl) ltk_0 shk_0 rfl ?_
      intro r37 rf m36 hrf h hr37
      exact G_ireturn (len := 1) pX9_move_19 ⟨hrf, _, rfl, h⟩ ⟨_, rfl, rfl⟩
def B_X9_pushes_51 (x2 : Nat) (x3 : Int32) (x4 : Int32) (mem : MMt) (Q : Int32 → MMt → Prop) : Prop := LOOP (σ := Int32 × MMt) (fun X51 z => (fun (x4 : Int32) (mem : MMt) => ((x3 ≤ x4 → Q x3 mem) ∧ (¬ x3 ≤ x4 → (vp_in x4 40 ∧ L_X9_isPush (mem (x2 + 1) x4.toNatClampNeg) mem (fun r4 m3 => ((¬ r4 = 0 → (vp_in x4 8 ∧ (vp_in x4 40 ∧ L_X1_shove (1 + 2 + x4.toNatClampNeg) (m3 (x2 + 1) x4.toNatClampNeg) m3 (fun m8 => (∀ v9 : Int32, v9 = x4 + (1 : Int32) → X51 (v9, m8)))))) ∧ (r4 = 0 → Q x4 m3))))))) z.1 z.2) (x4, mem)
set_option maxRecDepth 4000 in
theorem gB_X9_pushes_51 {sx : Nat × (Nat → Int32)} {rf : RFt} {Q : Int32 → MMt → Prop} (hrf : RFok rf) (x2 : Nat) (x3 : Int32) (x4 : Int32) (hx2 : IS 6 x2) (mem : MMt) (h : B_X9_pushes_51 x2 x3 x4 mem Q) : G sx yX9_pushes cX9_pushes 5 (some .int) 4 NX NX (QQi (RFok) Q) NX rf mem 51 [some (.ref 0), none, some (.ref x2), some (.int x3), some (.int x4)] [] := by
  obtain ⟨I, ⟨n, h0⟩, hI⟩ := h
  have key : ∀ (n : Nat) (rf : RFt) (x4 : Int32) (mem : MMt), RFok rf → I n (x4, mem) → G sx yX9_pushes cX9_pushes 5 (some .int) 4 NX NX (QQi (RFok) Q) NX rf mem 51 [some (.ref 0), none, some (.ref x2), some (.int x3), some (.int x4)] [] := by
    intro n
    induction n using Nat.strongRecOn with
    | _ n ih =>
    intro rf x4 mem hrf h0
    have hX51 : ∀ (rf : RFt) (x4 : Int32) (mem : MMt), RFok rf → (fun s' => ∃ m, m < n ∧ I m s') (x4, mem) → G sx yX9_pushes cX9_pushes 5 (some .int) 4 NX NX (QQi (RFok) Q) NX rf mem 51 [some (.ref 0), none, some (.ref x2), some (.int x3), some (.int x4)] [] := fun rf x4 mem hrf ⟨m, hm, hi⟩ => ih m hm rf x4 mem hrf hi
    have h := hI n _ h0
    clear ih h0
    try dsimp only at h
    refine G_iload (i := 4) pX9_pushes_51 rfl ?_
    refine G_iload_n (i := 3) pX9_pushes_53 rfl rfl ?_
    refine G_icmp_ge pX9_pushes_54 (fun c1 => ?_) (fun c1 => ?_)
    · have h := h.1 c1
      refine G_iload_n (i := 3) pX9_pushes_99 rfl rfl ?_
      exact G_ireturn (len := 1) pX9_pushes_100 ⟨hrf, _, rfl, h⟩ ⟨_, rfl, rfl⟩
    · have h := h.2 c1
      refine G_aload_n (i := 2) pX9_pushes_57 rfl rfl ?_
      refine G_getR (ci := 6) (j := 2) (N := 3) pX9_pushes_58 fl_RX9_289 rfl hx2.2 hx2.sh6 (by decide) rfl ((lay_6_2 hx2).2.2 hrf) ?_
      refine G_iload (i := 4) pX9_pushes_61 rfl ?_
      obtain ⟨hi2, h⟩ := h
      refine G_iald pX9_pushes_63 (lay_6_2 hx2).2.1 (lay_6_2 hx2).1 hi2 ?_
      refine G_callS1i pX9_pushes_64 (g_X9_isPush (mem (x2 + 1) x4.toNatClampNeg) hrf _ h) mS_X9_isPush ml_RX9_148 (by decide) ⟨Nat.le_refl _, Nat.le_refl _, Nat.le_refl _⟩ (Nat.le_of_ble_eq_true rfl) ?_
      intro r4 rf m3 hrf h hr4
      refine G_if_ne pX9_pushes_67 (fun c5 => ?_) (fun c5 => ?_)
      · have h := h.1 c5
        refine G_aload_n (i := 0) pX9_pushes_73 rfl rfl ?_
        refine G_getR (ci := 9) (j := 0) (N := 12) pX9_pushes_74 fl_RX9_10 rfl ltk_0 shk_0 (by decide) rfl (hrf.lit 0 0 rfl) ?_
        refine G_getR (ci := 0) (j := 0) (N := 4) pX9_pushes_77 fl_RX9_88 rfl ltk_1 shk_1 (by decide) rfl (hrf.lit 1 0 rfl) ?_
        refine G_iload (i := 4) pX9_pushes_80 rfl ?_
        obtain ⟨hi6, h⟩ := h
        refine G_aald pX9_pushes_82 ltk_2 shk_2 (by decide) hi6 (gd_rf (IS_lit shk_1 ltk_1) hrf hi6) ?_
        refine G_aload_n (i := 2) pX9_pushes_83 rfl rfl ?_
        refine G_getR (ci := 6) (j := 2) (N := 3) pX9_pushes_84 fl_RX9_289 rfl hx2.2 hx2.sh6 (by decide) rfl ((lay_6_2 hx2).2.2 hrf) ?_
        refine G_iload (i := 4) pX9_pushes_87 rfl ?_
        obtain ⟨hi7, h⟩ := h
        refine G_iald pX9_pushes_89 (lay_6_2 hx2).2.1 (lay_6_2 hx2).1 hi7 ?_
        refine G_callV1v (b := 1 + 2 + x4.toNatClampNeg) (ci := 1) (N := 5) pX9_pushes_90 (g_X1_shove (1 + 2 + x4.toNatClampNeg) (m3 (x2 + 1) x4.toNatClampNeg) (gd_in (IS_lit shk_1 ltk_1) hi6) hrf _ h) mV_X1_shove ml_RX9_151 (by decide) ⟨Nat.le_refl _, Nat.le_refl _, Nat.le_refl _⟩ (Nat.le_of_ble_eq_true rfl) (gd_in (IS_lit shk_1 ltk_1) hi6).2 (gd_in (IS_lit shk_1 ltk_1) hi6).sh1 rfl ?_
        intro rf m8 hrf h
        obtain ⟨v9, e9⟩ : ∃ z : Int32, z = x4 + (1 : Int32) := ⟨_, rfl⟩
        have h := h v9 e9
        refine G_iincW (L' := [some (.ref 0), none, some (.ref x2), some (.int x3), some (.int v9)]) pX9_pushes_93 rfl ic_1 e9.symm rfl ?_
        refine G_goto pX9_pushes_96 ?_
        exact hX51 _ _ _ hrf h
      · have h := h.2 c5
        refine G_iload (i := 4) pX9_pushes_70 rfl ?_
        exact G_ireturn (len := 1) pX9_pushes_72 ⟨hrf, _, rfl, h⟩ ⟨_, rfl, rfl⟩
  exact key n rf _ _ hrf h0
def L_X9_pushes (a1 : Int32) (mem : MMt) (Q : Int32 → MMt → Prop) : Prop := L_X9_isSheet a1 mem (fun r2 m1 => ((¬ r2 = 0 → (vp_in a1 4 ∧ L_X6_isMissing (68 + 2 * a1.toNatClampNeg) m1 (fun r6 m5 => ((r6 = 0 → L_J9_min_7cf53 (m5 (68 + 2 * a1.toNatClampNeg) 1) (m5 1 1) m5 (fun r9 m8 => B_X9_pushes_51 (68 + 2 * a1.toNatClampNeg) r9 (0 : Int32) m8 Q)) ∧ (¬ r6 = 0 → L_X9_error (2 : Int32) m5 (fun r11 m10 => Q r11 m10)))))) ∧ (r2 = 0 → L_X9_error (1 : Int32) m1 (fun r13 m12 => Q r13 m12))))
set_option maxRecDepth 4000 in
theorem g_X9_pushes {sx : Nat × (Nat → Int32)} {rf : RFt} {Q : Int32 → MMt → Prop} (a1 : Int32) (hrf : RFok rf) (mem : MMt) (h : L_X9_pushes a1 mem Q) : Ct sx yX9_pushes cX9_pushes 5 (some .int) 4 [.ref 0, .int a1] NX NX rf mem (QQi (RFok) Q) := by
  refine Ct_of [some (.ref 0), some (.int a1), none, none, none] (by decide +kernel) (by simp [Lof, Value.category]) rfl ?_
  unfold L_X9_pushes at h
  refine G_iload_n (i := 1) pX9_pushes_0 rfl rfl ?_
  refine G_callS1i pX9_pushes_1 (g_X9_isSheet a1 hrf _ h) mS_X9_isSheet ml_RX9_252 (by decide) ⟨Nat.le_refl _, Nat.le_refl _, Nat.le_refl _⟩ (Nat.le_of_ble_eq_true rfl) ?_
  intro r2 rf m1 hrf h hr2
  refine G_if_ne pX9_pushes_4 (fun c3 => ?_) (fun c3 => ?_)
  · have h := h.1 c3
    refine G_aload_n (i := 0) pX9_pushes_13 rfl rfl ?_
    refine G_getR (ci := 9) (j := 9) (N := 12) pX9_pushes_14 fl_RX9_64 rfl ltk_0 shk_0 (by decide) rfl (hrf.lit 0 9 rfl) ?_
    refine G_iload_n (i := 1) pX9_pushes_17 rfl rfl ?_
    obtain ⟨hi4, h⟩ := h
    refine G_aald pX9_pushes_18 ltk_66 shk_66 (by decide) hi4 (st_rf hrf hi4) ?_
    refine G_astore_n (i := 2) (L' := [some (.ref 0), some (.int a1), some (.ref (68 + 2 * a1.toNatClampNeg)), none, none]) pX9_pushes_19 rfl rfl ?_
    refine G_aload_n (i := 2) pX9_pushes_20 rfl rfl ?_
    refine G_callV0i (b := 68 + 2 * a1.toNatClampNeg) (ci := 6) (N := 3) pX9_pushes_21 (g_X6_isMissing (68 + 2 * a1.toNatClampNeg) (st_in hi4) hrf _ h) mV_X6_isMissing ml_RX9_255 (by decide) ⟨Nat.le_refl _, Nat.le_refl _, Nat.le_refl _⟩ (Nat.le_of_ble_eq_true rfl) (st_in hi4).2 (st_in hi4).sh6 rfl ?_
    intro r6 rf m5 hrf h hr6
    refine G_if_eq pX9_pushes_24 (fun c7 => ?_) (fun c7 => ?_)
    · have h := h.1 c7
      refine G_aload_n (i := 2) pX9_pushes_33 rfl rfl ?_
      refine G_getI (ci := 6) (j := 1) (N := 3) pX9_pushes_34 fl_RX9_286 rfl (st_in hi4).2 (st_in hi4).sh6 (by decide) rfl ?_
      refine G_aload_n (i := 0) pX9_pushes_37 rfl rfl ?_
      refine G_getR (ci := 9) (j := 0) (N := 12) pX9_pushes_38 fl_RX9_10 rfl ltk_0 shk_0 (by decide) rfl (hrf.lit 0 0 rfl) ?_
      refine G_getI (ci := 0) (j := 1) (N := 4) pX9_pushes_41 fl_RX9_84 rfl ltk_1 shk_1 (by decide) rfl ?_
      refine G_callS2i pX9_pushes_44 (g_J9_min_7cf53 (m5 (68 + 2 * a1.toNatClampNeg) 1) (m5 1 1) hrf _ h) mS_J9_min_7cf53 ml_RX9_307 (by decide) ⟨Nat.le_refl _, Nat.le_refl _, Nat.le_refl _⟩ (Nat.le_of_ble_eq_true rfl) ?_
      intro r9 rf m8 hrf h hr9
      refine G_istore_n (i := 3) (L' := [some (.ref 0), some (.int a1), some (.ref (68 + 2 * a1.toNatClampNeg)), some (.int r9), none]) pX9_pushes_47 rfl rfl ?_
      refine G_iconst pX9_pushes_48 ic_0 ?_
      refine G_istore (i := 4) (L' := [some (.ref 0), some (.int a1), some (.ref (68 + 2 * a1.toNatClampNeg)), some (.int r9), some (.int (0 : Int32))]) pX9_pushes_49 rfl ?_
      refine G_wk (L2 := [some (.ref 0), none, some (.ref (68 + 2 * a1.toNatClampNeg)), some (.int r9), some (.int (0 : Int32))]) ⟨Or.inr rfl, Or.inl rfl, Or.inr rfl, Or.inr rfl, Or.inr rfl, trivial⟩ ?_
      exact gB_X9_pushes_51 hrf (68 + 2 * a1.toNatClampNeg) r9 (0 : Int32) (st_in hi4) _ h
    · have h := h.2 c7
      refine G_aload_n (i := 0) pX9_pushes_27 rfl rfl ?_
      refine G_iconst pX9_pushes_28 ic_2 ?_
      refine G_callV1i (b := 0) (ci := 9) (N := 12) pX9_pushes_29 (g_X9_error (2 : Int32) hrf _ h) mV_X9_error ml_RX9_80 (by decide) ⟨Nat.le_refl _, Nat.le_refl _, Nat.le_refl _⟩ (Nat.le_of_ble_eq_true rfl) ltk_0 shk_0 rfl ?_
      intro r11 rf m10 hrf h hr11
      exact G_ireturn (len := 1) pX9_pushes_32 ⟨hrf, _, rfl, h⟩ ⟨_, rfl, rfl⟩
  · have h := h.2 c3
    refine G_aload_n (i := 0) pX9_pushes_7 rfl rfl ?_
    refine G_iconst pX9_pushes_8 ic_1 ?_
    refine G_callV1i (b := 0) (ci := 9) (N := 12) pX9_pushes_9 (g_X9_error (1 : Int32) hrf _ h) mV_X9_error ml_RX9_80 (by decide) ⟨Nat.le_refl _, Nat.le_refl _, Nat.le_refl _⟩ (Nat.le_of_ble_eq_true rfl) ltk_0 shk_0 rfl ?_
    intro r13 rf m12 hrf h hr13
    exact G_ireturn (len := 1) pX9_pushes_12 ⟨hrf, _, rfl, h⟩ ⟨_, rfl, rfl⟩
def B_X9_judge_51 (x2 : Nat) (x3 : Int32) (x4 : Int32) (mem : MMt) (Q : Int32 → MMt → Prop) : Prop := LOOP (σ := Int32 × MMt) (fun X51 z => (fun (x4 : Int32) (mem : MMt) => ((x3 ≤ x4 → ((¬ (mem x2 1) = (mem 1 1) → Q x3 mem) ∧ ((mem x2 1) = (mem 1 1) → Q (-1 : Int32) mem))) ∧ (¬ x3 ≤ x4 → (vp_in x4 40 ∧ (vp_in x4 8 ∧ (((mem (x2 + 1) x4.toNatClampNeg) = (mem (1 + 2 + x4.toNatClampNeg) 2) → (∀ v6 : Int32, v6 = x4 + (1 : Int32) → X51 (v6, mem))) ∧ (¬ (mem (x2 + 1) x4.toNatClampNeg) = (mem (1 + 2 + x4.toNatClampNeg) 2) → Q x4 mem))))))) z.1 z.2) (x4, mem)
set_option maxRecDepth 4000 in
theorem gB_X9_judge_51 {sx : Nat × (Nat → Int32)} {rf : RFt} {Q : Int32 → MMt → Prop} (hrf : RFok rf) (x2 : Nat) (x3 : Int32) (x4 : Int32) (hx2 : IS 6 x2) (mem : MMt) (h : B_X9_judge_51 x2 x3 x4 mem Q) : G sx yX9_judge cX9_judge 5 (some .int) 3 NX NX (QQi (RFok) Q) NX rf mem 51 [some (.ref 0), none, some (.ref x2), some (.int x3), some (.int x4)] [] := by
  obtain ⟨I, ⟨n, h0⟩, hI⟩ := h
  have key : ∀ (n : Nat) (rf : RFt) (x4 : Int32) (mem : MMt), RFok rf → I n (x4, mem) → G sx yX9_judge cX9_judge 5 (some .int) 3 NX NX (QQi (RFok) Q) NX rf mem 51 [some (.ref 0), none, some (.ref x2), some (.int x3), some (.int x4)] [] := by
    intro n
    induction n using Nat.strongRecOn with
    | _ n ih =>
    intro rf x4 mem hrf h0
    have hX51 : ∀ (rf : RFt) (x4 : Int32) (mem : MMt), RFok rf → (fun s' => ∃ m, m < n ∧ I m s') (x4, mem) → G sx yX9_judge cX9_judge 5 (some .int) 3 NX NX (QQi (RFok) Q) NX rf mem 51 [some (.ref 0), none, some (.ref x2), some (.int x3), some (.int x4)] [] := fun rf x4 mem hrf ⟨m, hm, hi⟩ => ih m hm rf x4 mem hrf hi
    have h := hI n _ h0
    clear ih h0
    try dsimp only at h
    refine G_iload (i := 4) pX9_judge_51 rfl ?_
    refine G_iload_n (i := 3) pX9_judge_53 rfl rfl ?_
    refine G_icmp_ge pX9_judge_54 (fun c1 => ?_) (fun c1 => ?_)
    · have h := h.1 c1
      refine G_aload_n (i := 2) pX9_judge_89 rfl rfl ?_
      refine G_getI (ci := 6) (j := 1) (N := 3) pX9_judge_90 fl_RX9_286 rfl hx2.2 hx2.sh6 (by decide) rfl ?_
      refine G_aload_n (i := 0) pX9_judge_93 rfl rfl ?_
      refine G_getR (ci := 9) (j := 0) (N := 12) pX9_judge_94 fl_RX9_10 rfl ltk_0 shk_0 (by decide) rfl (hrf.lit 0 0 rfl) ?_
      refine G_getI (ci := 0) (j := 1) (N := 4) pX9_judge_97 fl_RX9_84 rfl ltk_1 shk_1 (by decide) rfl ?_
      refine G_icmp_ne pX9_judge_100 (fun c2 => ?_) (fun c2 => ?_)
      · have h := h.1 c2
        refine G_iload_n (i := 3) pX9_judge_107 rfl rfl ?_
        exact G_ireturn (len := 1) pX9_judge_108 ⟨hrf, _, rfl, h⟩ ⟨_, rfl, rfl⟩
      · have h := h.2 c2
        refine G_iconst pX9_judge_103 ic_m1 ?_
        refine G_goto pX9_judge_104 ?_
        exact G_ireturn (len := 1) pX9_judge_108 ⟨hrf, _, rfl, h⟩ ⟨_, rfl, rfl⟩
    · have h := h.2 c1
      refine G_aload_n (i := 2) pX9_judge_57 rfl rfl ?_
      refine G_getR (ci := 6) (j := 2) (N := 3) pX9_judge_58 fl_RX9_289 rfl hx2.2 hx2.sh6 (by decide) rfl ((lay_6_2 hx2).2.2 hrf) ?_
      refine G_iload (i := 4) pX9_judge_61 rfl ?_
      obtain ⟨hi3, h⟩ := h
      refine G_iald pX9_judge_63 (lay_6_2 hx2).2.1 (lay_6_2 hx2).1 hi3 ?_
      refine G_aload_n (i := 0) pX9_judge_64 rfl rfl ?_
      refine G_getR (ci := 9) (j := 0) (N := 12) pX9_judge_65 fl_RX9_10 rfl ltk_0 shk_0 (by decide) rfl (hrf.lit 0 0 rfl) ?_
      refine G_getR (ci := 0) (j := 0) (N := 4) pX9_judge_68 fl_RX9_88 rfl ltk_1 shk_1 (by decide) rfl (hrf.lit 1 0 rfl) ?_
      refine G_iload (i := 4) pX9_judge_71 rfl ?_
      obtain ⟨hi4, h⟩ := h
      refine G_aald pX9_judge_73 ltk_2 shk_2 (by decide) hi4 (gd_rf (IS_lit shk_1 ltk_1) hrf hi4) ?_
      refine G_getI (ci := 1) (j := 2) (N := 5) pX9_judge_74 fl_RX9_114 rfl (gd_in (IS_lit shk_1 ltk_1) hi4).2 (gd_in (IS_lit shk_1 ltk_1) hi4).sh1 (by decide) rfl ?_
      refine G_icmp_eq pX9_judge_77 (fun c5 => ?_) (fun c5 => ?_)
      · have h := h.1 c5
        obtain ⟨v6, e6⟩ : ∃ z : Int32, z = x4 + (1 : Int32) := ⟨_, rfl⟩
        have h := h v6 e6
        refine G_iincW (L' := [some (.ref 0), none, some (.ref x2), some (.int x3), some (.int v6)]) pX9_judge_83 rfl ic_1 e6.symm rfl ?_
        refine G_goto pX9_judge_86 ?_
        exact hX51 _ _ _ hrf h
      · have h := h.2 c5
        refine G_iload (i := 4) pX9_judge_80 rfl ?_
        exact G_ireturn (len := 1) pX9_judge_82 ⟨hrf, _, rfl, h⟩ ⟨_, rfl, rfl⟩
  exact key n rf _ _ hrf h0
def L_X9_judge (a1 : Int32) (mem : MMt) (Q : Int32 → MMt → Prop) : Prop := L_X9_isSheet a1 mem (fun r2 m1 => ((¬ r2 = 0 → (vp_in a1 4 ∧ L_X6_isMissing (68 + 2 * a1.toNatClampNeg) m1 (fun r6 m5 => ((r6 = 0 → L_J9_min_7cf53 (m5 (68 + 2 * a1.toNatClampNeg) 1) (m5 1 1) m5 (fun r9 m8 => B_X9_judge_51 (68 + 2 * a1.toNatClampNeg) r9 (0 : Int32) m8 Q)) ∧ (¬ r6 = 0 → L_X9_error (2 : Int32) m5 (fun r11 m10 => Q r11 m10)))))) ∧ (r2 = 0 → L_X9_error (1 : Int32) m1 (fun r13 m12 => Q r13 m12))))
set_option maxRecDepth 4000 in
theorem g_X9_judge {sx : Nat × (Nat → Int32)} {rf : RFt} {Q : Int32 → MMt → Prop} (a1 : Int32) (hrf : RFok rf) (mem : MMt) (h : L_X9_judge a1 mem Q) : Ct sx yX9_judge cX9_judge 5 (some .int) 3 [.ref 0, .int a1] NX NX rf mem (QQi (RFok) Q) := by
  refine Ct_of [some (.ref 0), some (.int a1), none, none, none] (by decide +kernel) (by simp [Lof, Value.category]) rfl ?_
  unfold L_X9_judge at h
  refine G_iload_n (i := 1) pX9_judge_0 rfl rfl ?_
  refine G_callS1i pX9_judge_1 (g_X9_isSheet a1 hrf _ h) mS_X9_isSheet ml_RX9_252 (by decide) ⟨Nat.le_refl _, Nat.le_refl _, Nat.le_refl _⟩ (Nat.le_of_ble_eq_true rfl) ?_
  intro r2 rf m1 hrf h hr2
  refine G_if_ne pX9_judge_4 (fun c3 => ?_) (fun c3 => ?_)
  · have h := h.1 c3
    refine G_aload_n (i := 0) pX9_judge_13 rfl rfl ?_
    refine G_getR (ci := 9) (j := 9) (N := 12) pX9_judge_14 fl_RX9_64 rfl ltk_0 shk_0 (by decide) rfl (hrf.lit 0 9 rfl) ?_
    refine G_iload_n (i := 1) pX9_judge_17 rfl rfl ?_
    obtain ⟨hi4, h⟩ := h
    refine G_aald pX9_judge_18 ltk_66 shk_66 (by decide) hi4 (st_rf hrf hi4) ?_
    refine G_astore_n (i := 2) (L' := [some (.ref 0), some (.int a1), some (.ref (68 + 2 * a1.toNatClampNeg)), none, none]) pX9_judge_19 rfl rfl ?_
    refine G_aload_n (i := 2) pX9_judge_20 rfl rfl ?_
    refine G_callV0i (b := 68 + 2 * a1.toNatClampNeg) (ci := 6) (N := 3) pX9_judge_21 (g_X6_isMissing (68 + 2 * a1.toNatClampNeg) (st_in hi4) hrf _ h) mV_X6_isMissing ml_RX9_255 (by decide) ⟨Nat.le_refl _, Nat.le_refl _, Nat.le_refl _⟩ (Nat.le_of_ble_eq_true rfl) (st_in hi4).2 (st_in hi4).sh6 rfl ?_
    intro r6 rf m5 hrf h hr6
    refine G_if_eq pX9_judge_24 (fun c7 => ?_) (fun c7 => ?_)
    · have h := h.1 c7
      refine G_aload_n (i := 2) pX9_judge_33 rfl rfl ?_
      refine G_getI (ci := 6) (j := 1) (N := 3) pX9_judge_34 fl_RX9_286 rfl (st_in hi4).2 (st_in hi4).sh6 (by decide) rfl ?_
      refine G_aload_n (i := 0) pX9_judge_37 rfl rfl ?_
      refine G_getR (ci := 9) (j := 0) (N := 12) pX9_judge_38 fl_RX9_10 rfl ltk_0 shk_0 (by decide) rfl (hrf.lit 0 0 rfl) ?_
      refine G_getI (ci := 0) (j := 1) (N := 4) pX9_judge_41 fl_RX9_84 rfl ltk_1 shk_1 (by decide) rfl ?_
      refine G_callS2i pX9_judge_44 (g_J9_min_7cf53 (m5 (68 + 2 * a1.toNatClampNeg) 1) (m5 1 1) hrf _ h) mS_J9_min_7cf53 ml_RX9_307 (by decide) ⟨Nat.le_refl _, Nat.le_refl _, Nat.le_refl _⟩ (Nat.le_of_ble_eq_true rfl) ?_
      intro r9 rf m8 hrf h hr9
      refine G_istore_n (i := 3) (L' := [some (.ref 0), some (.int a1), some (.ref (68 + 2 * a1.toNatClampNeg)), some (.int r9), none]) pX9_judge_47 rfl rfl ?_
      refine G_iconst pX9_judge_48 ic_0 ?_
      refine G_istore (i := 4) (L' := [some (.ref 0), some (.int a1), some (.ref (68 + 2 * a1.toNatClampNeg)), some (.int r9), some (.int (0 : Int32))]) pX9_judge_49 rfl ?_
      refine G_wk (L2 := [some (.ref 0), none, some (.ref (68 + 2 * a1.toNatClampNeg)), some (.int r9), some (.int (0 : Int32))]) ⟨Or.inr rfl, Or.inl rfl, Or.inr rfl, Or.inr rfl, Or.inr rfl, trivial⟩ ?_
      exact gB_X9_judge_51 hrf (68 + 2 * a1.toNatClampNeg) r9 (0 : Int32) (st_in hi4) _ h
    · have h := h.2 c7
      refine G_aload_n (i := 0) pX9_judge_27 rfl rfl ?_
      refine G_iconst pX9_judge_28 ic_2 ?_
      refine G_callV1i (b := 0) (ci := 9) (N := 12) pX9_judge_29 (g_X9_error (2 : Int32) hrf _ h) mV_X9_error ml_RX9_80 (by decide) ⟨Nat.le_refl _, Nat.le_refl _, Nat.le_refl _⟩ (Nat.le_of_ble_eq_true rfl) ltk_0 shk_0 rfl ?_
      intro r11 rf m10 hrf h hr11
      exact G_ireturn (len := 1) pX9_judge_32 ⟨hrf, _, rfl, h⟩ ⟨_, rfl, rfl⟩
  · have h := h.2 c3
    refine G_aload_n (i := 0) pX9_judge_7 rfl rfl ?_
    refine G_iconst pX9_judge_8 ic_1 ?_
    refine G_callV1i (b := 0) (ci := 9) (N := 12) pX9_judge_9 (g_X9_error (1 : Int32) hrf _ h) mV_X9_error ml_RX9_80 (by decide) ⟨Nat.le_refl _, Nat.le_refl _, Nat.le_refl _⟩ (Nat.le_of_ble_eq_true rfl) ltk_0 shk_0 rfl ?_
    intro r13 rf m12 hrf h hr13
    exact G_ireturn (len := 1) pX9_judge_12 ⟨hrf, _, rfl, h⟩ ⟨_, rfl, rfl⟩
def L_X5_copyFrom (q0 : Nat) (a1 : Nat) (mem : MMt) (Q : MMt → Prop) : Prop := (∀ m1 : MMt, m1 = up2 mem q0 0 (mem a1 0) → (∀ m2 : MMt, m2 = up2 m1 (q0 + 1) 0 (m1 (a1 + 1) 0) → (∀ m3 : MMt, m3 = up2 m2 (q0 + 1) 1 (m2 (a1 + 1) 1) → (∀ m4 : MMt, m4 = up2 m3 q0 2 (m3 a1 2) → (∀ m5 : MMt, m5 = up2 m4 q0 4 (m4 a1 4) → ((¬ (0 : Int32) < 0 ∧ ¬ (0 : Int32) < 0 ∧ ¬ (50 : Int32) < 0 ∧ (0 : Int32).toNatClampNeg + (50 : Int32).toNatClampNeg ≤ 50 ∧ (0 : Int32).toNatClampNeg + (50 : Int32).toNatClampNeg ≤ 50) ∧ (∀ i, i < (50 : Int32).toNatClampNeg → fits .byte (.int (m5 (a1 + 2) ((0 : Int32).toNatClampNeg + i))) = true) ∧ ∀ m6 : MMt, m6 = cp2 m5 (a1 + 2) (q0 + 2) (0 : Int32).toNatClampNeg (0 : Int32).toNatClampNeg (50 : Int32).toNatClampNeg → (∀ m8 : MMt, m8 = up2 m6 q0 6 (m6 a1 6) → ((¬ (0 : Int32) < 0 ∧ ¬ (0 : Int32) < 0 ∧ ¬ (20 : Int32) < 0 ∧ (0 : Int32).toNatClampNeg + (20 : Int32).toNatClampNeg ≤ 20 ∧ (0 : Int32).toNatClampNeg + (20 : Int32).toNatClampNeg ≤ 20) ∧ ∀ m9 : MMt, m9 = cp2 m8 (a1 + 3) (q0 + 3) (0 : Int32).toNatClampNeg (0 : Int32).toNatClampNeg (20 : Int32).toNatClampNeg → L_X2_hold (q0 + 4) (a1 + 4 + 1) (m9 (a1 + 4) 2) m9 (fun m11 => L_X2_hold (q0 + 7) (a1 + 7 + 1) (m11 (a1 + 7) 2) m11 (fun m12 => L_X5_forgetPulls q0 m12 (fun m13 => Q m13)))))))))))
set_option maxRecDepth 4000 in
theorem g_X5_copyFrom {sx : Nat × (Nat → Int32)} {rf : RFt} {Q : MMt → Prop} (q0 : Nat) (a1 : Nat) (hq0 : IS 5 q0) (ha1 : IS 5 a1) (hrf : RFok rf) (mem : MMt) (h : L_X5_copyFrom q0 a1 mem Q) : Ct sx yX5_copyFrom cX5_copyFrom 2 none 4 [.ref q0, .ref a1] NX NX rf mem (QQv (RFok) Q) := by
  refine Ct_of [some (.ref q0), some (.ref a1)] (by decide +kernel) (by simp [Lof, Value.category]) rfl ?_
  unfold L_X5_copyFrom at h
  refine G_aload_n (i := 0) pX5_copyFrom_0 rfl rfl ?_
  refine G_aload_n (i := 1) pX5_copyFrom_1 rfl rfl ?_
  refine G_getI (ci := 5) (j := 0) (N := 10) pX5_copyFrom_2 fl_RX5_9 rfl ha1.2 ha1.sh5 (by decide) rfl ?_
  obtain ⟨m1, em1⟩ : ∃ z : MMt, z = up2 mem q0 0 (mem a1 0) := ⟨_, rfl⟩
  have h := h m1 em1
  refine G_putIW (ci := 5) (j := 0) (N := 10) pX5_copyFrom_5 fw_RX5_9 rfl hq0.2 hq0.sh5 (by decide) rfl (fun _ => ⟨rfl, rfl⟩) em1.symm ?_
  refine G_aload_n (i := 0) pX5_copyFrom_8 rfl rfl ?_
  refine G_getR (ci := 5) (j := 1) (N := 10) pX5_copyFrom_9 fl_RX5_15 rfl hq0.2 hq0.sh5 (by decide) rfl ((lay_5_1 hq0).2.2 hrf) ?_
  refine G_iconst pX5_copyFrom_12 ic_0 ?_
  refine G_aload_n (i := 1) pX5_copyFrom_13 rfl rfl ?_
  refine G_getR (ci := 5) (j := 1) (N := 10) pX5_copyFrom_14 fl_RX5_15 rfl ha1.2 ha1.sh5 (by decide) rfl ((lay_5_1 ha1).2.2 hrf) ?_
  refine G_iconst pX5_copyFrom_17 ic_0 ?_
  refine G_ialdL (j := 0) pX5_copyFrom_18 (lay_5_1 ha1).2.1 (lay_5_1 ha1).1 (vpl (by decide)) (by decide) ?_
  obtain ⟨m2, em2⟩ : ∃ z : MMt, z = up2 m1 (q0 + 1) 0 (m1 (a1 + 1) 0) := ⟨_, rfl⟩
  have h := h m2 em2
  refine G_iastL (j := 0) pX5_copyFrom_19 (lay_5_1 hq0).2.1 (lay_5_1 hq0).1 (vpl (by decide)) (by decide) em2.symm ?_
  refine G_aload_n (i := 0) pX5_copyFrom_20 rfl rfl ?_
  refine G_getR (ci := 5) (j := 1) (N := 10) pX5_copyFrom_21 fl_RX5_15 rfl hq0.2 hq0.sh5 (by decide) rfl ((lay_5_1 hq0).2.2 hrf) ?_
  refine G_iconst pX5_copyFrom_24 ic_1 ?_
  refine G_aload_n (i := 1) pX5_copyFrom_25 rfl rfl ?_
  refine G_getR (ci := 5) (j := 1) (N := 10) pX5_copyFrom_26 fl_RX5_15 rfl ha1.2 ha1.sh5 (by decide) rfl ((lay_5_1 ha1).2.2 hrf) ?_
  refine G_iconst pX5_copyFrom_29 ic_1 ?_
  refine G_ialdL (j := 1) pX5_copyFrom_30 (lay_5_1 ha1).2.1 (lay_5_1 ha1).1 (vpl (by decide)) (by decide) ?_
  obtain ⟨m3, em3⟩ : ∃ z : MMt, z = up2 m2 (q0 + 1) 1 (m2 (a1 + 1) 1) := ⟨_, rfl⟩
  have h := h m3 em3
  refine G_iastL (j := 1) pX5_copyFrom_31 (lay_5_1 hq0).2.1 (lay_5_1 hq0).1 (vpl (by decide)) (by decide) em3.symm ?_
  refine G_aload_n (i := 0) pX5_copyFrom_32 rfl rfl ?_
  refine G_aload_n (i := 1) pX5_copyFrom_33 rfl rfl ?_
  refine G_getI (ci := 5) (j := 2) (N := 10) pX5_copyFrom_34 fl_RX5_19 rfl ha1.2 ha1.sh5 (by decide) rfl ?_
  obtain ⟨m4, em4⟩ : ∃ z : MMt, z = up2 m3 q0 2 (m3 a1 2) := ⟨_, rfl⟩
  have h := h m4 em4
  refine G_putIW (ci := 5) (j := 2) (N := 10) pX5_copyFrom_37 fw_RX5_19 rfl hq0.2 hq0.sh5 (by decide) rfl (fun _ => ⟨rfl, rfl⟩) em4.symm ?_
  refine G_aload_n (i := 0) pX5_copyFrom_40 rfl rfl ?_
  refine G_aload_n (i := 1) pX5_copyFrom_41 rfl rfl ?_
  refine G_getI (ci := 5) (j := 4) (N := 10) pX5_copyFrom_42 fl_RX5_47 rfl ha1.2 ha1.sh5 (by decide) rfl ?_
  obtain ⟨m5, em5⟩ : ∃ z : MMt, z = up2 m4 q0 4 (m4 a1 4) := ⟨_, rfl⟩
  have h := h m5 em5
  refine G_putIW (ci := 5) (j := 4) (N := 10) pX5_copyFrom_45 fw_RX5_47 rfl hq0.2 hq0.sh5 (by decide) rfl (fun _ => ⟨rfl, rfl⟩) em5.symm ?_
  refine G_aload_n (i := 1) pX5_copyFrom_48 rfl rfl ?_
  refine G_getR (ci := 5) (j := 3) (N := 10) pX5_copyFrom_49 fl_RX5_22 rfl ha1.2 ha1.sh5 (by decide) rfl ((lay_5_3 ha1).2.2 hrf) ?_
  refine G_iconst pX5_copyFrom_52 ic_0 ?_
  refine G_aload_n (i := 0) pX5_copyFrom_53 rfl rfl ?_
  refine G_getR (ci := 5) (j := 3) (N := 10) pX5_copyFrom_54 fl_RX5_22 rfl hq0.2 hq0.sh5 (by decide) rfl ((lay_5_3 hq0).2.2 hrf) ?_
  refine G_iconst pX5_copyFrom_57 ic_0 ?_
  refine G_bipush pX5_copyFrom_58 bi_50 ?_
  obtain ⟨hb7, hb7f, h⟩ := h
  obtain ⟨m6, em6⟩ : ∃ z : MMt, z = cp2 m5 (a1 + 2) (q0 + 2) (0 : Int32).toNatClampNeg (0 : Int32).toNatClampNeg (50 : Int32).toNatClampNeg := ⟨_, rfl⟩
  have h := h m6 em6
  refine G_copyW (kd := 1) pX5_copyFrom_60 (Or.inr ⟨rfl, rfl⟩) ml_RX5_50 wcopy (lay_5_3 ha1).2.1 (lay_5_3 hq0).2.1 (lay_5_3 ha1).1 (lay_5_3 hq0).1 hb7 hb7f (Nat.le_of_ble_eq_true rfl) (by first | decide | omega) wcopyN em6.symm ?_
  refine G_aload_n (i := 0) pX5_copyFrom_63 rfl rfl ?_
  refine G_aload_n (i := 1) pX5_copyFrom_64 rfl rfl ?_
  refine G_getI (ci := 5) (j := 6) (N := 10) pX5_copyFrom_65 fl_RX5_56 rfl ha1.2 ha1.sh5 (by decide) rfl ?_
  obtain ⟨m8, em8⟩ : ∃ z : MMt, z = up2 m6 q0 6 (m6 a1 6) := ⟨_, rfl⟩
  have h := h m8 em8
  refine G_putIW (ci := 5) (j := 6) (N := 10) pX5_copyFrom_68 fw_RX5_56 rfl hq0.2 hq0.sh5 (by decide) rfl (fun _ => ⟨rfl, rfl⟩) em8.symm ?_
  refine G_aload_n (i := 1) pX5_copyFrom_71 rfl rfl ?_
  refine G_getR (ci := 5) (j := 5) (N := 10) pX5_copyFrom_72 fl_RX5_26 rfl ha1.2 ha1.sh5 (by decide) rfl ((lay_5_5 ha1).2.2 hrf) ?_
  refine G_iconst pX5_copyFrom_75 ic_0 ?_
  refine G_aload_n (i := 0) pX5_copyFrom_76 rfl rfl ?_
  refine G_getR (ci := 5) (j := 5) (N := 10) pX5_copyFrom_77 fl_RX5_26 rfl hq0.2 hq0.sh5 (by decide) rfl ((lay_5_5 hq0).2.2 hrf) ?_
  refine G_iconst pX5_copyFrom_80 ic_0 ?_
  refine G_bipush pX5_copyFrom_81 bi_20 ?_
  obtain ⟨hb10, h⟩ := h
  obtain ⟨m9, em9⟩ : ∃ z : MMt, z = cp2 m8 (a1 + 3) (q0 + 3) (0 : Int32).toNatClampNeg (0 : Int32).toNatClampNeg (20 : Int32).toNatClampNeg := ⟨_, rfl⟩
  have h := h m9 em9
  refine G_copyW (kd := 0) pX5_copyFrom_83 (Or.inl ⟨rfl, rfl⟩) ml_RX5_50 wcopy (lay_5_5 ha1).2.1 (lay_5_5 hq0).2.1 (lay_5_5 ha1).1 (lay_5_5 hq0).1 hb10 (fun _ _ => rfl) (Nat.le_of_ble_eq_true rfl) (by first | decide | omega) wcopyN em9.symm ?_
  refine G_aload_n (i := 0) pX5_copyFrom_86 rfl rfl ?_
  refine G_getR (ci := 5) (j := 7) (N := 10) pX5_copyFrom_87 fl_RX5_34 rfl hq0.2 hq0.sh5 (by decide) rfl ((lay_5_7 hq0).2.2.1 hrf) ?_
  refine G_aload_n (i := 1) pX5_copyFrom_90 rfl rfl ?_
  refine G_getR (ci := 5) (j := 7) (N := 10) pX5_copyFrom_91 fl_RX5_34 rfl ha1.2 ha1.sh5 (by decide) rfl ((lay_5_7 ha1).2.2.1 hrf) ?_
  refine G_getR (ci := 2) (j := 1) (N := 4) pX5_copyFrom_94 fl_RX5_59 rfl (lay_5_7 ha1).2.2.2.2 (lay_5_7 ha1).2.2.2.sh2 (by decide) rfl ((lay_2_1 (lay_5_7 ha1).2.2.2).2.2 hrf) ?_
  refine G_aload_n (i := 1) pX5_copyFrom_97 rfl rfl ?_
  refine G_getR (ci := 5) (j := 7) (N := 10) pX5_copyFrom_98 fl_RX5_34 rfl ha1.2 ha1.sh5 (by decide) rfl ((lay_5_7 ha1).2.2.1 hrf) ?_
  refine G_getI (ci := 2) (j := 2) (N := 4) pX5_copyFrom_101 fl_RX5_62 rfl (lay_5_7 ha1).2.2.2.2 (lay_5_7 ha1).2.2.2.sh2 (by decide) rfl ?_
  refine G_callV2v (b := q0 + 4) (ci := 2) (N := 4) pX5_copyFrom_104 (g_X2_hold (q0 + 4) (a1 + 4 + 1) (m9 (a1 + 4) 2) (lay_5_7 hq0).2.2.2 (lay_2_1 (lay_5_7 ha1).2.2.2).1 (lay_2_1 (lay_5_7 ha1).2.2.2).2.1 hrf _ h) mV_X2_hold ml_RX5_65 (by decide) ⟨Nat.le_refl _, Nat.le_refl _, Nat.le_refl _⟩ (Nat.le_of_ble_eq_true rfl) (lay_5_7 hq0).2.2.2.2 (lay_5_7 hq0).2.2.2.sh2 rfl ?_
  intro rf m11 hrf h
  refine G_aload_n (i := 0) pX5_copyFrom_107 rfl rfl ?_
  refine G_getR (ci := 5) (j := 8) (N := 10) pX5_copyFrom_108 fl_RX5_38 rfl hq0.2 hq0.sh5 (by decide) rfl ((lay_5_8 hq0).2.2.1 hrf) ?_
  refine G_aload_n (i := 1) pX5_copyFrom_111 rfl rfl ?_
  refine G_getR (ci := 5) (j := 8) (N := 10) pX5_copyFrom_112 fl_RX5_38 rfl ha1.2 ha1.sh5 (by decide) rfl ((lay_5_8 ha1).2.2.1 hrf) ?_
  refine G_getR (ci := 2) (j := 1) (N := 4) pX5_copyFrom_115 fl_RX5_59 rfl (lay_5_8 ha1).2.2.2.2 (lay_5_8 ha1).2.2.2.sh2 (by decide) rfl ((lay_2_1 (lay_5_8 ha1).2.2.2).2.2 hrf) ?_
  refine G_aload_n (i := 1) pX5_copyFrom_118 rfl rfl ?_
  refine G_getR (ci := 5) (j := 8) (N := 10) pX5_copyFrom_119 fl_RX5_38 rfl ha1.2 ha1.sh5 (by decide) rfl ((lay_5_8 ha1).2.2.1 hrf) ?_
  refine G_getI (ci := 2) (j := 2) (N := 4) pX5_copyFrom_122 fl_RX5_62 rfl (lay_5_8 ha1).2.2.2.2 (lay_5_8 ha1).2.2.2.sh2 (by decide) rfl ?_
  refine G_callV2v (b := q0 + 7) (ci := 2) (N := 4) pX5_copyFrom_125 (g_X2_hold (q0 + 7) (a1 + 7 + 1) (m11 (a1 + 7) 2) (lay_5_8 hq0).2.2.2 (lay_2_1 (lay_5_8 ha1).2.2.2).1 (lay_2_1 (lay_5_8 ha1).2.2.2).2.1 hrf _ h) mV_X2_hold ml_RX5_65 (by decide) ⟨Nat.le_refl _, Nat.le_refl _, Nat.le_refl _⟩ (Nat.le_of_ble_eq_true rfl) (lay_5_8 hq0).2.2.2.2 (lay_5_8 hq0).2.2.2.sh2 rfl ?_
  intro rf m12 hrf h
  refine G_aload_n (i := 0) pX5_copyFrom_128 rfl rfl ?_
  refine G_callV0v (b := q0) (ci := 5) (N := 10) pX5_copyFrom_129 (g_X5_forgetPulls q0 hq0 hrf _ h) mV_X5_forgetPulls ml_RX5_44 (by decide) ⟨Nat.le_refl _, Nat.le_refl _, Nat.le_refl _⟩ (Nat.le_of_ble_eq_true rfl) hq0.2 hq0.sh5 rfl ?_
  intro rf m13 hrf h
  exact G_return (len := 1) pX5_copyFrom_132 ⟨hrf, rfl, h⟩ rfl
def L_X9_image (mem : MMt) (Q : Int32 → MMt → Prop) : Prop := L_X0_copyFrom 22 1 mem (fun m1 => L_X5_copyFrom 32 11 m1 (fun m2 => (∀ m3 : MMt, m3 = up2 m2 0 11 ((m2 0 11) + (1 : Int32)) → Q (m3 0 11) m3)))
set_option maxRecDepth 4000 in
theorem g_X9_image {sx : Nat × (Nat → Int32)} {rf : RFt} {Q : Int32 → MMt → Prop} (hrf : RFok rf) (mem : MMt) (h : L_X9_image mem Q) : Ct sx yX9_image cX9_image 1 (some .int) 5 [.ref 0] NX NX rf mem (QQi (RFok) Q) := by
  refine Ct_of [some (.ref 0)] (by decide +kernel) (by simp [Lof, Value.category]) rfl ?_
  unfold L_X9_image at h
  refine G_aload_n (i := 0) pX9_image_0 rfl rfl ?_
  refine G_getR (ci := 9) (j := 2) (N := 12) pX9_image_1 fl_RX9_23 rfl ltk_0 shk_0 (by decide) rfl (hrf.lit 0 2 rfl) ?_
  refine G_aload_n (i := 0) pX9_image_4 rfl rfl ?_
  refine G_getR (ci := 9) (j := 0) (N := 12) pX9_image_5 fl_RX9_10 rfl ltk_0 shk_0 (by decide) rfl (hrf.lit 0 0 rfl) ?_
  refine G_callV1v (b := 22) (ci := 0) (N := 4) pX9_image_8 (g_X0_copyFrom 22 1 (IS_lit shk_22 ltk_22) (IS_lit shk_1 ltk_1) hrf _ h) mV_X0_copyFrom ml_RX9_216 (by decide) ⟨Nat.le_refl _, Nat.le_refl _, Nat.le_refl _⟩ (Nat.le_of_ble_eq_true rfl) ltk_22 shk_22 rfl ?_
  intro rf m1 hrf h
  refine G_aload_n (i := 0) pX9_image_11 rfl rfl ?_
  refine G_getR (ci := 9) (j := 3) (N := 12) pX9_image_12 fl_RX9_26 rfl ltk_0 shk_0 (by decide) rfl (hrf.lit 0 3 rfl) ?_
  refine G_aload_n (i := 0) pX9_image_15 rfl rfl ?_
  refine G_getR (ci := 9) (j := 1) (N := 12) pX9_image_16 fl_RX9_19 rfl ltk_0 shk_0 (by decide) rfl (hrf.lit 0 1 rfl) ?_
  refine G_callV1v (b := 32) (ci := 5) (N := 10) pX9_image_19 (g_X5_copyFrom 32 11 (IS_lit shk_32 ltk_32) (IS_lit shk_11 ltk_11) hrf _ h) mV_X5_copyFrom ml_RX9_313 (by decide) ⟨Nat.le_refl _, Nat.le_refl _, Nat.le_refl _⟩ (Nat.le_of_ble_eq_true rfl) ltk_32 shk_32 rfl ?_
  intro rf m2 hrf h
  refine G_aload_n (i := 0) pX9_image_22 rfl rfl ?_
  refine G_dup pX9_image_23 rfl ?_
  refine G_getI (ci := 9) (j := 11) (N := 12) pX9_image_24 fl_RX9_315 rfl ltk_0 shk_0 (by decide) rfl ?_
  refine G_iconst pX9_image_27 ic_1 ?_
  refine G_iadd pX9_image_28 ?_
  obtain ⟨m3, em3⟩ : ∃ z : MMt, z = up2 m2 0 11 ((m2 0 11) + (1 : Int32)) := ⟨_, rfl⟩
  have h := h m3 em3
  refine G_putIW (ci := 9) (j := 11) (N := 12) pX9_image_29 fw_RX9_315 rfl ltk_0 shk_0 (by decide) rfl (fun _ => ⟨rfl, rfl⟩) em3.symm ?_
  refine G_aload_n (i := 0) pX9_image_32 rfl rfl ?_
  refine G_getI (ci := 9) (j := 11) (N := 12) pX9_image_33 fl_RX9_315 rfl ltk_0 shk_0 (by decide) rfl ?_
  exact G_ireturn (len := 1) pX9_image_36 ⟨hrf, _, rfl, h⟩ ⟨_, rfl, rfl⟩
def L_X9_restore (mem : MMt) (Q : Int32 → MMt → Prop) : Prop := ((¬ (mem 0 11) = 0 → L_X0_copyFrom 1 22 mem (fun m2 => L_X5_copyFrom 11 32 m2 (fun m3 => Q (m3 1 2) m3))) ∧ ((mem 0 11) = 0 → L_X9_error (2 : Int32) mem (fun r5 m4 => Q r5 m4)))
set_option maxRecDepth 4000 in
theorem g_X9_restore {sx : Nat × (Nat → Int32)} {rf : RFt} {Q : Int32 → MMt → Prop} (hrf : RFok rf) (mem : MMt) (h : L_X9_restore mem Q) : Ct sx yX9_restore cX9_restore 1 (some .int) 5 [.ref 0] NX NX rf mem (QQi (RFok) Q) := by
  refine Ct_of [some (.ref 0)] (by decide +kernel) (by simp [Lof, Value.category]) rfl ?_
  unfold L_X9_restore at h
  refine G_aload_n (i := 0) pX9_restore_0 rfl rfl ?_
  refine G_getI (ci := 9) (j := 11) (N := 12) pX9_restore_1 fl_RX9_315 rfl ltk_0 shk_0 (by decide) rfl ?_
  refine G_if_ne pX9_restore_4 (fun c1 => ?_) (fun c1 => ?_)
  · have h := h.1 c1
    refine G_aload_n (i := 0) pX9_restore_13 rfl rfl ?_
    refine G_getR (ci := 9) (j := 0) (N := 12) pX9_restore_14 fl_RX9_10 rfl ltk_0 shk_0 (by decide) rfl (hrf.lit 0 0 rfl) ?_
    refine G_aload_n (i := 0) pX9_restore_17 rfl rfl ?_
    refine G_getR (ci := 9) (j := 2) (N := 12) pX9_restore_18 fl_RX9_23 rfl ltk_0 shk_0 (by decide) rfl (hrf.lit 0 2 rfl) ?_
    refine G_callV1v (b := 1) (ci := 0) (N := 4) pX9_restore_21 (g_X0_copyFrom 1 22 (IS_lit shk_1 ltk_1) (IS_lit shk_22 ltk_22) hrf _ h) mV_X0_copyFrom ml_RX9_216 (by decide) ⟨Nat.le_refl _, Nat.le_refl _, Nat.le_refl _⟩ (Nat.le_of_ble_eq_true rfl) ltk_1 shk_1 rfl ?_
    intro rf m2 hrf h
    refine G_aload_n (i := 0) pX9_restore_24 rfl rfl ?_
    refine G_getR (ci := 9) (j := 1) (N := 12) pX9_restore_25 fl_RX9_19 rfl ltk_0 shk_0 (by decide) rfl (hrf.lit 0 1 rfl) ?_
    refine G_aload_n (i := 0) pX9_restore_28 rfl rfl ?_
    refine G_getR (ci := 9) (j := 3) (N := 12) pX9_restore_29 fl_RX9_26 rfl ltk_0 shk_0 (by decide) rfl (hrf.lit 0 3 rfl) ?_
    refine G_callV1v (b := 11) (ci := 5) (N := 10) pX9_restore_32 (g_X5_copyFrom 11 32 (IS_lit shk_11 ltk_11) (IS_lit shk_32 ltk_32) hrf _ h) mV_X5_copyFrom ml_RX9_313 (by decide) ⟨Nat.le_refl _, Nat.le_refl _, Nat.le_refl _⟩ (Nat.le_of_ble_eq_true rfl) ltk_11 shk_11 rfl ?_
    intro rf m3 hrf h
    refine G_aload_n (i := 0) pX9_restore_35 rfl rfl ?_
    refine G_getR (ci := 9) (j := 0) (N := 12) pX9_restore_36 fl_RX9_10 rfl ltk_0 shk_0 (by decide) rfl (hrf.lit 0 0 rfl) ?_
    refine G_getI (ci := 0) (j := 2) (N := 4) pX9_restore_39 fl_RX9_166 rfl ltk_1 shk_1 (by decide) rfl ?_
    exact G_ireturn (len := 1) pX9_restore_42 ⟨hrf, _, rfl, h⟩ ⟨_, rfl, rfl⟩
  · have h := h.2 c1
    refine G_aload_n (i := 0) pX9_restore_7 rfl rfl ?_
    refine G_iconst pX9_restore_8 ic_2 ?_
    refine G_callV1i (b := 0) (ci := 9) (N := 12) pX9_restore_9 (g_X9_error (2 : Int32) hrf _ h) mV_X9_error ml_RX9_80 (by decide) ⟨Nat.le_refl _, Nat.le_refl _, Nat.le_refl _⟩ (Nat.le_of_ble_eq_true rfl) ltk_0 shk_0 rfl ?_
    intro r5 rf m4 hrf h hr5
    exact G_ireturn (len := 1) pX9_restore_12 ⟨hrf, _, rfl, h⟩ ⟨_, rfl, rfl⟩
def L_X9_tell (a1 : Int32) (mem : MMt) (Q : Int32 → MMt → Prop) : Prop := (((mem 11 6) < (20 : Int32) → (vp_in (mem 11 6) 20 ∧ ∀ m2 : MMt, m2 = up2 mem 14 (mem 11 6).toNatClampNeg a1 → (∀ m4 : MMt, m4 = up2 m2 11 6 ((m2 11 6) + (1 : Int32)) → Q (m4 11 6) m4))) ∧ (¬ (mem 11 6) < (20 : Int32) → L_X9_error (4 : Int32) mem (fun r6 m5 => Q r6 m5)))
set_option maxRecDepth 4000 in
theorem g_X9_tell {sx : Nat × (Nat → Int32)} {rf : RFt} {Q : Int32 → MMt → Prop} (a1 : Int32) (hrf : RFok rf) (mem : MMt) (h : L_X9_tell a1 mem Q) : Ct sx yX9_tell cX9_tell 2 (some .int) 2 [.ref 0, .int a1] NX NX rf mem (QQi (RFok) Q) := by
  refine Ct_of [some (.ref 0), some (.int a1)] (by decide +kernel) (by simp [Lof, Value.category]) rfl ?_
  unfold L_X9_tell at h
  refine G_aload_n (i := 0) pX9_tell_0 rfl rfl ?_
  refine G_getR (ci := 9) (j := 1) (N := 12) pX9_tell_1 fl_RX9_19 rfl ltk_0 shk_0 (by decide) rfl (hrf.lit 0 1 rfl) ?_
  refine G_getI (ci := 5) (j := 6) (N := 10) pX9_tell_4 fl_RX9_318 rfl ltk_11 shk_11 (by decide) rfl ?_
  refine G_bipush pX9_tell_7 bi_20 ?_
  refine G_icmp_lt pX9_tell_9 (fun c1 => ?_) (fun c1 => ?_)
  · have h := h.1 c1
    refine G_aload_n (i := 0) pX9_tell_18 rfl rfl ?_
    refine G_getR (ci := 9) (j := 1) (N := 12) pX9_tell_19 fl_RX9_19 rfl ltk_0 shk_0 (by decide) rfl (hrf.lit 0 1 rfl) ?_
    refine G_getR (ci := 5) (j := 5) (N := 10) pX9_tell_22 fl_RX9_321 rfl ltk_11 shk_11 (by decide) rfl (hrf.lit 11 5 rfl) ?_
    refine G_aload_n (i := 0) pX9_tell_25 rfl rfl ?_
    refine G_getR (ci := 9) (j := 1) (N := 12) pX9_tell_26 fl_RX9_19 rfl ltk_0 shk_0 (by decide) rfl (hrf.lit 0 1 rfl) ?_
    refine G_getI (ci := 5) (j := 6) (N := 10) pX9_tell_29 fl_RX9_318 rfl ltk_11 shk_11 (by decide) rfl ?_
    refine G_iload_n (i := 1) pX9_tell_32 rfl rfl ?_
    obtain ⟨hi3, h⟩ := h
    obtain ⟨m2, em2⟩ : ∃ z : MMt, z = up2 mem 14 (mem 11 6).toNatClampNeg a1 := ⟨_, rfl⟩
    have h := h m2 em2
    refine G_iastW pX9_tell_33 ltk_14 shk_14 hi3 em2.symm ?_
    refine G_aload_n (i := 0) pX9_tell_34 rfl rfl ?_
    refine G_getR (ci := 9) (j := 1) (N := 12) pX9_tell_35 fl_RX9_19 rfl ltk_0 shk_0 (by decide) rfl (hrf.lit 0 1 rfl) ?_
    refine G_dup pX9_tell_38 rfl ?_
    refine G_getI (ci := 5) (j := 6) (N := 10) pX9_tell_39 fl_RX9_318 rfl ltk_11 shk_11 (by decide) rfl ?_
    refine G_iconst pX9_tell_42 ic_1 ?_
    refine G_iadd pX9_tell_43 ?_
    obtain ⟨m4, em4⟩ : ∃ z : MMt, z = up2 m2 11 6 ((m2 11 6) + (1 : Int32)) := ⟨_, rfl⟩
    have h := h m4 em4
    refine G_putIW (ci := 5) (j := 6) (N := 10) pX9_tell_44 fw_RX9_318 rfl ltk_11 shk_11 (by decide) rfl (fun _ => ⟨rfl, rfl⟩) em4.symm ?_
    refine G_aload_n (i := 0) pX9_tell_47 rfl rfl ?_
    refine G_getR (ci := 9) (j := 1) (N := 12) pX9_tell_48 fl_RX9_19 rfl ltk_0 shk_0 (by decide) rfl (hrf.lit 0 1 rfl) ?_
    refine G_getI (ci := 5) (j := 6) (N := 10) pX9_tell_51 fl_RX9_318 rfl ltk_11 shk_11 (by decide) rfl ?_
    exact G_ireturn (len := 1) pX9_tell_54 ⟨hrf, _, rfl, h⟩ ⟨_, rfl, rfl⟩
  · have h := h.2 c1
    refine G_aload_n (i := 0) pX9_tell_12 rfl rfl ?_
    refine G_iconst pX9_tell_13 ic_4 ?_
    refine G_callV1i (b := 0) (ci := 9) (N := 12) pX9_tell_14 (g_X9_error (4 : Int32) hrf _ h) mV_X9_error ml_RX9_80 (by decide) ⟨Nat.le_refl _, Nat.le_refl _, Nat.le_refl _⟩ (Nat.le_of_ble_eq_true rfl) ltk_0 shk_0 rfl ?_
    intro r6 rf m5 hrf h hr6
    exact G_ireturn (len := 1) pX9_tell_17 ⟨hrf, _, rfl, h⟩ ⟨_, rfl, rfl⟩
def B_X0_floorsTogether_4 (q0 : Nat) (x0 : Nat) (x1 : Int32) (x2 : Int32) (mem : MMt) (Q : Int32 → MMt → Prop) : Prop := LOOP (σ := Int32 × Int32 × MMt) (fun X4 z => (fun (x1 : Int32) (x2 : Int32) (mem : MMt) => (((mem x0 1) ≤ x2 → Q x1 mem) ∧ (¬ (mem x0 1) ≤ x2 → (vp_in x2 8 ∧ (∀ v3 : Int32, v3 = x1 + (mem (x0 + 2 + x2.toNatClampNeg) 2) → (∀ v4 : Int32, v4 = x2 + (1 : Int32) → X4 (v3, v4, mem))))))) z.1 z.2.1 z.2.2) (x1, x2, mem)
set_option maxRecDepth 4000 in
theorem gB_X0_floorsTogether_4 {sx : Nat × (Nat → Int32)} {rf : RFt} {Q : Int32 → MMt → Prop} (q0 : Nat) (hq0 : IS 0 q0) (hrf : RFok rf) (x0 : Nat) (x1 : Int32) (x2 : Int32) (hx0 : IS 0 x0) (mem : MMt) (h : B_X0_floorsTogether_4 q0 x0 x1 x2 mem Q) : G sx yX0_floorsTogether cX0_floorsTogether 3 (some .int) 1 NX NX (QQi (RFok) Q) NX rf mem 4 [some (.ref x0), some (.int x1), some (.int x2)] [] := by
  obtain ⟨I, ⟨n, h0⟩, hI⟩ := h
  have key : ∀ (n : Nat) (rf : RFt) (x1 : Int32) (x2 : Int32) (mem : MMt), RFok rf → I n (x1, x2, mem) → G sx yX0_floorsTogether cX0_floorsTogether 3 (some .int) 1 NX NX (QQi (RFok) Q) NX rf mem 4 [some (.ref x0), some (.int x1), some (.int x2)] [] := by
    intro n
    induction n using Nat.strongRecOn with
    | _ n ih =>
    intro rf x1 x2 mem hrf h0
    have hX4 : ∀ (rf : RFt) (x1 : Int32) (x2 : Int32) (mem : MMt), RFok rf → (fun s' => ∃ m, m < n ∧ I m s') (x1, x2, mem) → G sx yX0_floorsTogether cX0_floorsTogether 3 (some .int) 1 NX NX (QQi (RFok) Q) NX rf mem 4 [some (.ref x0), some (.int x1), some (.int x2)] [] := fun rf x1 x2 mem hrf ⟨m, hm, hi⟩ => ih m hm rf x1 x2 mem hrf hi
    have h := hI n _ h0
    clear ih h0
    try dsimp only at h
    refine G_iload_n (i := 2) pX0_floorsTogether_4 rfl rfl ?_
    refine G_aload_n (i := 0) pX0_floorsTogether_5 rfl rfl ?_
    refine G_getI (ci := 0) (j := 1) (N := 4) pX0_floorsTogether_6 fl_RX0_18 rfl hx0.2 hx0.sh0 (by decide) rfl ?_
    refine G_icmp_ge pX0_floorsTogether_9 (fun c1 => ?_) (fun c1 => ?_)
    · have h := h.1 c1
      refine G_iload_n (i := 1) pX0_floorsTogether_30 rfl rfl ?_
      exact G_ireturn (len := 1) pX0_floorsTogether_31 ⟨hrf, _, rfl, h⟩ ⟨_, rfl, rfl⟩
    · have h := h.2 c1
      refine G_iload_n (i := 1) pX0_floorsTogether_12 rfl rfl ?_
      refine G_aload_n (i := 0) pX0_floorsTogether_13 rfl rfl ?_
      refine G_getR (ci := 0) (j := 0) (N := 4) pX0_floorsTogether_14 fl_RX0_11 rfl hx0.2 hx0.sh0 (by decide) rfl ((lay_0_0 hx0).2.2 hrf) ?_
      refine G_iload_n (i := 2) pX0_floorsTogether_17 rfl rfl ?_
      obtain ⟨hi2, h⟩ := h
      refine G_aald pX0_floorsTogether_18 (lay_0_0 hx0).2.1 (lay_0_0 hx0).1 (by decide) hi2 (gd_rf hx0 hrf hi2) ?_
      refine G_getI (ci := 1) (j := 2) (N := 5) pX0_floorsTogether_19 fl_RX0_32 rfl (gd_in hx0 hi2).2 (gd_in hx0 hi2).sh1 (by decide) rfl ?_
      refine G_iadd pX0_floorsTogether_22 ?_
      obtain ⟨v3, e3⟩ : ∃ z : Int32, z = x1 + (mem (x0 + 2 + x2.toNatClampNeg) 2) := ⟨_, rfl⟩
      have h := h v3 e3
      refine G_istore_nW (L' := [some (.ref x0), some (.int v3), some (.int x2)]) pX0_floorsTogether_23 rfl e3.symm rfl ?_
      obtain ⟨v4, e4⟩ : ∃ z : Int32, z = x2 + (1 : Int32) := ⟨_, rfl⟩
      have h := h v4 e4
      refine G_iincW (L' := [some (.ref x0), some (.int v3), some (.int v4)]) pX0_floorsTogether_24 rfl ic_1 e4.symm rfl ?_
      refine G_goto pX0_floorsTogether_27 ?_
      exact hX4 _ _ _ _ hrf h
  exact key n rf _ _ _ hrf h0
def L_X0_floorsTogether (q0 : Nat) (mem : MMt) (Q : Int32 → MMt → Prop) : Prop := B_X0_floorsTogether_4 q0 q0 (0 : Int32) (0 : Int32) mem Q
set_option maxRecDepth 4000 in
theorem g_X0_floorsTogether {sx : Nat × (Nat → Int32)} {rf : RFt} {Q : Int32 → MMt → Prop} (q0 : Nat) (hq0 : IS 0 q0) (hrf : RFok rf) (mem : MMt) (h : L_X0_floorsTogether q0 mem Q) : Ct sx yX0_floorsTogether cX0_floorsTogether 3 (some .int) 1 [.ref q0] NX NX rf mem (QQi (RFok) Q) := by
  refine Ct_of [some (.ref q0), none, none] (by decide +kernel) (by simp [Lof, Value.category]) rfl ?_
  unfold L_X0_floorsTogether at h
  refine G_iconst pX0_floorsTogether_0 ic_0 ?_
  refine G_istore_n (i := 1) (L' := [some (.ref q0), some (.int (0 : Int32)), none]) pX0_floorsTogether_1 rfl rfl ?_
  refine G_iconst pX0_floorsTogether_2 ic_0 ?_
  refine G_istore_n (i := 2) (L' := [some (.ref q0), some (.int (0 : Int32)), some (.int (0 : Int32))]) pX0_floorsTogether_3 rfl rfl ?_
  exact gB_X0_floorsTogether_4 q0 hq0 hrf q0 (0 : Int32) (0 : Int32) hq0 _ h
def B_X9_check_29 (x1 : Int32) (x2 : Int32) (mem : MMt) (Q : Int32 → MMt → Prop) : Prop := LOOP (σ := Int32 × MMt) (fun X29 z => (fun (x2 : Int32) (mem : MMt) => ((x1 ≤ x2 → Q (0 : Int32) mem) ∧ (¬ x1 ≤ x2 → L_X0_goOn 43 mem (fun m2 => L_X0_floorsTogether 43 m2 (fun r4 m3 => (vp_in x2 20 ∧ ((r4 = (m3 14 x2.toNatClampNeg) → (∀ v7 : Int32, v7 = x2 + (1 : Int32) → X29 (v7, m3))) ∧ (¬ r4 = (m3 14 x2.toNatClampNeg) → Q ((1 : Int32) + x2) m3)))))))) z.1 z.2) (x2, mem)
set_option maxRecDepth 4000 in
theorem gB_X9_check_29 {sx : Nat × (Nat → Int32)} {rf : RFt} {Q : Int32 → MMt → Prop} (hrf : RFok rf) (x1 : Int32) (x2 : Int32) (mem : MMt) (h : B_X9_check_29 x1 x2 mem Q) : G sx yX9_check cX9_check 3 (some .int) 6 NX NX (QQi (RFok) Q) NX rf mem 29 [some (.ref 0), some (.int x1), some (.int x2)] [] := by
  obtain ⟨I, ⟨n, h0⟩, hI⟩ := h
  have key : ∀ (n : Nat) (rf : RFt) (x2 : Int32) (mem : MMt), RFok rf → I n (x2, mem) → G sx yX9_check cX9_check 3 (some .int) 6 NX NX (QQi (RFok) Q) NX rf mem 29 [some (.ref 0), some (.int x1), some (.int x2)] [] := by
    intro n
    induction n using Nat.strongRecOn with
    | _ n ih =>
    intro rf x2 mem hrf h0
    have hX29 : ∀ (rf : RFt) (x2 : Int32) (mem : MMt), RFok rf → (fun s' => ∃ m, m < n ∧ I m s') (x2, mem) → G sx yX9_check cX9_check 3 (some .int) 6 NX NX (QQi (RFok) Q) NX rf mem 29 [some (.ref 0), some (.int x1), some (.int x2)] [] := fun rf x2 mem hrf ⟨m, hm, hi⟩ => ih m hm rf x2 mem hrf hi
    have h := hI n _ h0
    clear ih h0
    try dsimp only at h
    refine G_iload_n (i := 2) pX9_check_29 rfl rfl ?_
    refine G_iload_n (i := 1) pX9_check_30 rfl rfl ?_
    refine G_icmp_ge pX9_check_31 (fun c1 => ?_) (fun c1 => ?_)
    · have h := h.1 c1
      refine G_iconst pX9_check_74 ic_0 ?_
      exact G_ireturn (len := 1) pX9_check_75 ⟨hrf, _, rfl, h⟩ ⟨_, rfl, rfl⟩
    · have h := h.2 c1
      refine G_aload_n (i := 0) pX9_check_34 rfl rfl ?_
      refine G_getR (ci := 9) (j := 4) (N := 12) pX9_check_35 fl_RX9_29 rfl ltk_0 shk_0 (by decide) rfl (hrf.lit 0 4 rfl) ?_
      refine G_aload_n (i := 0) pX9_check_38 rfl rfl ?_
      refine G_getR (ci := 9) (j := 1) (N := 12) pX9_check_39 fl_RX9_19 rfl ltk_0 shk_0 (by decide) rfl (hrf.lit 0 1 rfl) ?_
      refine G_callV1v (b := 43) (ci := 0) (N := 4) pX9_check_42 (g_X0_goOn 43 (IS_lit shk_43 ltk_43) hrf _ h) mV_X0_goOn ml_RX9_207 (by decide) ⟨Nat.le_refl _, Nat.le_refl _, Nat.le_refl _⟩ (Nat.le_of_ble_eq_true rfl) ltk_43 shk_43 rfl ?_
      intro rf m2 hrf h
      refine G_aload_n (i := 0) pX9_check_45 rfl rfl ?_
      refine G_getR (ci := 9) (j := 4) (N := 12) pX9_check_46 fl_RX9_29 rfl ltk_0 shk_0 (by decide) rfl (hrf.lit 0 4 rfl) ?_
      refine G_callV0i (b := 43) (ci := 0) (N := 4) pX9_check_49 (g_X0_floorsTogether 43 (IS_lit shk_43 ltk_43) hrf _ h) mV_X0_floorsTogether ml_RX9_324 (by decide) ⟨Nat.le_refl _, Nat.le_refl _, Nat.le_refl _⟩ (Nat.le_of_ble_eq_true rfl) ltk_43 shk_43 rfl ?_
      intro r4 rf m3 hrf h hr4
      refine G_aload_n (i := 0) pX9_check_52 rfl rfl ?_
      refine G_getR (ci := 9) (j := 1) (N := 12) pX9_check_53 fl_RX9_19 rfl ltk_0 shk_0 (by decide) rfl (hrf.lit 0 1 rfl) ?_
      refine G_getR (ci := 5) (j := 5) (N := 10) pX9_check_56 fl_RX9_321 rfl ltk_11 shk_11 (by decide) rfl (hrf.lit 11 5 rfl) ?_
      refine G_iload_n (i := 2) pX9_check_59 rfl rfl ?_
      obtain ⟨hi5, h⟩ := h
      refine G_iald pX9_check_60 ltk_14 shk_14 hi5 ?_
      refine G_icmp_eq pX9_check_61 (fun c6 => ?_) (fun c6 => ?_)
      · have h := h.1 c6
        obtain ⟨v7, e7⟩ : ∃ z : Int32, z = x2 + (1 : Int32) := ⟨_, rfl⟩
        have h := h v7 e7
        refine G_iincW (L' := [some (.ref 0), some (.int x1), some (.int v7)]) pX9_check_68 rfl ic_1 e7.symm rfl ?_
        refine G_goto pX9_check_71 ?_
        exact hX29 _ _ _ hrf h
      · have h := h.2 c6
        refine G_iconst pX9_check_64 ic_1 ?_
        refine G_iload_n (i := 2) pX9_check_65 rfl rfl ?_
        refine G_iadd pX9_check_66 ?_
        exact G_ireturn (len := 1) pX9_check_67 ⟨hrf, _, rfl, h⟩ ⟨_, rfl, rfl⟩
  exact key n rf _ _ hrf h0
def L_X9_check (mem : MMt) (Q : Int32 → MMt → Prop) : Prop := (∀ v1 : Int32, v1 = mem 11 6 → (∀ m2 : MMt, m2 = up2 mem 11 6 (0 : Int32) → L_X0_copyFrom 43 1 m2 (fun m3 => B_X9_check_29 v1 (0 : Int32) m3 Q)))
set_option maxRecDepth 4000 in
theorem g_X9_check {sx : Nat × (Nat → Int32)} {rf : RFt} {Q : Int32 → MMt → Prop} (hrf : RFok rf) (mem : MMt) (h : L_X9_check mem Q) : Ct sx yX9_check cX9_check 3 (some .int) 6 [.ref 0] NX NX rf mem (QQi (RFok) Q) := by
  refine Ct_of [some (.ref 0), none, none] (by decide +kernel) (by simp [Lof, Value.category]) rfl ?_
  unfold L_X9_check at h
  refine G_aload_n (i := 0) pX9_check_0 rfl rfl ?_
  refine G_getR (ci := 9) (j := 1) (N := 12) pX9_check_1 fl_RX9_19 rfl ltk_0 shk_0 (by decide) rfl (hrf.lit 0 1 rfl) ?_
  refine G_getI (ci := 5) (j := 6) (N := 10) pX9_check_4 fl_RX9_318 rfl ltk_11 shk_11 (by decide) rfl ?_
  obtain ⟨v1, e1⟩ : ∃ z : Int32, z = mem 11 6 := ⟨_, rfl⟩
  have h := h v1 e1
  refine G_istore_nW (L' := [some (.ref 0), some (.int v1), none]) pX9_check_7 rfl e1.symm rfl ?_
  refine G_aload_n (i := 0) pX9_check_8 rfl rfl ?_
  refine G_getR (ci := 9) (j := 1) (N := 12) pX9_check_9 fl_RX9_19 rfl ltk_0 shk_0 (by decide) rfl (hrf.lit 0 1 rfl) ?_
  refine G_iconst pX9_check_12 ic_0 ?_
  obtain ⟨m2, em2⟩ : ∃ z : MMt, z = up2 mem 11 6 (0 : Int32) := ⟨_, rfl⟩
  have h := h m2 em2
  refine G_putIW (ci := 5) (j := 6) (N := 10) pX9_check_13 fw_RX9_318 rfl ltk_11 shk_11 (by decide) rfl (fun _ => ⟨rfl, rfl⟩) em2.symm ?_
  refine G_aload_n (i := 0) pX9_check_16 rfl rfl ?_
  refine G_getR (ci := 9) (j := 4) (N := 12) pX9_check_17 fl_RX9_29 rfl ltk_0 shk_0 (by decide) rfl (hrf.lit 0 4 rfl) ?_
  refine G_aload_n (i := 0) pX9_check_20 rfl rfl ?_
  refine G_getR (ci := 9) (j := 0) (N := 12) pX9_check_21 fl_RX9_10 rfl ltk_0 shk_0 (by decide) rfl (hrf.lit 0 0 rfl) ?_
  refine G_callV1v (b := 43) (ci := 0) (N := 4) pX9_check_24 (g_X0_copyFrom 43 1 (IS_lit shk_43 ltk_43) (IS_lit shk_1 ltk_1) hrf _ h) mV_X0_copyFrom ml_RX9_216 (by decide) ⟨Nat.le_refl _, Nat.le_refl _, Nat.le_refl _⟩ (Nat.le_of_ble_eq_true rfl) ltk_43 shk_43 rfl ?_
  intro rf m3 hrf h
  refine G_iconst pX9_check_27 ic_0 ?_
  refine G_istore_n (i := 2) (L' := [some (.ref 0), some (.int v1), some (.int (0 : Int32))]) pX9_check_28 rfl rfl ?_
  exact gB_X9_check_29 hrf v1 (0 : Int32) _ h
def B_X0_howManyWithin_38 (q0 : Nat) (X5 : Int32 × Int32 × MMt → Prop) (x0 : Nat) (x1 : Int32) (x2 : Int32) (x4 : Int32) (s0 : Int32) (s1 : Int32) (mem : MMt) (Q : Int32 → MMt → Prop) : Prop := (∀ v1 : Int32, v1 = s1 + s0 → (∀ v2 : Int32, v2 = x4 + (1 : Int32) → X5 (v1, v2, mem)))
set_option maxRecDepth 4000 in
theorem gB_X0_howManyWithin_38 {sx : Nat × (Nat → Int32)} {X5 : Int32 × Int32 × MMt → Prop} {rf : RFt} {Q : Int32 → MMt → Prop} (q0 : Nat) (hq0 : IS 0 q0) (hrf : RFok rf) (x0 : Nat) (x1 : Int32) (x2 : Int32) (x4 : Int32) (s0 : Int32) (s1 : Int32) (hx0 : IS 0 x0) (hX5 : ∀ (rf : RFt) (x3 : Int32) (x4 : Int32) (mem : MMt), RFok rf → X5 (x3, x4, mem) → G sx yX0_howManyWithin cX0_howManyWithin 5 (some .int) 2 NX NX (QQi (RFok) Q) NX rf mem 5 [some (.ref x0), some (.int x1), some (.int x2), some (.int x3), some (.int x4)] []) (mem : MMt) (h : B_X0_howManyWithin_38 q0 X5 x0 x1 x2 x4 s0 s1 mem Q) : G sx yX0_howManyWithin cX0_howManyWithin 5 (some .int) 2 NX NX (QQi (RFok) Q) NX rf mem 38 [some (.ref x0), some (.int x1), some (.int x2), none, some (.int x4)] [.int s0, .int s1] := by
  unfold B_X0_howManyWithin_38 at h
  refine G_iadd pX0_howManyWithin_38 ?_
  obtain ⟨v1, e1⟩ : ∃ z : Int32, z = s1 + s0 := ⟨_, rfl⟩
  have h := h v1 e1
  refine G_istore_nW (L' := [some (.ref x0), some (.int x1), some (.int x2), some (.int v1), some (.int x4)]) pX0_howManyWithin_39 rfl e1.symm rfl ?_
  obtain ⟨v2, e2⟩ : ∃ z : Int32, z = x4 + (1 : Int32) := ⟨_, rfl⟩
  have h := h v2 e2
  refine G_iincW (L' := [some (.ref x0), some (.int x1), some (.int x2), some (.int v1), some (.int v2)]) pX0_howManyWithin_40 rfl ic_1 e2.symm rfl ?_
  refine G_goto pX0_howManyWithin_43 ?_
  exact hX5 _ _ _ _ hrf h
def B_X0_howManyWithin_5 (q0 : Nat) (x0 : Nat) (x1 : Int32) (x2 : Int32) (x3 : Int32) (x4 : Int32) (mem : MMt) (Q : Int32 → MMt → Prop) : Prop := LOOP (σ := Int32 × Int32 × MMt) (fun X5 z => (fun (x3 : Int32) (x4 : Int32) (mem : MMt) => (((mem x0 1) ≤ x4 → Q x3 mem) ∧ (¬ (mem x0 1) ≤ x4 → (vp_in x4 8 ∧ L_X9_within (mem (x0 + 2 + x4.toNatClampNeg) 2) x1 x2 mem (fun r4 m3 => ((r4 = 0 → B_X0_howManyWithin_38 q0 X5 x0 x1 x2 x4 (0 : Int32) x3 m3 Q) ∧ (¬ r4 = 0 → B_X0_howManyWithin_38 q0 X5 x0 x1 x2 x4 (1 : Int32) x3 m3 Q))))))) z.1 z.2.1 z.2.2) (x3, x4, mem)
set_option maxRecDepth 4000 in
theorem gB_X0_howManyWithin_5 {sx : Nat × (Nat → Int32)} {rf : RFt} {Q : Int32 → MMt → Prop} (q0 : Nat) (hq0 : IS 0 q0) (hrf : RFok rf) (x0 : Nat) (x1 : Int32) (x2 : Int32) (x3 : Int32) (x4 : Int32) (hx0 : IS 0 x0) (mem : MMt) (h : B_X0_howManyWithin_5 q0 x0 x1 x2 x3 x4 mem Q) : G sx yX0_howManyWithin cX0_howManyWithin 5 (some .int) 2 NX NX (QQi (RFok) Q) NX rf mem 5 [some (.ref x0), some (.int x1), some (.int x2), some (.int x3), some (.int x4)] [] := by
  obtain ⟨I, ⟨n, h0⟩, hI⟩ := h
  have key : ∀ (n : Nat) (rf : RFt) (x3 : Int32) (x4 : Int32) (mem : MMt), RFok rf → I n (x3, x4, mem) → G sx yX0_howManyWithin cX0_howManyWithin 5 (some .int) 2 NX NX (QQi (RFok) Q) NX rf mem 5 [some (.ref x0), some (.int x1), some (.int x2), some (.int x3), some (.int x4)] [] := by
    intro n
    induction n using Nat.strongRecOn with
    | _ n ih =>
    intro rf x3 x4 mem hrf h0
    have hX5 : ∀ (rf : RFt) (x3 : Int32) (x4 : Int32) (mem : MMt), RFok rf → (fun s' => ∃ m, m < n ∧ I m s') (x3, x4, mem) → G sx yX0_howManyWithin cX0_howManyWithin 5 (some .int) 2 NX NX (QQi (RFok) Q) NX rf mem 5 [some (.ref x0), some (.int x1), some (.int x2), some (.int x3), some (.int x4)] [] := fun rf x3 x4 mem hrf ⟨m, hm, hi⟩ => ih m hm rf x3 x4 mem hrf hi
    have h := hI n _ h0
    clear ih h0
    try dsimp only at h
    refine G_iload (i := 4) pX0_howManyWithin_5 rfl ?_
    refine G_aload_n (i := 0) pX0_howManyWithin_7 rfl rfl ?_
    refine G_getI (ci := 0) (j := 1) (N := 4) pX0_howManyWithin_8 fl_RX0_18 rfl hx0.2 hx0.sh0 (by decide) rfl ?_
    refine G_icmp_ge pX0_howManyWithin_11 (fun c1 => ?_) (fun c1 => ?_)
    · have h := h.1 c1
      refine G_iload_n (i := 3) pX0_howManyWithin_46 rfl rfl ?_
      exact G_ireturn (len := 1) pX0_howManyWithin_47 ⟨hrf, _, rfl, h⟩ ⟨_, rfl, rfl⟩
    · have h := h.2 c1
      refine G_iload_n (i := 3) pX0_howManyWithin_14 rfl rfl ?_
      refine G_aload_n (i := 0) pX0_howManyWithin_15 rfl rfl ?_
      refine G_getR (ci := 0) (j := 0) (N := 4) pX0_howManyWithin_16 fl_RX0_11 rfl hx0.2 hx0.sh0 (by decide) rfl ((lay_0_0 hx0).2.2 hrf) ?_
      refine G_iload (i := 4) pX0_howManyWithin_19 rfl ?_
      obtain ⟨hi2, h⟩ := h
      refine G_aald pX0_howManyWithin_21 (lay_0_0 hx0).2.1 (lay_0_0 hx0).1 (by decide) hi2 (gd_rf hx0 hrf hi2) ?_
      refine G_getI (ci := 1) (j := 2) (N := 5) pX0_howManyWithin_22 fl_RX0_32 rfl (gd_in hx0 hi2).2 (gd_in hx0 hi2).sh1 (by decide) rfl ?_
      refine G_iload_n (i := 1) pX0_howManyWithin_25 rfl rfl ?_
      refine G_iload_n (i := 2) pX0_howManyWithin_26 rfl rfl ?_
      refine G_callSN3i pX0_howManyWithin_27 (g_X9_within (mem (x0 + 2 + x4.toNatClampNeg) 2) x1 x2 hrf _ h) mS_X9_within (by decide) (by decide) ⟨Nat.le_refl _, Nat.le_refl _, Nat.le_refl _⟩ (Nat.le_of_ble_eq_true rfl) ?_
      intro r4 rf m3 hrf h hr4
      refine G_if_eq pX0_howManyWithin_30 (fun c5 => ?_) (fun c5 => ?_)
      · have h := h.1 c5
        refine G_iconst pX0_howManyWithin_37 ic_0 ?_
        refine G_wk (L2 := [some (.ref x0), some (.int x1), some (.int x2), none, some (.int x4)]) ⟨Or.inr rfl, Or.inr rfl, Or.inr rfl, Or.inl rfl, Or.inr rfl, trivial⟩ ?_
        exact gB_X0_howManyWithin_38 q0 hq0 hrf x0 x1 x2 x4 (0 : Int32) x3 hx0 hX5 _ h
      · have h := h.2 c5
        refine G_iconst pX0_howManyWithin_33 ic_1 ?_
        refine G_goto pX0_howManyWithin_34 ?_
        refine G_wk (L2 := [some (.ref x0), some (.int x1), some (.int x2), none, some (.int x4)]) ⟨Or.inr rfl, Or.inr rfl, Or.inr rfl, Or.inl rfl, Or.inr rfl, trivial⟩ ?_
        exact gB_X0_howManyWithin_38 q0 hq0 hrf x0 x1 x2 x4 (1 : Int32) x3 hx0 hX5 _ h
  exact key n rf _ _ _ hrf h0
def L_X0_howManyWithin (q0 : Nat) (a1 : Int32) (a2 : Int32) (mem : MMt) (Q : Int32 → MMt → Prop) : Prop := B_X0_howManyWithin_5 q0 q0 a1 a2 (0 : Int32) (0 : Int32) mem Q
set_option maxRecDepth 4000 in
theorem g_X0_howManyWithin {sx : Nat × (Nat → Int32)} {rf : RFt} {Q : Int32 → MMt → Prop} (q0 : Nat) (a1 : Int32) (a2 : Int32) (hq0 : IS 0 q0) (hrf : RFok rf) (mem : MMt) (h : L_X0_howManyWithin q0 a1 a2 mem Q) : Ct sx yX0_howManyWithin cX0_howManyWithin 5 (some .int) 2 [.ref q0, .int a1, .int a2] NX NX rf mem (QQi (RFok) Q) := by
  refine Ct_of [some (.ref q0), some (.int a1), some (.int a2), none, none] (by decide +kernel) (by simp [Lof, Value.category]) rfl ?_
  unfold L_X0_howManyWithin at h
  refine G_iconst pX0_howManyWithin_0 ic_0 ?_
  refine G_istore_n (i := 3) (L' := [some (.ref q0), some (.int a1), some (.int a2), some (.int (0 : Int32)), none]) pX0_howManyWithin_1 rfl rfl ?_
  refine G_iconst pX0_howManyWithin_2 ic_0 ?_
  refine G_istore (i := 4) (L' := [some (.ref q0), some (.int a1), some (.int a2), some (.int (0 : Int32)), some (.int (0 : Int32))]) pX0_howManyWithin_3 rfl ?_
  exact gB_X0_howManyWithin_5 q0 hq0 hrf q0 a1 a2 (0 : Int32) (0 : Int32) hq0 _ h
def L_X9_count (a1 : Int32) (mem : MMt) (Q : Int32 → MMt → Prop) : Prop := ((a1 < (0 : Int32) → L_X9_error (1 : Int32) mem (fun r2 m1 => Q r2 m1)) ∧ ((10 : Int32) < a1 → L_X9_error (1 : Int32) mem (fun r2 m1 => Q r2 m1)) ∧ (a1 = (0 : Int32) → Q (mem 1 1) mem) ∧ (a1 = (1 : Int32) → Q (mem 1 2) mem) ∧ (a1 = (2 : Int32) → Q (mem 1 3) mem) ∧ (a1 = (3 : Int32) → L_X0_howManyWithin 1 (0 : Int32) (0 : Int32) mem (fun r6 m5 => Q r6 m5)) ∧ (a1 = (4 : Int32) → L_X0_howManyWithin 1 (40 : Int32) (40 : Int32) mem (fun r8 m7 => Q r8 m7)) ∧ (a1 = (5 : Int32) → L_X0_howManyWithin 1 (16 : Int32) (24 : Int32) mem (fun r10 m9 => Q r10 m9)) ∧ (a1 = (6 : Int32) → L_X9_howManyRest mem (fun r12 m11 => Q r12 m11)) ∧ (a1 = (7 : Int32) → Q (mem 11 4) mem) ∧ (a1 = (8 : Int32) → Q (mem 11 6) mem) ∧ (a1 = (9 : Int32) → Q (mem 64 1) mem) ∧ (a1 = (10 : Int32) → Q (mem 11 2) mem))
set_option maxRecDepth 4000 in
theorem g_X9_count {sx : Nat × (Nat → Int32)} {rf : RFt} {Q : Int32 → MMt → Prop} (a1 : Int32) (hrf : RFok rf) (mem : MMt) (h : L_X9_count a1 mem Q) : Ct sx yX9_count cX9_count 2 (some .int) 8 [.ref 0, .int a1] NX NX rf mem (QQi (RFok) Q) := by
  refine Ct_of [some (.ref 0), some (.int a1)] (by decide +kernel) (by simp [Lof, Value.category]) rfl ?_
  unfold L_X9_count at h
  refine G_iload_n (i := 1) pX9_count_0 rfl rfl ?_
  by_cases c3 : a1 < (0 : Int32)
  · have h := h.1 c3
    refine G_tsOut (tgt := 155) pX9_count_1 (Or.inl (ts_lt c3 (by decide))) (by decide) ?_
    refine G_aload_n (i := 0) pX9_count_155 rfl rfl ?_
    refine G_iconst pX9_count_156 ic_1 ?_
    refine G_callV1i (b := 0) (ci := 9) (N := 12) pX9_count_157 (g_X9_error (1 : Int32) hrf _ h) mV_X9_error ml_RX9_80 (by decide) ⟨Nat.le_refl _, Nat.le_refl _, Nat.le_refl _⟩ (Nat.le_of_ble_eq_true rfl) ltk_0 shk_0 rfl ?_
    intro r2 rf m1 hrf h hr2
    exact G_ireturn (len := 1) pX9_count_160 ⟨hrf, _, rfl, h⟩ ⟨_, rfl, rfl⟩
  by_cases c4 : (10 : Int32) < a1
  · have h := h.2.1 c4
    refine G_tsOut (tgt := 155) pX9_count_1 (Or.inr (ts_gt c4 (by decide))) (by decide) ?_
    refine G_aload_n (i := 0) pX9_count_155 rfl rfl ?_
    refine G_iconst pX9_count_156 ic_1 ?_
    refine G_callV1i (b := 0) (ci := 9) (N := 12) pX9_count_157 (g_X9_error (1 : Int32) hrf _ h) mV_X9_error ml_RX9_80 (by decide) ⟨Nat.le_refl _, Nat.le_refl _, Nat.le_refl _⟩ (Nat.le_of_ble_eq_true rfl) ltk_0 shk_0 rfl ?_
    intro r2 rf m1 hrf h hr2
    exact G_ireturn (len := 1) pX9_count_160 ⟨hrf, _, rfl, h⟩ ⟨_, rfl, rfl⟩
  rcases tsx_0_10 c3 c4 with hc | hc | hc | hc | hc | hc | hc | hc | hc | hc | hc
  · have h := h.2.2.1 hc
    refine G_tsInE (v := (0 : Int32)) (off := 59) (tgt := 60) pX9_count_1 hc (by decide) ?_
    refine G_aload_n (i := 0) pX9_count_60 rfl rfl ?_
    refine G_getR (ci := 9) (j := 0) (N := 12) pX9_count_61 fl_RX9_10 rfl ltk_0 shk_0 (by decide) rfl (hrf.lit 0 0 rfl) ?_
    refine G_getI (ci := 0) (j := 1) (N := 4) pX9_count_64 fl_RX9_84 rfl ltk_1 shk_1 (by decide) rfl ?_
    exact G_ireturn (len := 1) pX9_count_67 ⟨hrf, _, rfl, h⟩ ⟨_, rfl, rfl⟩
  · have h := h.2.2.2.1 hc
    refine G_tsInE (v := (1 : Int32)) (off := 67) (tgt := 68) pX9_count_1 hc (by decide) ?_
    refine G_aload_n (i := 0) pX9_count_68 rfl rfl ?_
    refine G_getR (ci := 9) (j := 0) (N := 12) pX9_count_69 fl_RX9_10 rfl ltk_0 shk_0 (by decide) rfl (hrf.lit 0 0 rfl) ?_
    refine G_getI (ci := 0) (j := 2) (N := 4) pX9_count_72 fl_RX9_166 rfl ltk_1 shk_1 (by decide) rfl ?_
    exact G_ireturn (len := 1) pX9_count_75 ⟨hrf, _, rfl, h⟩ ⟨_, rfl, rfl⟩
  · have h := h.2.2.2.2.1 hc
    refine G_tsInE (v := (2 : Int32)) (off := 75) (tgt := 76) pX9_count_1 hc (by decide) ?_
    refine G_aload_n (i := 0) pX9_count_76 rfl rfl ?_
    refine G_getR (ci := 9) (j := 0) (N := 12) pX9_count_77 fl_RX9_10 rfl ltk_0 shk_0 (by decide) rfl (hrf.lit 0 0 rfl) ?_
    refine G_getI (ci := 0) (j := 3) (N := 4) pX9_count_80 fl_RX9_220 rfl ltk_1 shk_1 (by decide) rfl ?_
    exact G_ireturn (len := 1) pX9_count_83 ⟨hrf, _, rfl, h⟩ ⟨_, rfl, rfl⟩
  · have h := h.2.2.2.2.2.1 hc
    refine G_tsInE (v := (3 : Int32)) (off := 83) (tgt := 84) pX9_count_1 hc (by decide) ?_
    refine G_aload_n (i := 0) pX9_count_84 rfl rfl ?_
    refine G_getR (ci := 9) (j := 0) (N := 12) pX9_count_85 fl_RX9_10 rfl ltk_0 shk_0 (by decide) rfl (hrf.lit 0 0 rfl) ?_
    refine G_iconst pX9_count_88 ic_0 ?_
    refine G_iconst pX9_count_89 ic_0 ?_
    refine G_callV2i (b := 1) (ci := 0) (N := 4) pX9_count_90 (g_X0_howManyWithin 1 (0 : Int32) (0 : Int32) (IS_lit shk_1 ltk_1) hrf _ h) mV_X0_howManyWithin ml_RX9_327 (by decide) ⟨Nat.le_refl _, Nat.le_refl _, Nat.le_refl _⟩ (Nat.le_of_ble_eq_true rfl) ltk_1 shk_1 rfl ?_
    intro r6 rf m5 hrf h hr6
    exact G_ireturn (len := 1) pX9_count_93 ⟨hrf, _, rfl, h⟩ ⟨_, rfl, rfl⟩
  · have h := h.2.2.2.2.2.2.1 hc
    refine G_tsInE (v := (4 : Int32)) (off := 93) (tgt := 94) pX9_count_1 hc (by decide) ?_
    refine G_aload_n (i := 0) pX9_count_94 rfl rfl ?_
    refine G_getR (ci := 9) (j := 0) (N := 12) pX9_count_95 fl_RX9_10 rfl ltk_0 shk_0 (by decide) rfl (hrf.lit 0 0 rfl) ?_
    refine G_bipush pX9_count_98 bi_40 ?_
    refine G_bipush pX9_count_100 bi_40 ?_
    refine G_callV2i (b := 1) (ci := 0) (N := 4) pX9_count_102 (g_X0_howManyWithin 1 (40 : Int32) (40 : Int32) (IS_lit shk_1 ltk_1) hrf _ h) mV_X0_howManyWithin ml_RX9_327 (by decide) ⟨Nat.le_refl _, Nat.le_refl _, Nat.le_refl _⟩ (Nat.le_of_ble_eq_true rfl) ltk_1 shk_1 rfl ?_
    intro r8 rf m7 hrf h hr8
    exact G_ireturn (len := 1) pX9_count_105 ⟨hrf, _, rfl, h⟩ ⟨_, rfl, rfl⟩
  · have h := h.2.2.2.2.2.2.2.1 hc
    refine G_tsInE (v := (5 : Int32)) (off := 105) (tgt := 106) pX9_count_1 hc (by decide) ?_
    refine G_aload_n (i := 0) pX9_count_106 rfl rfl ?_
    refine G_getR (ci := 9) (j := 0) (N := 12) pX9_count_107 fl_RX9_10 rfl ltk_0 shk_0 (by decide) rfl (hrf.lit 0 0 rfl) ?_
    refine G_bipush pX9_count_110 bi_16 ?_
    refine G_bipush pX9_count_112 bi_24 ?_
    refine G_callV2i (b := 1) (ci := 0) (N := 4) pX9_count_114 (g_X0_howManyWithin 1 (16 : Int32) (24 : Int32) (IS_lit shk_1 ltk_1) hrf _ h) mV_X0_howManyWithin ml_RX9_327 (by decide) ⟨Nat.le_refl _, Nat.le_refl _, Nat.le_refl _⟩ (Nat.le_of_ble_eq_true rfl) ltk_1 shk_1 rfl ?_
    intro r10 rf m9 hrf h hr10
    exact G_ireturn (len := 1) pX9_count_117 ⟨hrf, _, rfl, h⟩ ⟨_, rfl, rfl⟩
  · have h := h.2.2.2.2.2.2.2.2.1 hc
    refine G_tsInE (v := (6 : Int32)) (off := 117) (tgt := 118) pX9_count_1 hc (by decide) ?_
    refine G_aload_n (i := 0) pX9_count_118 rfl rfl ?_
    refine G_callV0i (b := 0) (ci := 9) (N := 12) pX9_count_119 (g_X9_howManyRest hrf _ h) mV_X9_howManyRest ml_RX9_210 (by decide) ⟨Nat.le_refl _, Nat.le_refl _, Nat.le_refl _⟩ (Nat.le_of_ble_eq_true rfl) ltk_0 shk_0 rfl ?_
    intro r12 rf m11 hrf h hr12
    exact G_ireturn (len := 1) pX9_count_122 ⟨hrf, _, rfl, h⟩ ⟨_, rfl, rfl⟩
  · have h := h.2.2.2.2.2.2.2.2.2.1 hc
    refine G_tsInE (v := (7 : Int32)) (off := 122) (tgt := 123) pX9_count_1 hc (by decide) ?_
    refine G_aload_n (i := 0) pX9_count_123 rfl rfl ?_
    refine G_getR (ci := 9) (j := 1) (N := 12) pX9_count_124 fl_RX9_19 rfl ltk_0 shk_0 (by decide) rfl (hrf.lit 0 1 rfl) ?_
    refine G_getI (ci := 5) (j := 4) (N := 10) pX9_count_127 fl_RX9_173 rfl ltk_11 shk_11 (by decide) rfl ?_
    exact G_ireturn (len := 1) pX9_count_130 ⟨hrf, _, rfl, h⟩ ⟨_, rfl, rfl⟩
  · have h := h.2.2.2.2.2.2.2.2.2.2.1 hc
    refine G_tsInE (v := (8 : Int32)) (off := 130) (tgt := 131) pX9_count_1 hc (by decide) ?_
    refine G_aload_n (i := 0) pX9_count_131 rfl rfl ?_
    refine G_getR (ci := 9) (j := 1) (N := 12) pX9_count_132 fl_RX9_19 rfl ltk_0 shk_0 (by decide) rfl (hrf.lit 0 1 rfl) ?_
    refine G_getI (ci := 5) (j := 6) (N := 10) pX9_count_135 fl_RX9_318 rfl ltk_11 shk_11 (by decide) rfl ?_
    exact G_ireturn (len := 1) pX9_count_138 ⟨hrf, _, rfl, h⟩ ⟨_, rfl, rfl⟩
  · have h := h.2.2.2.2.2.2.2.2.2.2.2.1 hc
    refine G_tsInE (v := (9 : Int32)) (off := 138) (tgt := 139) pX9_count_1 hc (by decide) ?_
    refine G_aload_n (i := 0) pX9_count_139 rfl rfl ?_
    refine G_getR (ci := 9) (j := 8) (N := 12) pX9_count_140 fl_RX9_58 rfl ltk_0 shk_0 (by decide) rfl (hrf.lit 0 8 rfl) ?_
    refine G_getI (ci := 8) (j := 1) (N := 5) pX9_count_143 fl_RX9_276 rfl ltk_64 shk_64 (by decide) rfl ?_
    exact G_ireturn (len := 1) pX9_count_146 ⟨hrf, _, rfl, h⟩ ⟨_, rfl, rfl⟩
  · have h := h.2.2.2.2.2.2.2.2.2.2.2.2 hc
    refine G_tsInE (v := (10 : Int32)) (off := 146) (tgt := 147) pX9_count_1 hc (by decide) ?_
    refine G_aload_n (i := 0) pX9_count_147 rfl rfl ?_
    refine G_getR (ci := 9) (j := 1) (N := 12) pX9_count_148 fl_RX9_19 rfl ltk_0 shk_0 (by decide) rfl (hrf.lit 0 1 rfl) ?_
    refine G_getI (ci := 5) (j := 2) (N := 10) pX9_count_151 fl_RX9_270 rfl ltk_11 shk_11 (by decide) rfl ?_
    exact G_ireturn (len := 1) pX9_count_154 ⟨hrf, _, rfl, h⟩ ⟨_, rfl, rfl⟩
def L_X9_told (a1 : Int32) (mem : MMt) (Q : Int32 → MMt → Prop) : Prop := L_X9_within a1 (1 : Int32) (5 : Int32) mem (fun r2 m1 => ((r2 = 0 → L_X9_error (1 : Int32) m1 (fun r5 m4 => Q r5 m4)) ∧ (¬ r2 = 0 → (vp_in a1 6 ∧ Q (m1 67 a1.toNatClampNeg) m1))))
set_option maxRecDepth 4000 in
theorem g_X9_told {sx : Nat × (Nat → Int32)} {rf : RFt} {Q : Int32 → MMt → Prop} (a1 : Int32) (hrf : RFok rf) (mem : MMt) (h : L_X9_told a1 mem Q) : Ct sx yX9_told cX9_told 2 (some .int) 2 [.ref 0, .int a1] NX NX rf mem (QQi (RFok) Q) := by
  refine Ct_of [some (.ref 0), some (.int a1)] (by decide +kernel) (by simp [Lof, Value.category]) rfl ?_
  unfold L_X9_told at h
  refine G_iload_n (i := 1) pX9_told_0 rfl rfl ?_
  refine G_iconst pX9_told_1 ic_1 ?_
  refine G_iconst pX9_told_2 ic_5 ?_
  refine G_callS3i pX9_told_3 (g_X9_within a1 (1 : Int32) (5 : Int32) hrf _ h) mS_X9_within ml_RX9_104 (by decide) ⟨Nat.le_refl _, Nat.le_refl _, Nat.le_refl _⟩ (Nat.le_of_ble_eq_true rfl) ?_
  intro r2 rf m1 hrf h hr2
  refine G_if_eq pX9_told_6 (fun c3 => ?_) (fun c3 => ?_)
  · have h := h.1 c3
    refine G_aload_n (i := 0) pX9_told_18 rfl rfl ?_
    refine G_iconst pX9_told_19 ic_1 ?_
    refine G_callV1i (b := 0) (ci := 9) (N := 12) pX9_told_20 (g_X9_error (1 : Int32) hrf _ h) mV_X9_error ml_RX9_80 (by decide) ⟨Nat.le_refl _, Nat.le_refl _, Nat.le_refl _⟩ (Nat.le_of_ble_eq_true rfl) ltk_0 shk_0 rfl ?_
    intro r5 rf m4 hrf h hr5
    exact G_ireturn (len := 1) pX9_told_23 ⟨hrf, _, rfl, h⟩ ⟨_, rfl, rfl⟩
  · have h := h.2 c3
    refine G_aload_n (i := 0) pX9_told_9 rfl rfl ?_
    refine G_getR (ci := 9) (j := 10) (N := 12) pX9_told_10 fl_RX9_68 rfl ltk_0 shk_0 (by decide) rfl (hrf.lit 0 10 rfl) ?_
    refine G_iload_n (i := 1) pX9_told_13 rfl rfl ?_
    obtain ⟨hi6, h⟩ := h
    refine G_iald pX9_told_14 ltk_67 shk_67 hi6 ?_
    refine G_goto pX9_told_15 ?_
    exact G_ireturn (len := 1) pX9_told_23 ⟨hrf, _, rfl, h⟩ ⟨_, rfl, rfl⟩
def L_X10_error (a1 : Int32) (mem : MMt) (Q : Int32 → MMt → Prop) : Prop := (vp_in a1 6 ∧ (vp_in a1 6 ∧ ∀ m2 : MMt, m2 = up2 mem 79 a1.toNatClampNeg ((mem 79 a1.toNatClampNeg) + (1 : Int32)) → Q ((-1000000000 : Int32) - a1) m2))
set_option maxRecDepth 4000 in
theorem g_X10_error {sx : Nat × (Nat → Int32)} {rf : RFt} {Q : Int32 → MMt → Prop} (a1 : Int32) (hrf : RFok rf) (mem : MMt) (h : L_X10_error a1 mem Q) : Ct sx yX10_error cX10_error 2 (some .int) 1 [.ref 76, .int a1] NX NX rf mem (QQi (RFok) Q) := by
  refine Ct_of [some (.ref 76), some (.int a1)] (by decide +kernel) (by simp [Lof, Value.category]) rfl ?_
  unfold L_X10_error at h
  refine G_aload_n (i := 0) pX10_error_0 rfl rfl ?_
  refine G_getR (ci := 10) (j := 4) (N := 29) pX10_error_1 fl_RX10_16 rfl ltk_76 shk_76 (by decide) rfl (hrf.lit 76 4 rfl) ?_
  refine G_iload_n (i := 1) pX10_error_4 rfl rfl ?_
  refine G_dup2 pX10_error_5 rfl rfl ?_
  obtain ⟨hi1, h⟩ := h
  refine G_iald pX10_error_6 ltk_79 shk_79 hi1 ?_
  refine G_iconst pX10_error_7 ic_1 ?_
  refine G_iadd pX10_error_8 ?_
  obtain ⟨hi3, h⟩ := h
  obtain ⟨m2, em2⟩ : ∃ z : MMt, z = up2 mem 79 a1.toNatClampNeg ((mem 79 a1.toNatClampNeg) + (1 : Int32)) := ⟨_, rfl⟩
  have h := h m2 em2
  refine G_iastW pX10_error_9 ltk_79 shk_79 hi3 em2.symm ?_
  refine G_ldc pX10_error_10 rfl wc_RX10_52 ?_
  refine G_iload_n (i := 1) pX10_error_12 rfl rfl ?_
  refine G_isub pX10_error_13 ?_
  exact G_ireturn (len := 1) pX10_error_14 ⟨hrf, _, rfl, h⟩ ⟨_, rfl, rfl⟩
def L_X10_isIn (a1 : Int64) (a2 : Int64) (a3 : Int64) (mem : MMt) (Q : Int32 → MMt → Prop) : Prop := (((lg_cmp a1 a2) < 0 → Q (0 : Int32) mem) ∧ (¬ (lg_cmp a1 a2) < 0 → ((0 < (lg_cmp a1 a3) → Q (0 : Int32) mem) ∧ (¬ 0 < (lg_cmp a1 a3) → Q (1 : Int32) mem))))
set_option maxRecDepth 4000 in
theorem g_X10_isIn {sx : Nat × (Nat → Int32)} {M : RFt → Prop} {rf : RFt} {Q : Int32 → MMt → Prop} (a1 : Int64) (a2 : Int64) (a3 : Int64) (hrf : M rf) (mem : MMt) (h : L_X10_isIn a1 a2 a3 mem Q) : Ct sx yX10_isIn cX10_isIn 6 (some .boolean) 1 [.long a1, .long a2, .long a3] NX NX rf mem (QQi (M) Q) := by
  refine Ct_of [some (.long a1), none, some (.long a2), none, some (.long a3), none] (by decide +kernel) (by simp [Lof, Value.category]) rfl ?_
  unfold L_X10_isIn at h
  refine G_lload_n (i := 0) pX10_isIn_0 rfl rfl ?_
  refine G_lload_n (i := 2) pX10_isIn_1 rfl rfl ?_
  refine G_lcmp pX10_isIn_2 ?_
  refine G_if_lt pX10_isIn_3 (fun c1 => ?_) (fun c1 => ?_)
  · have h := h.1 c1
    refine G_iconst pX10_isIn_17 ic_0 ?_
    exact G_ireturn (len := 1) pX10_isIn_18 ⟨hrf, _, rfl, h⟩ ⟨_, rfl, rfl⟩
  · have h := h.2 c1
    refine G_lload_n (i := 0) pX10_isIn_6 rfl rfl ?_
    refine G_lload (i := 4) pX10_isIn_7 rfl ?_
    refine G_lcmp pX10_isIn_9 ?_
    refine G_if_gt pX10_isIn_10 (fun c2 => ?_) (fun c2 => ?_)
    · have h := h.1 c2
      refine G_iconst pX10_isIn_17 ic_0 ?_
      exact G_ireturn (len := 1) pX10_isIn_18 ⟨hrf, _, rfl, h⟩ ⟨_, rfl, rfl⟩
    · have h := h.2 c2
      refine G_iconst pX10_isIn_13 ic_1 ?_
      refine G_goto pX10_isIn_14 ?_
      exact G_ireturn (len := 1) pX10_isIn_18 ⟨hrf, _, rfl, h⟩ ⟨_, rfl, rfl⟩
def L_X10_within (a1 : Int32) (a2 : Int32) (a3 : Int32) (mem : MMt) (Q : Int32 → MMt → Prop) : Prop := ((a2 ≤ a1 → ((a1 ≤ a3 → Q a1 mem) ∧ (¬ a1 ≤ a3 → Q a3 mem))) ∧ (¬ a2 ≤ a1 → Q a2 mem))
set_option maxRecDepth 4000 in
theorem g_X10_within {sx : Nat × (Nat → Int32)} {M : RFt → Prop} {rf : RFt} {Q : Int32 → MMt → Prop} (a1 : Int32) (a2 : Int32) (a3 : Int32) (hrf : M rf) (mem : MMt) (h : L_X10_within a1 a2 a3 mem Q) : Ct sx yX10_within cX10_within 3 (some .int) 1 [.int a1, .int a2, .int a3] NX NX rf mem (QQi (M) Q) := by
  refine Ct_of [some (.int a1), some (.int a2), some (.int a3)] (by decide +kernel) (by simp [Lof, Value.category]) rfl ?_
  unfold L_X10_within at h
  refine G_iload_n (i := 0) pX10_within_0 rfl rfl ?_
  refine G_iload_n (i := 1) pX10_within_1 rfl rfl ?_
  refine G_icmp_ge pX10_within_2 (fun c1 => ?_) (fun c1 => ?_)
  · have h := h.1 c1
    refine G_iload_n (i := 0) pX10_within_9 rfl rfl ?_
    refine G_iload_n (i := 2) pX10_within_10 rfl rfl ?_
    refine G_icmp_le pX10_within_11 (fun c2 => ?_) (fun c2 => ?_)
    · have h := h.1 c2
      refine G_iload_n (i := 0) pX10_within_18 rfl rfl ?_
      exact G_ireturn (len := 1) pX10_within_19 ⟨hrf, _, rfl, h⟩ ⟨_, rfl, rfl⟩
    · have h := h.2 c2
      refine G_iload_n (i := 2) pX10_within_14 rfl rfl ?_
      refine G_goto pX10_within_15 ?_
      exact G_ireturn (len := 1) pX10_within_19 ⟨hrf, _, rfl, h⟩ ⟨_, rfl, rfl⟩
  · have h := h.2 c1
    refine G_iload_n (i := 1) pX10_within_5 rfl rfl ?_
    refine G_goto pX10_within_6 ?_
    exact G_ireturn (len := 1) pX10_within_19 ⟨hrf, _, rfl, h⟩ ⟨_, rfl, rfl⟩
def L_X10_size (a1 : Int32) (mem : MMt) (Q : Int32 → MMt → Prop) : Prop := ((0 ≤ a1 → Q a1 mem) ∧ (¬ 0 ≤ a1 → Q (-a1) mem))
set_option maxRecDepth 4000 in
theorem g_X10_size {sx : Nat × (Nat → Int32)} {M : RFt → Prop} {rf : RFt} {Q : Int32 → MMt → Prop} (a1 : Int32) (hrf : M rf) (mem : MMt) (h : L_X10_size a1 mem Q) : Ct sx yX10_size cX10_size 1 (some .int) 1 [.int a1] NX NX rf mem (QQi (M) Q) := by
  refine Ct_of [some (.int a1)] (by decide +kernel) (by simp [Lof, Value.category]) rfl ?_
  unfold L_X10_size at h
  refine G_iload_n (i := 0) pX10_size_0 rfl rfl ?_
  refine G_if_ge pX10_size_1 (fun c1 => ?_) (fun c1 => ?_)
  · have h := h.1 c1
    refine G_iload_n (i := 0) pX10_size_9 rfl rfl ?_
    exact G_ireturn (len := 1) pX10_size_10 ⟨hrf, _, rfl, h⟩ ⟨_, rfl, rfl⟩
  · have h := h.2 c1
    refine G_iload_n (i := 0) pX10_size_4 rfl rfl ?_
    refine G_ineg pX10_size_5 ?_
    refine G_goto pX10_size_6 ?_
    exact G_ireturn (len := 1) pX10_size_10 ⟨hrf, _, rfl, h⟩ ⟨_, rfl, rfl⟩
def L_X10_isGood (a1 : Int32) (mem : MMt) (Q : Int32 → MMt → Prop) : Prop := L_X10_isIn a1.toInt64 (0 : Int64) (((mem 77 6) - (1 : Int32)).toInt64) mem (fun r2 m1 => Q r2 m1)
set_option maxRecDepth 4000 in
theorem g_X10_isGood {sx : Nat × (Nat → Int32)} {rf : RFt} {Q : Int32 → MMt → Prop} (a1 : Int32) (hrf : RFok rf) (mem : MMt) (h : L_X10_isGood a1 mem Q) : Ct sx yX10_isGood cX10_isGood 2 (some .boolean) 2 [.ref 76, .int a1] NX NX rf mem (QQi (RFok) Q) := by
  refine Ct_of [some (.ref 76), some (.int a1)] (by decide +kernel) (by simp [Lof, Value.category]) rfl ?_
  unfold L_X10_isGood at h
  refine G_iload_n (i := 1) pX10_isGood_0 rfl rfl ?_
  refine G_i2l pX10_isGood_1 ?_
  refine G_lconst pX10_isGood_2 lc_0 ?_
  refine G_aload_n (i := 0) pX10_isGood_3 rfl rfl ?_
  refine G_getR (ci := 10) (j := 0) (N := 29) pX10_isGood_4 fl_RX10_9 rfl ltk_76 shk_76 (by decide) rfl (hrf.lit 76 0 rfl) ?_
  refine G_bipush pX10_isGood_7 bi_6 ?_
  refine G_ialdL (j := 6) pX10_isGood_9 ltk_77 shk_77 (vpl (by decide)) (by decide) ?_
  refine G_iconst pX10_isGood_10 ic_1 ?_
  refine G_isub pX10_isGood_11 ?_
  refine G_i2l pX10_isGood_12 ?_
  refine G_callS3i pX10_isGood_13 (g_X10_isIn a1.toInt64 (0 : Int64) (((mem 77 6) - (1 : Int32)).toInt64) hrf _ h) mS_X10_isIn ml_RX10_53 (by decide) ⟨Nat.le_refl _, Nat.le_refl _, Nat.le_refl _⟩ (Nat.le_of_ble_eq_true rfl) ?_
  intro r2 rf m1 hrf h hr2
  exact G_ireturn (len := 1) pX10_isGood_16 ⟨hrf, _, rfl, h⟩ hr2
def L_X10_isSide (a1 : Int32) (mem : MMt) (Q : Int32 → MMt → Prop) : Prop := L_X10_isIn a1.toInt64 (0 : Int64) (1 : Int64) mem (fun r2 m1 => Q r2 m1)
set_option maxRecDepth 4000 in
theorem g_X10_isSide {sx : Nat × (Nat → Int32)} {M : RFt → Prop} {rf : RFt} {Q : Int32 → MMt → Prop} (a1 : Int32) (hrf : M rf) (mem : MMt) (h : L_X10_isSide a1 mem Q) : Ct sx yX10_isSide cX10_isSide 1 (some .boolean) 2 [.int a1] NX NX rf mem (QQi (M) Q) := by
  refine Ct_of [some (.int a1)] (by decide +kernel) (by simp [Lof, Value.category]) rfl ?_
  unfold L_X10_isSide at h
  refine G_iload_n (i := 0) pX10_isSide_0 rfl rfl ?_
  refine G_i2l pX10_isSide_1 ?_
  refine G_lconst pX10_isSide_2 lc_0 ?_
  refine G_lconst pX10_isSide_3 lc_1 ?_
  refine G_callS3i pX10_isSide_4 (g_X10_isIn a1.toInt64 (0 : Int64) (1 : Int64) hrf _ h) mS_X10_isIn ml_RX10_53 (by decide) ⟨Nat.le_refl _, Nat.le_refl _, Nat.le_refl _⟩ (Nat.le_of_ble_eq_true rfl) ?_
  intro r2 rf m1 hrf h hr2
  exact G_ireturn (len := 1) pX10_isSide_7 ⟨hrf, _, rfl, h⟩ hr2
def L_X10_isPush (a1 : Int32) (mem : MMt) (Q : Int32 → MMt → Prop) : Prop := L_X10_isIn a1.toInt64 (-9 : Int64) (9 : Int64) mem (fun r2 m1 => Q r2 m1)
set_option maxRecDepth 4000 in
theorem g_X10_isPush {sx : Nat × (Nat → Int32)} {M : RFt → Prop} {rf : RFt} {Q : Int32 → MMt → Prop} (a1 : Int32) (hrf : M rf) (mem : MMt) (h : L_X10_isPush a1 mem Q) : Ct sx yX10_isPush cX10_isPush 1 (some .boolean) 2 [.int a1] NX NX rf mem (QQi (M) Q) := by
  refine Ct_of [some (.int a1)] (by decide +kernel) (by simp [Lof, Value.category]) rfl ?_
  unfold L_X10_isPush at h
  refine G_iload_n (i := 0) pX10_isPush_0 rfl rfl ?_
  refine G_i2l pX10_isPush_1 ?_
  refine G_ldc2 pX10_isPush_2 rfl wcl_RX10_57 ?_
  refine G_ldc2 pX10_isPush_5 rfl wcl_RX10_59 ?_
  refine G_callS3i pX10_isPush_8 (g_X10_isIn a1.toInt64 (-9 : Int64) (9 : Int64) hrf _ h) mS_X10_isIn ml_RX10_53 (by decide) ⟨Nat.le_refl _, Nat.le_refl _, Nat.le_refl _⟩ (Nat.le_of_ble_eq_true rfl) ?_
  intro r2 rf m1 hrf h hr2
  exact G_ireturn (len := 1) pX10_isPush_11 ⟨hrf, _, rfl, h⟩ hr2
def L_X10_of (a1 : Int32) (a2 : Int32) (mem : MMt) (Q : Int32 → MMt → Prop) : Prop := (vp_in (((10 : Int32) + ((5 : Int32) * a1)) + a2) 322 ∧ Q (mem 77 (((10 : Int32) + ((5 : Int32) * a1)) + a2).toNatClampNeg) mem)
set_option maxRecDepth 4000 in
theorem g_X10_of {sx : Nat × (Nat → Int32)} {rf : RFt} {Q : Int32 → MMt → Prop} (a1 : Int32) (a2 : Int32) (hrf : RFok rf) (mem : MMt) (h : L_X10_of a1 a2 mem Q) : Ct sx yX10_of cX10_of 3 (some .int) 1 [.ref 76, .int a1, .int a2] NX NX rf mem (QQi (RFok) Q) := by
  refine Ct_of [some (.ref 76), some (.int a1), some (.int a2)] (by decide +kernel) (by simp [Lof, Value.category]) rfl ?_
  unfold L_X10_of at h
  refine G_aload_n (i := 0) pX10_of_0 rfl rfl ?_
  refine G_getR (ci := 10) (j := 0) (N := 29) pX10_of_1 fl_RX10_9 rfl ltk_76 shk_76 (by decide) rfl (hrf.lit 76 0 rfl) ?_
  refine G_bipush pX10_of_4 bi_10 ?_
  refine G_iconst pX10_of_6 ic_5 ?_
  refine G_iload_n (i := 1) pX10_of_7 rfl rfl ?_
  refine G_imul pX10_of_8 ?_
  refine G_iadd pX10_of_9 ?_
  refine G_iload_n (i := 2) pX10_of_10 rfl rfl ?_
  refine G_iadd pX10_of_11 ?_
  obtain ⟨hi1, h⟩ := h
  refine G_iald pX10_of_12 ltk_77 shk_77 hi1 ?_
  exact G_ireturn (len := 1) pX10_of_13 ⟨hrf, _, rfl, h⟩ ⟨_, rfl, rfl⟩
def L_X10_sets (a1 : Int32) (a2 : Int32) (a3 : Int32) (mem : MMt) (Q : MMt → Prop) : Prop := (vp_in (((10 : Int32) + ((5 : Int32) * a1)) + a2) 322 ∧ ∀ m1 : MMt, m1 = up2 mem 77 (((10 : Int32) + ((5 : Int32) * a1)) + a2).toNatClampNeg a3 → Q m1)
set_option maxRecDepth 4000 in
theorem g_X10_sets {sx : Nat × (Nat → Int32)} {rf : RFt} {Q : MMt → Prop} (a1 : Int32) (a2 : Int32) (a3 : Int32) (hrf : RFok rf) (mem : MMt) (h : L_X10_sets a1 a2 a3 mem Q) : Ct sx yX10_sets cX10_sets 4 none 1 [.ref 76, .int a1, .int a2, .int a3] NX NX rf mem (QQv (RFok) Q) := by
  refine Ct_of [some (.ref 76), some (.int a1), some (.int a2), some (.int a3)] (by decide +kernel) (by simp [Lof, Value.category]) rfl ?_
  unfold L_X10_sets at h
  refine G_aload_n (i := 0) pX10_sets_0 rfl rfl ?_
  refine G_getR (ci := 10) (j := 0) (N := 29) pX10_sets_1 fl_RX10_9 rfl ltk_76 shk_76 (by decide) rfl (hrf.lit 76 0 rfl) ?_
  refine G_bipush pX10_sets_4 bi_10 ?_
  refine G_iconst pX10_sets_6 ic_5 ?_
  refine G_iload_n (i := 1) pX10_sets_7 rfl rfl ?_
  refine G_imul pX10_sets_8 ?_
  refine G_iadd pX10_sets_9 ?_
  refine G_iload_n (i := 2) pX10_sets_10 rfl rfl ?_
  refine G_iadd pX10_sets_11 ?_
  refine G_iload_n (i := 3) pX10_sets_12 rfl rfl ?_
  obtain ⟨hi2, h⟩ := h
  obtain ⟨m1, em1⟩ : ∃ z : MMt, z = up2 mem 77 (((10 : Int32) + ((5 : Int32) * a1)) + a2).toNatClampNeg a3 := ⟨_, rfl⟩
  have h := h m1 em1
  refine G_iastW pX10_sets_13 ltk_77 shk_77 hi2 em1.symm ?_
  exact G_return (len := 1) pX10_sets_14 ⟨hrf, rfl, h⟩ rfl
