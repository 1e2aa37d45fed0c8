def WW_X10_readsQ (n : Nat) : (MMt → (Int32 → MMt → Prop) → Prop) × (MMt → (Int32 → MMt → Prop) → Prop) × (Int32 → MMt → (Int32 → MMt → Prop) → Prop) := Nat.rec (motive := fun _ => (MMt → (Int32 → MMt → Prop) → Prop) × (MMt → (Int32 → MMt → Prop) → Prop) × (Int32 → MMt → (Int32 → MMt → Prop) → Prop)) ((fun _ _ => False), (fun _ _ => False), (fun _ _ _ => False)) (fun _ ih => (L_X10_readsQ (ih.1) (ih.2.1) (ih.2.2), L_X10_readsT (ih.1) (ih.2.1) (ih.2.2), L_X10_reads (ih.1) (ih.2.1) (ih.2.2))) n
def W_X10_readsQ (n : Nat) : MMt → (Int32 → MMt → Prop) → Prop := (WW_X10_readsQ n).1
def W_X10_readsT (n : Nat) : MMt → (Int32 → MMt → Prop) → Prop := (WW_X10_readsQ n).2.1
def W_X10_reads (n : Nat) : Int32 → MMt → (Int32 → MMt → Prop) → Prop := (WW_X10_readsQ n).2.2
theorem W_X10_readsQ_s (n : Nat) : W_X10_readsQ (n + 1) = L_X10_readsQ (W_X10_readsQ n) (W_X10_readsT n) (W_X10_reads n) := rfl
theorem W_X10_readsT_s (n : Nat) : W_X10_readsT (n + 1) = L_X10_readsT (W_X10_readsQ n) (W_X10_readsT n) (W_X10_reads n) := rfl
theorem W_X10_reads_s (n : Nat) : W_X10_reads (n + 1) = L_X10_reads (W_X10_readsQ n) (W_X10_readsT n) (W_X10_reads n) := rfl
theorem gWW_X10_readsQ {sx : Nat × (Nat → Int32)} (n : Nat) : (∀ (rf : RFt) (mem : MMt) (Q : Int32 → MMt → Prop), RFok rf → W_X10_readsQ n mem Q → Ct sx yX10_readsQ cX10_readsQ 3 (some .boolean) (3 + n) [.ref 76] NX NX rf mem (QQi (RFok) Q)) ∧ (∀ (rf : RFt) (mem : MMt) (Q : Int32 → MMt → Prop), RFok rf → W_X10_readsT n mem Q → Ct sx yX10_readsT cX10_readsT 1 (some .boolean) (3 + n) [.ref 76] NX NX rf mem (QQi (RFok) Q)) ∧ (∀ (rf : RFt) (a1 : Int32) (mem : MMt) (Q : Int32 → MMt → Prop), RFok rf → W_X10_reads n a1 mem Q → Ct sx yX10_reads cX10_reads 5 (some .boolean) (3 + n) [.ref 76, .int a1] NX NX rf mem (QQi (RFok) Q)) := by
  induction n with
  | zero => exact ⟨fun rf mem Q hrf h => h.elim, fun rf mem Q hrf h => h.elim, fun rf a1 mem Q hrf h => h.elim⟩
  | succ n ih =>
    exact ⟨fun rf mem Q hrf h => g_X10_readsQ (d0 := 3 + n) (by omega) (ih.1) (ih.2.1) (ih.2.2) hrf mem h, fun rf mem Q hrf h => g_X10_readsT (d0 := 3 + n) (by omega) (ih.1) (ih.2.1) (ih.2.2) hrf mem h, fun rf a1 mem Q hrf h => g_X10_reads (d0 := 3 + n) (by omega) (ih.1) (ih.2.1) (ih.2.2) a1 hrf mem h⟩
theorem gW_X10_readsQ {sx : Nat × (Nat → Int32)} (n : Nat) {rf : RFt} {Q : Int32 → MMt → Prop} (hrf : RFok rf) (mem : MMt) (h : W_X10_readsQ n mem Q) : Ct sx yX10_readsQ cX10_readsQ 3 (some .boolean) (3 + n) [.ref 76] NX NX rf mem (QQi (RFok) Q) := (gWW_X10_readsQ n).1 rf mem Q hrf h
theorem gW_X10_readsT {sx : Nat × (Nat → Int32)} (n : Nat) {rf : RFt} {Q : Int32 → MMt → Prop} (hrf : RFok rf) (mem : MMt) (h : W_X10_readsT n mem Q) : Ct sx yX10_readsT cX10_readsT 1 (some .boolean) (3 + n) [.ref 76] NX NX rf mem (QQi (RFok) Q) := (gWW_X10_readsQ n).2.1 rf mem Q hrf h
theorem gW_X10_reads {sx : Nat × (Nat → Int32)} (n : Nat) {rf : RFt} {Q : Int32 → MMt → Prop} (a1 : Int32) (hrf : RFok rf) (mem : MMt) (h : W_X10_reads n a1 mem Q) : Ct sx yX10_reads cX10_reads 5 (some .boolean) (3 + n) [.ref 76, .int a1] NX NX rf mem (QQi (RFok) Q) := (gWW_X10_readsQ n).2.2 rf a1 mem Q hrf h
def B_X10_text_104 (x3 : Int32) (x4 : Int32) (mem : MMt) (Q : Int32 → MMt → Prop) : Prop := LOOP (σ := Int32 × MMt) (fun X104 z => (fun (x4 : Int32) (mem : MMt) => ((((2 : Int32) * (mem 76 8)) ≤ x4 → Q (1 : Int32) mem) ∧ (¬ ((2 : Int32) * (mem 76 8)) ≤ x4 → (vp_in x4 100 ∧ (vp_in ((x3 + (1 : Int32)) + x4) 322 ∧ ∀ m3 : MMt, m3 = up2 mem 77 ((x3 + (1 : Int32)) + x4).toNatClampNeg (mem 80 x4.toNatClampNeg) → (∀ v5 : Int32, v5 = x4 + (1 : Int32) → X104 (v5, m3))))))) z.1 z.2) (x4, mem)
set_option maxRecDepth 4000 in
theorem gB_X10_text_104 {sx : Nat × (Nat → Int32)} {rf : RFt} {Q : Int32 → MMt → Prop} (hrf : RFok rf) (x3 : Int32) (x4 : Int32) (mem : MMt) (h : B_X10_text_104 x3 x4 mem Q) : G sx yX10_text cX10_text 5 (some .int) 85 NX NX (QQi (RFok) Q) NX rf mem 104 [some (.ref 76), none, none, some (.int x3), some (.int x4)] [] := by
  obtain ⟨I, ⟨n, h0⟩, hI⟩ := h
  have key : ∀ (n : Nat) (rf : RFt) (x4 : Int32) (mem : MMt), RFok rf → I n (x4, mem) → G sx yX10_text cX10_text 5 (some .int) 85 NX NX (QQi (RFok) Q) NX rf mem 104 [some (.ref 76), none, none, some (.int x3), some (.int x4)] [] := by
    intro n
    induction n using Nat.strongRecOn with
    | _ n ih =>
    intro rf x4 mem hrf h0
    have hX104 : ∀ (rf : RFt) (x4 : Int32) (mem : MMt), RFok rf → (fun s' => ∃ m, m < n ∧ I m s') (x4, mem) → G sx yX10_text cX10_text 5 (some .int) 85 NX NX (QQi (RFok) Q) NX rf mem 104 [some (.ref 76), none, none, some (.int x3), some (.int x4)] [] := fun rf x4 mem hrf ⟨m, hm, hi⟩ => ih m hm rf x4 mem hrf hi
    have h := hI n _ h0
    clear ih h0
    try dsimp only at h
    refine G_iload (i := 4) pX10_text_104 rfl ?_
    refine G_iconst pX10_text_106 ic_2 ?_
    refine G_aload_n (i := 0) pX10_text_107 rfl rfl ?_
    refine G_getI (ci := 10) (j := 8) (N := 29) pX10_text_108 fl_RX10_151 rfl ltk_76 shk_76 (by decide) rfl ?_
    refine G_imul pX10_text_111 ?_
    refine G_icmp_ge pX10_text_112 (fun c1 => ?_) (fun c1 => ?_)
    · have h := h.1 c1
      refine G_iconst pX10_text_139 ic_1 ?_
      exact G_ireturn (len := 1) pX10_text_140 ⟨hrf, _, rfl, h⟩ ⟨_, rfl, rfl⟩
    · have h := h.2 c1
      refine G_aload_n (i := 0) pX10_text_115 rfl rfl ?_
      refine G_getR (ci := 10) (j := 0) (N := 29) pX10_text_116 fl_RX10_9 rfl ltk_76 shk_76 (by decide) rfl (hrf.lit 76 0 rfl) ?_
      refine G_iload_n (i := 3) pX10_text_119 rfl rfl ?_
      refine G_iconst pX10_text_120 ic_1 ?_
      refine G_iadd pX10_text_121 ?_
      refine G_iload (i := 4) pX10_text_122 rfl ?_
      refine G_iadd pX10_text_124 ?_
      refine G_aload_n (i := 0) pX10_text_125 rfl rfl ?_
      refine G_getR (ci := 10) (j := 9) (N := 29) pX10_text_126 fl_RX10_19 rfl ltk_76 shk_76 (by decide) rfl (hrf.lit 76 9 rfl) ?_
      refine G_iload (i := 4) pX10_text_129 rfl ?_
      obtain ⟨hi2, h⟩ := h
      refine G_iald pX10_text_131 ltk_80 shk_80 hi2 ?_
      obtain ⟨hi4, h⟩ := h
      obtain ⟨m3, em3⟩ : ∃ z : MMt, z = up2 mem 77 ((x3 + (1 : Int32)) + x4).toNatClampNeg (mem 80 x4.toNatClampNeg) := ⟨_, rfl⟩
      have h := h m3 em3
      refine G_iastW pX10_text_132 ltk_77 shk_77 hi4 em3.symm ?_
      obtain ⟨v5, e5⟩ : ∃ z : Int32, z = x4 + (1 : Int32) := ⟨_, rfl⟩
      have h := h v5 e5
      refine G_iincW (L' := [some (.ref 76), none, none, some (.int x3), some (.int v5)]) pX10_text_133 rfl ic_1 e5.symm rfl ?_
      refine G_goto pX10_text_136 ?_
      exact hX104 _ _ _ hrf h
  exact key n rf _ _ hrf h0
def B_X10_text_62 (x1 : Int32) (s0 : Int32) (mem : MMt) (Q : Int32 → MMt → Prop) : Prop := (∀ m1 : MMt, m1 = up2 mem 77 7 (0 : Int32) → ((¬ s0 = 0 → (∀ v3 : Int32, v3 = (120 : Int32) + ((101 : Int32) * x1) → (vp_in v3 322 ∧ ∀ m4 : MMt, m4 = up2 m1 77 v3.toNatClampNeg (m1 76 8) → B_X10_text_104 v3 (0 : Int32) m4 Q))) ∧ (s0 = 0 → Q ((-10 : Int32) - (m1 76 5)) m1)))
set_option maxRecDepth 4000 in
theorem gB_X10_text_62 {sx : Nat × (Nat → Int32)} {rf : RFt} {Q : Int32 → MMt → Prop} (hrf : RFok rf) (x1 : Int32) (s0 : Int32) (mem : MMt) (h : B_X10_text_62 x1 s0 mem Q) : G sx yX10_text cX10_text 5 (some .int) 85 NX NX (QQi (RFok) Q) NX rf mem 62 [some (.ref 76), some (.int x1), none, none, none] [.int s0] := by
  unfold B_X10_text_62 at h
  refine G_istore_n (i := 2) (L' := [some (.ref 76), some (.int x1), some (.int s0), none, none]) pX10_text_62 rfl rfl ?_
  refine G_aload_n (i := 0) pX10_text_63 rfl rfl ?_
  refine G_getR (ci := 10) (j := 0) (N := 29) pX10_text_64 fl_RX10_9 rfl ltk_76 shk_76 (by decide) rfl (hrf.lit 76 0 rfl) ?_
  refine G_bipush pX10_text_67 bi_7 ?_
  refine G_iconst pX10_text_69 ic_0 ?_
  obtain ⟨m1, em1⟩ : ∃ z : MMt, z = up2 mem 77 7 (0 : Int32) := ⟨_, rfl⟩
  have h := h m1 em1
  refine G_iastL (j := 7) pX10_text_70 ltk_77 shk_77 (vpl (by decide)) (by decide) em1.symm ?_
  refine G_iload_n (i := 2) pX10_text_71 rfl rfl ?_
  refine G_if_ne pX10_text_72 (fun c2 => ?_) (fun c2 => ?_)
  · have h := h.1 c2
    refine G_bipush pX10_text_83 bi_120 ?_
    refine G_bipush pX10_text_85 bi_101 ?_
    refine G_iload_n (i := 1) pX10_text_87 rfl rfl ?_
    refine G_imul pX10_text_88 ?_
    refine G_iadd pX10_text_89 ?_
    obtain ⟨v3, e3⟩ : ∃ z : Int32, z = (120 : Int32) + ((101 : Int32) * x1) := ⟨_, rfl⟩
    have h := h v3 e3
    refine G_istore_nW (L' := [some (.ref 76), some (.int x1), some (.int s0), some (.int v3), none]) pX10_text_90 rfl e3.symm rfl ?_
    refine G_aload_n (i := 0) pX10_text_91 rfl rfl ?_
    refine G_getR (ci := 10) (j := 0) (N := 29) pX10_text_92 fl_RX10_9 rfl ltk_76 shk_76 (by decide) rfl (hrf.lit 76 0 rfl) ?_
    refine G_iload_n (i := 3) pX10_text_95 rfl rfl ?_
    refine G_aload_n (i := 0) pX10_text_96 rfl rfl ?_
    refine G_getI (ci := 10) (j := 8) (N := 29) pX10_text_97 fl_RX10_151 rfl ltk_76 shk_76 (by decide) rfl ?_
    obtain ⟨hi5, h⟩ := h
    obtain ⟨m4, em4⟩ : ∃ z : MMt, z = up2 m1 77 v3.toNatClampNeg (m1 76 8) := ⟨_, rfl⟩
    have h := h m4 em4
    refine G_iastW pX10_text_100 ltk_77 shk_77 hi5 em4.symm ?_
    refine G_iconst pX10_text_101 ic_0 ?_
    refine G_istore (i := 4) (L' := [some (.ref 76), some (.int x1), some (.int s0), some (.int v3), some (.int (0 : Int32))]) pX10_text_102 rfl ?_
    refine G_wk (L2 := [some (.ref 76), none, none, some (.int v3), some (.int (0 : Int32))]) ⟨Or.inr rfl, Or.inl rfl, Or.inl rfl, Or.inr rfl, Or.inr rfl, trivial⟩ ?_
    exact gB_X10_text_104 hrf v3 (0 : Int32) _ h
  · have h := h.2 c2
    refine G_bipush pX10_text_75 bi_m10 ?_
    refine G_aload_n (i := 0) pX10_text_77 rfl rfl ?_
    refine G_getI (ci := 10) (j := 5) (N := 29) pX10_text_78 fl_RX10_139 rfl ltk_76 shk_76 (by decide) rfl ?_
    refine G_isub pX10_text_81 ?_
    exact G_ireturn (len := 1) pX10_text_82 ⟨hrf, _, rfl, h⟩ ⟨_, rfl, rfl⟩
def B_X10_text_61 (x1 : Int32) (mem : MMt) (Q : Int32 → MMt → Prop) : Prop := B_X10_text_62 x1 (0 : Int32) mem Q
set_option maxRecDepth 4000 in
theorem gB_X10_text_61 {sx : Nat × (Nat → Int32)} {rf : RFt} {Q : Int32 → MMt → Prop} (hrf : RFok rf) (x1 : Int32) (mem : MMt) (h : B_X10_text_61 x1 mem Q) : G sx yX10_text cX10_text 5 (some .int) 85 NX NX (QQi (RFok) Q) NX rf mem 61 [some (.ref 76), some (.int x1), none, none, none] [] := by
  unfold B_X10_text_61 at h
  refine G_iconst pX10_text_61 ic_0 ?_
  exact gB_X10_text_62 hrf x1 (0 : Int32) _ h
def L_X10_text (a1 : Int32) (mem : MMt) (Q : Int32 → MMt → Prop) : Prop := L_X10_isIn a1.toInt64 (0 : Int64) (1 : Int64) mem (fun r2 m1 => ((¬ r2 = 0 → (∀ m4 : MMt, m4 = up2 m1 76 7 a1 → (∀ m5 : MMt, m5 = up2 m4 76 5 (0 : Int32) → (∀ m6 : MMt, m6 = up2 m5 76 6 (0 : Int32) → (∀ m7 : MMt, m7 = up2 m6 76 8 (0 : Int32) → W_X10_readsT 80 m7 (fun r9 m8 => ((r9 = 0 → B_X10_text_61 a1 m8 Q) ∧ (¬ r9 = 0 → ((¬ (m8 76 5) = (m8 77 7) → B_X10_text_61 a1 m8 Q) ∧ ((m8 76 5) = (m8 77 7) → B_X10_text_62 a1 (1 : Int32) m8 Q)))))))))) ∧ (r2 = 0 → L_X10_error (1 : Int32) m1 (fun r13 m12 => Q r13 m12))))
set_option maxRecDepth 4000 in
theorem g_X10_text {sx : Nat × (Nat → Int32)} {rf : RFt} {Q : Int32 → MMt → Prop} (a1 : Int32) (hrf : RFok rf) (mem : MMt) (h : L_X10_text a1 mem Q) : Ct sx yX10_text cX10_text 5 (some .int) 85 [.ref 76, .int a1] NX NX rf mem (QQi (RFok) Q) := by
  refine Ct_of [some (.ref 76), some (.int a1), none, none, none] (by decide +kernel) (by simp [Lof, Value.category]) rfl ?_
  unfold L_X10_text at h
  refine G_iload_n (i := 1) pX10_text_0 rfl rfl ?_
  refine G_i2l pX10_text_1 ?_
  refine G_lconst pX10_text_2 lc_0 ?_
  refine G_lconst pX10_text_3 lc_1 ?_
  refine G_callS3i pX10_text_4 (g_X10_isIn a1.toInt64 (0 : Int64) (1 : Int64) hrf _ h) mS_X10_isIn ml_RX10_53 (by decide) ⟨Nat.le_refl _, Nat.le_refl _, Nat.le_refl _⟩ (Nat.le_of_ble_eq_true rfl) ?_
  intro r2 rf m1 hrf h hr2
  refine G_if_ne pX10_text_7 (fun c3 => ?_) (fun c3 => ?_)
  · have h := h.1 c3
    refine G_aload_n (i := 0) pX10_text_16 rfl rfl ?_
    refine G_iload_n (i := 1) pX10_text_17 rfl rfl ?_
    obtain ⟨m4, em4⟩ : ∃ z : MMt, z = up2 m1 76 7 a1 := ⟨_, rfl⟩
    have h := h m4 em4
    refine G_putIW (ci := 10) (j := 7) (N := 29) pX10_text_18 fw_RX10_154 rfl ltk_76 shk_76 (by decide) rfl (fun _ => ⟨rfl, rfl⟩) em4.symm ?_
    refine G_aload_n (i := 0) pX10_text_21 rfl rfl ?_
    refine G_iconst pX10_text_22 ic_0 ?_
    obtain ⟨m5, em5⟩ : ∃ z : MMt, z = up2 m4 76 5 (0 : Int32) := ⟨_, rfl⟩
    have h := h m5 em5
    refine G_putIW (ci := 10) (j := 5) (N := 29) pX10_text_23 fw_RX10_139 rfl ltk_76 shk_76 (by decide) rfl (fun _ => ⟨rfl, rfl⟩) em5.symm ?_
    refine G_aload_n (i := 0) pX10_text_26 rfl rfl ?_
    refine G_iconst pX10_text_27 ic_0 ?_
    obtain ⟨m6, em6⟩ : ∃ z : MMt, z = up2 m5 76 6 (0 : Int32) := ⟨_, rfl⟩
    have h := h m6 em6
    refine G_putIW (ci := 10) (j := 6) (N := 29) pX10_text_28 fw_RX10_171 rfl ltk_76 shk_76 (by decide) rfl (fun _ => ⟨rfl, rfl⟩) em6.symm ?_
    refine G_aload_n (i := 0) pX10_text_31 rfl rfl ?_
    refine G_iconst pX10_text_32 ic_0 ?_
    obtain ⟨m7, em7⟩ : ∃ z : MMt, z = up2 m6 76 8 (0 : Int32) := ⟨_, rfl⟩
    have h := h m7 em7
    refine G_putIW (ci := 10) (j := 8) (N := 29) pX10_text_33 fw_RX10_151 rfl ltk_76 shk_76 (by decide) rfl (fun _ => ⟨rfl, rfl⟩) em7.symm ?_
    refine G_aload_n (i := 0) pX10_text_36 rfl rfl ?_
    refine G_callV0i (b := 76) (ci := 10) (N := 29) pX10_text_37 (gW_X10_readsT 80 hrf _ h) mV_X10_readsT ml_RX10_177 (by decide) ⟨Nat.le_refl _, Nat.le_refl _, Nat.le_refl _⟩ (Nat.le_of_ble_eq_true rfl) ltk_76 shk_76 rfl ?_
    intro r9 rf m8 hrf h hr9
    refine G_if_eq pX10_text_40 (fun c10 => ?_) (fun c10 => ?_)
    · have h := h.1 c10
      exact gB_X10_text_61 hrf a1 _ h
    · have h := h.2 c10
      refine G_aload_n (i := 0) pX10_text_43 rfl rfl ?_
      refine G_getI (ci := 10) (j := 5) (N := 29) pX10_text_44 fl_RX10_139 rfl ltk_76 shk_76 (by decide) rfl ?_
      refine G_aload_n (i := 0) pX10_text_47 rfl rfl ?_
      refine G_getR (ci := 10) (j := 0) (N := 29) pX10_text_48 fl_RX10_9 rfl ltk_76 shk_76 (by decide) rfl (hrf.lit 76 0 rfl) ?_
      refine G_bipush pX10_text_51 bi_7 ?_
      refine G_ialdL (j := 7) pX10_text_53 ltk_77 shk_77 (vpl (by decide)) (by decide) ?_
      refine G_icmp_ne pX10_text_54 (fun c11 => ?_) (fun c11 => ?_)
      · have h := h.1 c11
        exact gB_X10_text_61 hrf a1 _ h
      · have h := h.2 c11
        refine G_iconst pX10_text_57 ic_1 ?_
        refine G_goto pX10_text_58 ?_
        exact gB_X10_text_62 hrf a1 (1 : Int32) _ h
  · have h := h.2 c3
    refine G_aload_n (i := 0) pX10_text_10 rfl rfl ?_
    refine G_iconst pX10_text_11 ic_1 ?_
    refine G_callV1i (b := 76) (ci := 10) (N := 29) pX10_text_12 (g_X10_error (1 : Int32) hrf _ h) mV_X10_error ml_RX10_79 (by decide) ⟨Nat.le_refl _, Nat.le_refl _, Nat.le_refl _⟩ (Nat.le_of_ble_eq_true rfl) ltk_76 shk_76 rfl ?_
    intro r13 rf m12 hrf h hr13
    exact G_ireturn (len := 1) pX10_text_15 ⟨hrf, _, rfl, h⟩ ⟨_, rfl, rfl⟩
def L_X10_law (a1 : Int32) (a2 : Int32) (a3 : Int32) (a4 : Int32) (mem : MMt) (Q : Int32 → MMt → Prop) : Prop := L_X10_isIn a1.toInt64 (0 : Int64) (1 : Int64) mem (fun r2 m1 => ((r2 = 0 → L_X10_error (1 : Int32) m1 (fun r5 m4 => Q r5 m4)) ∧ (¬ r2 = 0 → L_X10_gives a1 a2 a3 a4 m1 (fun r7 m6 => Q r7 m6))))
set_option maxRecDepth 4000 in
theorem g_X10_law {sx : Nat × (Nat → Int32)} {rf : RFt} {Q : Int32 → MMt → Prop} (a1 : Int32) (a2 : Int32) (a3 : Int32) (a4 : Int32) (hrf : RFok rf) (mem : MMt) (h : L_X10_law a1 a2 a3 a4 mem Q) : Ct sx yX10_law cX10_law 5 (some .int) 4 [.ref 76, .int a1, .int a2, .int a3, .int a4] NX NX rf mem (QQi (RFok) Q) := by
  refine Ct_of [some (.ref 76), some (.int a1), some (.int a2), some (.int a3), some (.int a4)] (by decide +kernel) (by simp [Lof, Value.category]) rfl ?_
  unfold L_X10_law at h
  refine G_iload_n (i := 1) pX10_law_0 rfl rfl ?_
  refine G_i2l pX10_law_1 ?_
  refine G_lconst pX10_law_2 lc_0 ?_
  refine G_lconst pX10_law_3 lc_1 ?_
  refine G_callS3i pX10_law_4 (g_X10_isIn a1.toInt64 (0 : Int64) (1 : Int64) hrf _ h) mS_X10_isIn ml_RX10_53 (by decide) ⟨Nat.le_refl _, Nat.le_refl _, Nat.le_refl _⟩ (Nat.le_of_ble_eq_true rfl) ?_
  intro r2 rf m1 hrf h hr2
  refine G_if_eq pX10_law_7 (fun c3 => ?_) (fun c3 => ?_)
  · have h := h.1 c3
    refine G_aload_n (i := 0) pX10_law_22 rfl rfl ?_
    refine G_iconst pX10_law_23 ic_1 ?_
    refine G_callV1i (b := 76) (ci := 10) (N := 29) pX10_law_24 (g_X10_error (1 : Int32) hrf _ h) mV_X10_error ml_RX10_79 (by decide) ⟨Nat.le_refl _, Nat.le_refl _, Nat.le_refl _⟩ (Nat.le_of_ble_eq_true rfl) ltk_76 shk_76 rfl ?_
    intro r5 rf m4 hrf h hr5
    exact G_ireturn (len := 1) pX10_law_27 ⟨hrf, _, rfl, h⟩ ⟨_, rfl, rfl⟩
  · have h := h.2 c3
    refine G_aload_n (i := 0) pX10_law_10 rfl rfl ?_
    refine G_iload_n (i := 1) pX10_law_11 rfl rfl ?_
    refine G_iload_n (i := 2) pX10_law_12 rfl rfl ?_
    refine G_iload_n (i := 3) pX10_law_13 rfl rfl ?_
    refine G_iload (i := 4) pX10_law_14 rfl ?_
    refine G_callV4i (b := 76) (ci := 10) (N := 29) pX10_law_16 (g_X10_gives a1 a2 a3 a4 hrf _ h) mV_X10_gives ml_RX10_68 (by decide) ⟨Nat.le_refl _, Nat.le_refl _, Nat.le_refl _⟩ (Nat.le_of_ble_eq_true rfl) ltk_76 shk_76 rfl ?_
    intro r7 rf m6 hrf h hr7
    refine G_goto pX10_law_19 ?_
    exact G_ireturn (len := 1) pX10_law_27 ⟨hrf, _, rfl, h⟩ ⟨_, rfl, rfl⟩
def B_X10_goes_56 (x1 : Int32) (mem : MMt) (Q : MMt → Prop) : Prop := L_X10_loadOf x1 mem (fun r2 m1 => L_X10_gives (1 : Int32) ((mem 76 12) / (40 : Int32)) r2 (m1 77 0) m1 (fun r4 m3 => L_X10_within ((mem 77 1) + r4) (-99999 : Int32) (99999 : Int32) m3 (fun r6 m5 => (∀ m7 : MMt, m7 = up2 m5 77 1 r6 → Q m7))))
set_option maxRecDepth 4000 in
theorem gB_X10_goes_56 {sx : Nat × (Nat → Int32)} {rf : RFt} {Q : MMt → Prop} (hrf : RFok rf) (x1 : Int32) (mem : MMt) (h : B_X10_goes_56 x1 mem Q) : G sx yX10_goes cX10_goes 3 none 6 NX NX (QQv (RFok) Q) NX rf mem 56 [some (.ref 76), some (.int x1), none] [] := by
  unfold B_X10_goes_56 at h
  refine G_aload_n (i := 0) pX10_goes_56 rfl rfl ?_
  refine G_getR (ci := 10) (j := 0) (N := 29) pX10_goes_57 fl_RX10_9 rfl ltk_76 shk_76 (by decide) rfl (hrf.lit 76 0 rfl) ?_
  refine G_iconst pX10_goes_60 ic_1 ?_
  refine G_aload_n (i := 0) pX10_goes_61 rfl rfl ?_
  refine G_getR (ci := 10) (j := 0) (N := 29) pX10_goes_62 fl_RX10_9 rfl ltk_76 shk_76 (by decide) rfl (hrf.lit 76 0 rfl) ?_
  refine G_iconst pX10_goes_65 ic_1 ?_
  refine G_ialdL (j := 1) pX10_goes_66 ltk_77 shk_77 (vpl (by decide)) (by decide) ?_
  refine G_aload_n (i := 0) pX10_goes_67 rfl rfl ?_
  refine G_iconst pX10_goes_68 ic_1 ?_
  refine G_aload_n (i := 0) pX10_goes_69 rfl rfl ?_
  refine G_getI (ci := 10) (j := 12) (N := 29) pX10_goes_70 fl_RX10_195 rfl ltk_76 shk_76 (by decide) rfl ?_
  refine G_bipush pX10_goes_73 bi_40 ?_
  refine G_idiv pX10_goes_75 (by decide) ?_
  refine G_aload_n (i := 0) pX10_goes_76 rfl rfl ?_
  refine G_iload_n (i := 1) pX10_goes_77 rfl rfl ?_
  refine G_callV1i (b := 76) (ci := 10) (N := 29) pX10_goes_78 (g_X10_loadOf x1 hrf _ h) mV_X10_loadOf ml_RX10_91 (by decide) ⟨Nat.le_refl _, Nat.le_refl _, Nat.le_refl _⟩ (Nat.le_of_ble_eq_true rfl) ltk_76 shk_76 rfl ?_
  intro r2 rf m1 hrf h hr2
  refine G_aload_n (i := 0) pX10_goes_81 rfl rfl ?_
  refine G_getR (ci := 10) (j := 0) (N := 29) pX10_goes_82 fl_RX10_9 rfl ltk_76 shk_76 (by decide) rfl (hrf.lit 76 0 rfl) ?_
  refine G_iconst pX10_goes_85 ic_0 ?_
  refine G_ialdL (j := 0) pX10_goes_86 ltk_77 shk_77 (vpl (by decide)) (by decide) ?_
  refine G_callV4i (b := 76) (ci := 10) (N := 29) pX10_goes_87 (g_X10_gives (1 : Int32) ((mem 76 12) / (40 : Int32)) r2 (m1 77 0) hrf _ h) mV_X10_gives ml_RX10_68 (by decide) ⟨Nat.le_refl _, Nat.le_refl _, Nat.le_refl _⟩ (Nat.le_of_ble_eq_true rfl) ltk_76 shk_76 rfl ?_
  intro r4 rf m3 hrf h hr4
  refine G_iadd pX10_goes_90 ?_
  refine G_ldc pX10_goes_91 rfl wc_RX10_205 ?_
  refine G_ldc pX10_goes_93 rfl wc_RX10_206 ?_
  refine G_callS3i pX10_goes_95 (g_X10_within ((mem 77 1) + r4) (-99999 : Int32) (99999 : Int32) hrf _ h) mS_X10_within ml_RX10_112 (by decide) ⟨Nat.le_refl _, Nat.le_refl _, Nat.le_refl _⟩ (Nat.le_of_ble_eq_true rfl) ?_
  intro r6 rf m5 hrf h hr6
  obtain ⟨m7, em7⟩ : ∃ z : MMt, z = up2 m5 77 1 r6 := ⟨_, rfl⟩
  have h := h m7 em7
  refine G_iastL (j := 1) pX10_goes_98 ltk_77 shk_77 (vpl (by decide)) (by decide) em7.symm ?_
  exact G_return (len := 1) pX10_goes_99 ⟨hrf, rfl, h⟩ rfl
def L_X10_goes (a1 : Int32) (mem : MMt) (Q : MMt → Prop) : Prop := L_X10_looksAhead a1 mem (fun m1 => L_X10_of a1 (2 : Int32) m1 (fun r3 m2 => L_X10_sets a1 (2 : Int32) (m2 76 12) m2 (fun m4 => L_X10_sets a1 (3 : Int32) (m4 76 13) m4 (fun m5 => (((m5 76 12) = r3 → Q m5) ∧ (¬ (m5 76 12) = r3 → (((m5 76 12) = 0 → B_X10_goes_56 a1 m5 Q) ∧ (¬ (m5 76 12) = 0 → ((¬ (m5 76 12) = (40 : Int32) → Q m5) ∧ ((m5 76 12) = (40 : Int32) → B_X10_goes_56 a1 m5 Q))))))))))
set_option maxRecDepth 4000 in
theorem g_X10_goes {sx : Nat × (Nat → Int32)} {rf : RFt} {Q : MMt → Prop} (a1 : Int32) (hrf : RFok rf) (mem : MMt) (h : L_X10_goes a1 mem Q) : Ct sx yX10_goes cX10_goes 3 none 6 [.ref 76, .int a1] NX NX rf mem (QQv (RFok) Q) := by
  refine Ct_of [some (.ref 76), some (.int a1), none] (by decide +kernel) (by simp [Lof, Value.category]) rfl ?_
  unfold L_X10_goes at h
  refine G_aload_n (i := 0) pX10_goes_0 rfl rfl ?_
  refine G_iload_n (i := 1) pX10_goes_1 rfl rfl ?_
  refine G_callV1v (b := 76) (ci := 10) (N := 29) pX10_goes_2 (g_X10_looksAhead a1 hrf _ h) mV_X10_looksAhead ml_RX10_201 (by decide) ⟨Nat.le_refl _, Nat.le_refl _, Nat.le_refl _⟩ (Nat.le_of_ble_eq_true rfl) ltk_76 shk_76 rfl ?_
  intro rf m1 hrf h
  refine G_aload_n (i := 0) pX10_goes_5 rfl rfl ?_
  refine G_iload_n (i := 1) pX10_goes_6 rfl rfl ?_
  refine G_iconst pX10_goes_7 ic_2 ?_
  refine G_callV2i (b := 76) (ci := 10) (N := 29) pX10_goes_8 (g_X10_of a1 (2 : Int32) hrf _ h) mV_X10_of ml_RX10_61 (by decide) ⟨Nat.le_refl _, Nat.le_refl _, Nat.le_refl _⟩ (Nat.le_of_ble_eq_true rfl) ltk_76 shk_76 rfl ?_
  intro r3 rf m2 hrf h hr3
  refine G_istore_n (i := 2) (L' := [some (.ref 76), some (.int a1), some (.int r3)]) pX10_goes_11 rfl rfl ?_
  refine G_aload_n (i := 0) pX10_goes_12 rfl rfl ?_
  refine G_iload_n (i := 1) pX10_goes_13 rfl rfl ?_
  refine G_iconst pX10_goes_14 ic_2 ?_
  refine G_aload_n (i := 0) pX10_goes_15 rfl rfl ?_
  refine G_getI (ci := 10) (j := 12) (N := 29) pX10_goes_16 fl_RX10_195 rfl ltk_76 shk_76 (by decide) rfl ?_
  refine G_callV3v (b := 76) (ci := 10) (N := 29) pX10_goes_19 (g_X10_sets a1 (2 : Int32) (m2 76 12) hrf _ h) mV_X10_sets ml_RX10_83 (by decide) ⟨Nat.le_refl _, Nat.le_refl _, Nat.le_refl _⟩ (Nat.le_of_ble_eq_true rfl) ltk_76 shk_76 rfl ?_
  intro rf m4 hrf h
  refine G_aload_n (i := 0) pX10_goes_22 rfl rfl ?_
  refine G_iload_n (i := 1) pX10_goes_23 rfl rfl ?_
  refine G_iconst pX10_goes_24 ic_3 ?_
  refine G_aload_n (i := 0) pX10_goes_25 rfl rfl ?_
  refine G_getI (ci := 10) (j := 13) (N := 29) pX10_goes_26 fl_RX10_198 rfl ltk_76 shk_76 (by decide) rfl ?_
  refine G_callV3v (b := 76) (ci := 10) (N := 29) pX10_goes_29 (g_X10_sets a1 (3 : Int32) (m4 76 13) hrf _ h) mV_X10_sets ml_RX10_83 (by decide) ⟨Nat.le_refl _, Nat.le_refl _, Nat.le_refl _⟩ (Nat.le_of_ble_eq_true rfl) ltk_76 shk_76 rfl ?_
  intro rf m5 hrf h
  refine G_aload_n (i := 0) pX10_goes_32 rfl rfl ?_
  refine G_getI (ci := 10) (j := 12) (N := 29) pX10_goes_33 fl_RX10_195 rfl ltk_76 shk_76 (by decide) rfl ?_
  refine G_iload_n (i := 2) pX10_goes_36 rfl rfl ?_
  refine G_icmp_eq pX10_goes_37 (fun c6 => ?_) (fun c6 => ?_)
  · have h := h.1 c6
    exact G_return (len := 1) pX10_goes_99 ⟨hrf, rfl, h⟩ rfl
  · have h := h.2 c6
    refine G_aload_n (i := 0) pX10_goes_40 rfl rfl ?_
    refine G_getI (ci := 10) (j := 12) (N := 29) pX10_goes_41 fl_RX10_195 rfl ltk_76 shk_76 (by decide) rfl ?_
    refine G_if_eq pX10_goes_44 (fun c7 => ?_) (fun c7 => ?_)
    · have h := h.1 c7
      refine G_wk (L2 := [some (.ref 76), some (.int a1), none]) ⟨Or.inr rfl, Or.inr rfl, Or.inl rfl, trivial⟩ ?_
      exact gB_X10_goes_56 hrf a1 _ h
    · have h := h.2 c7
      refine G_aload_n (i := 0) pX10_goes_47 rfl rfl ?_
      refine G_getI (ci := 10) (j := 12) (N := 29) pX10_goes_48 fl_RX10_195 rfl ltk_76 shk_76 (by decide) rfl ?_
      refine G_bipush pX10_goes_51 bi_40 ?_
      refine G_icmp_ne pX10_goes_53 (fun c8 => ?_) (fun c8 => ?_)
      · have h := h.1 c8
        exact G_return (len := 1) pX10_goes_99 ⟨hrf, rfl, h⟩ rfl
      · have h := h.2 c8
        refine G_wk (L2 := [some (.ref 76), some (.int a1), none]) ⟨Or.inr rfl, Or.inr rfl, Or.inl rfl, trivial⟩ ?_
        exact gB_X10_goes_56 hrf a1 _ h
def B_X10_step_2 (x1 : Int32) (mem : MMt) (Q : MMt → Prop) : Prop := LOOP (σ := Int32 × MMt) (fun X2 z => (fun (x1 : Int32) (mem : MMt) => (((mem 77 6) ≤ x1 → (∀ m2 : MMt, m2 = up2 mem 77 0 ((mem 77 0) + (1 : Int32)) → Q m2)) ∧ (¬ (mem 77 6) ≤ x1 → L_X10_goes x1 mem (fun m3 => (∀ v4 : Int32, v4 = x1 + (1 : Int32) → X2 (v4, m3)))))) z.1 z.2) (x1, mem)
set_option maxRecDepth 4000 in
theorem gB_X10_step_2 {sx : Nat × (Nat → Int32)} {rf : RFt} {Q : MMt → Prop} (hrf : RFok rf) (x1 : Int32) (mem : MMt) (h : B_X10_step_2 x1 mem Q) : G sx yX10_step cX10_step 2 none 7 NX NX (QQv (RFok) Q) NX rf mem 2 [some (.ref 76), some (.int x1)] [] := by
  obtain ⟨I, ⟨n, h0⟩, hI⟩ := h
  have key : ∀ (n : Nat) (rf : RFt) (x1 : Int32) (mem : MMt), RFok rf → I n (x1, mem) → G sx yX10_step cX10_step 2 none 7 NX NX (QQv (RFok) Q) NX rf mem 2 [some (.ref 76), some (.int x1)] [] := by
    intro n
    induction n using Nat.strongRecOn with
    | _ n ih =>
    intro rf x1 mem hrf h0
    have hX2 : ∀ (rf : RFt) (x1 : Int32) (mem : MMt), RFok rf → (fun s' => ∃ m, m < n ∧ I m s') (x1, mem) → G sx yX10_step cX10_step 2 none 7 NX NX (QQv (RFok) Q) NX rf mem 2 [some (.ref 76), some (.int x1)] [] := fun rf x1 mem hrf ⟨m, hm, hi⟩ => ih m hm rf x1 mem hrf hi
    have h := hI n _ h0
    clear ih h0
    try dsimp only at h
    refine G_iload_n (i := 1) pX10_step_2 rfl rfl ?_
    refine G_aload_n (i := 0) pX10_step_3 rfl rfl ?_
    refine G_getR (ci := 10) (j := 0) (N := 29) pX10_step_4 fl_RX10_9 rfl ltk_76 shk_76 (by decide) rfl (hrf.lit 76 0 rfl) ?_
    refine G_bipush pX10_step_7 bi_6 ?_
    refine G_ialdL (j := 6) pX10_step_9 ltk_77 shk_77 (vpl (by decide)) (by decide) ?_
    refine G_icmp_ge pX10_step_10 (fun c1 => ?_) (fun c1 => ?_)
    · have h := h.1 c1
      refine G_aload_n (i := 0) pX10_step_24 rfl rfl ?_
      refine G_getR (ci := 10) (j := 0) (N := 29) pX10_step_25 fl_RX10_9 rfl ltk_76 shk_76 (by decide) rfl (hrf.lit 76 0 rfl) ?_
      refine G_iconst pX10_step_28 ic_0 ?_
      refine G_dup2 pX10_step_29 rfl rfl ?_
      refine G_ialdL (j := 0) pX10_step_30 ltk_77 shk_77 (vpl (by decide)) (by decide) ?_
      refine G_iconst pX10_step_31 ic_1 ?_
      refine G_iadd pX10_step_32 ?_
      obtain ⟨m2, em2⟩ : ∃ z : MMt, z = up2 mem 77 0 ((mem 77 0) + (1 : Int32)) := ⟨_, rfl⟩
      have h := h m2 em2
      refine G_iastL (j := 0) pX10_step_33 ltk_77 shk_77 (vpl (by decide)) (by decide) em2.symm ?_
      exact G_return (len := 1) pX10_step_34 ⟨hrf, rfl, h⟩ rfl
    · have h := h.2 c1
      refine G_aload_n (i := 0) pX10_step_13 rfl rfl ?_
      refine G_iload_n (i := 1) pX10_step_14 rfl rfl ?_
      refine G_callV1v (b := 76) (ci := 10) (N := 29) pX10_step_15 (g_X10_goes x1 hrf _ h) mV_X10_goes ml_RX10_207 (by decide) ⟨Nat.le_refl _, Nat.le_refl _, Nat.le_refl _⟩ (Nat.le_of_ble_eq_true rfl) ltk_76 shk_76 rfl ?_
      intro rf m3 hrf h
      obtain ⟨v4, e4⟩ : ∃ z : Int32, z = x1 + (1 : Int32) := ⟨_, rfl⟩
      have h := h v4 e4
      refine G_iincW (L' := [some (.ref 76), some (.int v4)]) pX10_step_18 rfl ic_1 e4.symm rfl ?_
      refine G_goto pX10_step_21 ?_
      exact hX2 _ _ _ hrf h
  exact key n rf _ _ hrf h0
def L_X10_step (mem : MMt) (Q : MMt → Prop) : Prop := B_X10_step_2 (0 : Int32) mem Q
set_option maxRecDepth 4000 in
theorem g_X10_step {sx : Nat × (Nat → Int32)} {rf : RFt} {Q : MMt → Prop} (hrf : RFok rf) (mem : MMt) (h : L_X10_step mem Q) : Ct sx yX10_step cX10_step 2 none 7 [.ref 76] NX NX rf mem (QQv (RFok) Q) := by
  refine Ct_of [some (.ref 76), none] (by decide +kernel) (by simp [Lof, Value.category]) rfl ?_
  unfold L_X10_step at h
  refine G_iconst pX10_step_0 ic_0 ?_
  refine G_istore_n (i := 1) (L' := [some (.ref 76), some (.int (0 : Int32))]) pX10_step_1 rfl rfl ?_
  exact gB_X10_step_2 hrf (0 : Int32) _ h
def B_X10_resting_29 (X4 : Int32 × Int32 × MMt → Prop) (x2 : Int32) (s0 : Int32) (s1 : Int32) (mem : MMt) (Q : Int32 → MMt → Prop) : Prop := (∀ v1 : Int32, v1 = s1 + s0 → (∀ v2 : Int32, v2 = x2 + (1 : Int32) → X4 (v1, v2, mem)))
set_option maxRecDepth 4000 in
theorem gB_X10_resting_29 {sx : Nat × (Nat → Int32)} {X4 : Int32 × Int32 × MMt → Prop} {rf : RFt} {Q : Int32 → MMt → Prop} (hrf : RFok rf) (x2 : Int32) (s0 : Int32) (s1 : Int32) (hX4 : ∀ (rf : RFt) (x1 : Int32) (x2 : Int32) (mem : MMt), RFok rf → X4 (x1, x2, mem) → G sx yX10_resting cX10_resting 3 (some .int) 7 NX NX (QQi (RFok) Q) NX rf mem 4 [some (.ref 76), some (.int x1), some (.int x2)] []) (mem : MMt) (h : B_X10_resting_29 X4 x2 s0 s1 mem Q) : G sx yX10_resting cX10_resting 3 (some .int) 7 NX NX (QQi (RFok) Q) NX rf mem 29 [some (.ref 76), none, some (.int x2)] [.int s0, .int s1] := by
  unfold B_X10_resting_29 at h
  refine G_iadd pX10_resting_29 ?_
  obtain ⟨v1, e1⟩ : ∃ z : Int32, z = s1 + s0 := ⟨_, rfl⟩
  have h := h v1 e1
  refine G_istore_nW (L' := [some (.ref 76), some (.int v1), some (.int x2)]) pX10_resting_30 rfl e1.symm rfl ?_
  obtain ⟨v2, e2⟩ : ∃ z : Int32, z = x2 + (1 : Int32) := ⟨_, rfl⟩
  have h := h v2 e2
  refine G_iincW (L' := [some (.ref 76), some (.int v1), some (.int v2)]) pX10_resting_31 rfl ic_1 e2.symm rfl ?_
  refine G_goto pX10_resting_34 ?_
  exact hX4 _ _ _ _ hrf h
def B_X10_resting_4 (x1 : Int32) (x2 : Int32) (mem : MMt) (Q : Int32 → MMt → Prop) : Prop := LOOP (σ := Int32 × Int32 × MMt) (fun X4 z => (fun (x1 : Int32) (x2 : Int32) (mem : MMt) => (((mem 77 6) ≤ x2 → Q x1 mem) ∧ (¬ (mem 77 6) ≤ x2 → L_X10_isAtRest x2 mem (fun r3 m2 => ((r3 = 0 → B_X10_resting_29 X4 x2 (0 : Int32) x1 m2 Q) ∧ (¬ r3 = 0 → B_X10_resting_29 X4 x2 (1 : Int32) x1 m2 Q)))))) z.1 z.2.1 z.2.2) (x1, x2, mem)
set_option maxRecDepth 4000 in
theorem gB_X10_resting_4 {sx : Nat × (Nat → Int32)} {rf : RFt} {Q : Int32 → MMt → Prop} (hrf : RFok rf) (x1 : Int32) (x2 : Int32) (mem : MMt) (h : B_X10_resting_4 x1 x2 mem Q) : G sx yX10_resting cX10_resting 3 (some .int) 7 NX NX (QQi (RFok) Q) NX rf mem 4 [some (.ref 76), some (.int x1), some (.int x2)] [] := by
  obtain ⟨I, ⟨n, h0⟩, hI⟩ := h
  have key : ∀ (n : Nat) (rf : RFt) (x1 : Int32) (x2 : Int32) (mem : MMt), RFok rf → I n (x1, x2, mem) → G sx yX10_resting cX10_resting 3 (some .int) 7 NX NX (QQi (RFok) Q) NX rf mem 4 [some (.ref 76), some (.int x1), some (.int x2)] [] := by
    intro n
    induction n using Nat.strongRecOn with
    | _ n ih =>
    intro rf x1 x2 mem hrf h0
    have hX4 : ∀ (rf : RFt) (x1 : Int32) (x2 : Int32) (mem : MMt), RFok rf → (fun s' => ∃ m, m < n ∧ I m s') (x1, x2, mem) → G sx yX10_resting cX10_resting 3 (some .int) 7 NX NX (QQi (RFok) Q) NX rf mem 4 [some (.ref 76), some (.int x1), some (.int x2)] [] := fun rf x1 x2 mem hrf ⟨m, hm, hi⟩ => ih m hm rf x1 x2 mem hrf hi
    have h := hI n _ h0
    clear ih h0
    try dsimp only at h
    refine G_iload_n (i := 2) pX10_resting_4 rfl rfl ?_
    refine G_aload_n (i := 0) pX10_resting_5 rfl rfl ?_
    refine G_getR (ci := 10) (j := 0) (N := 29) pX10_resting_6 fl_RX10_9 rfl ltk_76 shk_76 (by decide) rfl (hrf.lit 76 0 rfl) ?_
    refine G_bipush pX10_resting_9 bi_6 ?_
    refine G_ialdL (j := 6) pX10_resting_11 ltk_77 shk_77 (vpl (by decide)) (by decide) ?_
    refine G_icmp_ge pX10_resting_12 (fun c1 => ?_) (fun c1 => ?_)
    · have h := h.1 c1
      refine G_iload_n (i := 1) pX10_resting_37 rfl rfl ?_
      exact G_ireturn (len := 1) pX10_resting_38 ⟨hrf, _, rfl, h⟩ ⟨_, rfl, rfl⟩
    · have h := h.2 c1
      refine G_iload_n (i := 1) pX10_resting_15 rfl rfl ?_
      refine G_aload_n (i := 0) pX10_resting_16 rfl rfl ?_
      refine G_iload_n (i := 2) pX10_resting_17 rfl rfl ?_
      refine G_callV1i (b := 76) (ci := 10) (N := 29) pX10_resting_18 (g_X10_isAtRest x2 hrf _ h) mV_X10_isAtRest ml_RX10_103 (by decide) ⟨Nat.le_refl _, Nat.le_refl _, Nat.le_refl _⟩ (Nat.le_of_ble_eq_true rfl) ltk_76 shk_76 rfl ?_
      intro r3 rf m2 hrf h hr3
      refine G_if_eq pX10_resting_21 (fun c4 => ?_) (fun c4 => ?_)
      · have h := h.1 c4
        refine G_iconst pX10_resting_28 ic_0 ?_
        refine G_wk (L2 := [some (.ref 76), none, some (.int x2)]) ⟨Or.inr rfl, Or.inl rfl, Or.inr rfl, trivial⟩ ?_
        exact gB_X10_resting_29 hrf x2 (0 : Int32) x1 hX4 _ h
      · have h := h.2 c4
        refine G_iconst pX10_resting_24 ic_1 ?_
        refine G_goto pX10_resting_25 ?_
        refine G_wk (L2 := [some (.ref 76), none, some (.int x2)]) ⟨Or.inr rfl, Or.inl rfl, Or.inr rfl, trivial⟩ ?_
        exact gB_X10_resting_29 hrf x2 (1 : Int32) x1 hX4 _ h
  exact key n rf _ _ _ hrf h0
def L_X10_resting (mem : MMt) (Q : Int32 → MMt → Prop) : Prop := B_X10_resting_4 (0 : Int32) (0 : Int32) mem Q
set_option maxRecDepth 4000 in
theorem g_X10_resting {sx : Nat × (Nat → Int32)} {rf : RFt} {Q : Int32 → MMt → Prop} (hrf : RFok rf) (mem : MMt) (h : L_X10_resting mem Q) : Ct sx yX10_resting cX10_resting 3 (some .int) 7 [.ref 76] NX NX rf mem (QQi (RFok) Q) := by
  refine Ct_of [some (.ref 76), none, none] (by decide +kernel) (by simp [Lof, Value.category]) rfl ?_
  unfold L_X10_resting at h
  refine G_iconst pX10_resting_0 ic_0 ?_
  refine G_istore_n (i := 1) (L' := [some (.ref 76), some (.int (0 : Int32)), none]) pX10_resting_1 rfl rfl ?_
  refine G_iconst pX10_resting_2 ic_0 ?_
  refine G_istore_n (i := 2) (L' := [some (.ref 76), some (.int (0 : Int32)), some (.int (0 : Int32))]) pX10_resting_3 rfl rfl ?_
  exact gB_X10_resting_4 hrf (0 : Int32) (0 : Int32) _ h
def L_X10_draw (mem : MMt) (Q : Int32 → MMt → Prop) : Prop := (∀ m1 : MMt, m1 = up2 mem 77 5 (((mem 77 5) * (1103515245 : Int32)) + (12345 : Int32)) → Q (((m1 77 5).toUInt32 >>> ((8 : Int32).toUInt32 &&& Int32.toUInt32 31)).toInt32) m1)
set_option maxRecDepth 4000 in
theorem g_X10_draw {sx : Nat × (Nat → Int32)} {rf : RFt} {Q : Int32 → MMt → Prop} (hrf : RFok rf) (mem : MMt) (h : L_X10_draw mem Q) : Ct sx yX10_draw cX10_draw 1 (some .int) 1 [.ref 76] NX NX rf mem (QQi (RFok) Q) := by
  refine Ct_of [some (.ref 76)] (by decide +kernel) (by simp [Lof, Value.category]) rfl ?_
  unfold L_X10_draw at h
  refine G_aload_n (i := 0) pX10_draw_0 rfl rfl ?_
  refine G_getR (ci := 10) (j := 0) (N := 29) pX10_draw_1 fl_RX10_9 rfl ltk_76 shk_76 (by decide) rfl (hrf.lit 76 0 rfl) ?_
  refine G_iconst pX10_draw_4 ic_5 ?_
  refine G_aload_n (i := 0) pX10_draw_5 rfl rfl ?_
  refine G_getR (ci := 10) (j := 0) (N := 29) pX10_draw_6 fl_RX10_9 rfl ltk_76 shk_76 (by decide) rfl (hrf.lit 76 0 rfl) ?_
  refine G_iconst pX10_draw_9 ic_5 ?_
  refine G_ialdL (j := 5) pX10_draw_10 ltk_77 shk_77 (vpl (by decide)) (by decide) ?_
  refine G_ldc pX10_draw_11 rfl wc_RX10_210 ?_
  refine G_imul pX10_draw_13 ?_
  refine G_sipush pX10_draw_14 si_12345 ?_
  refine G_iadd pX10_draw_17 ?_
  obtain ⟨m1, em1⟩ : ∃ z : MMt, z = up2 mem 77 5 (((mem 77 5) * (1103515245 : Int32)) + (12345 : Int32)) := ⟨_, rfl⟩
  have h := h m1 em1
  refine G_iastL (j := 5) pX10_draw_18 ltk_77 shk_77 (vpl (by decide)) (by decide) em1.symm ?_
  refine G_aload_n (i := 0) pX10_draw_19 rfl rfl ?_
  refine G_getR (ci := 10) (j := 0) (N := 29) pX10_draw_20 fl_RX10_9 rfl ltk_76 shk_76 (by decide) rfl (hrf.lit 76 0 rfl) ?_
  refine G_iconst pX10_draw_23 ic_5 ?_
  refine G_ialdL (j := 5) pX10_draw_24 ltk_77 shk_77 (vpl (by decide)) (by decide) ?_
  refine G_bipush pX10_draw_25 bi_8 ?_
  refine G_iushr pX10_draw_27 ?_
  exact G_ireturn (len := 1) pX10_draw_28 ⟨hrf, _, rfl, h⟩ ⟨_, rfl, rfl⟩
def B_X10_goOn_85 (X40 : Int32 × MMt → Prop) (x1 : Int32) (x2 : Int32) (x3 : Int32) (mem : MMt) (Q : Int32 → MMt → Prop) : Prop := L_X10_step mem (fun m1 => (∀ v2 : Int32, v2 = x3 + (1 : Int32) → X40 (v2, m1)))
set_option maxRecDepth 4000 in
theorem gB_X10_goOn_85 {sx : Nat × (Nat → Int32)} {X40 : Int32 × MMt → Prop} {rf : RFt} {Q : Int32 → MMt → Prop} (hrf : RFok rf) (x1 : Int32) (x2 : Int32) (x3 : Int32) (hX40 : ∀ (rf : RFt) (x3 : Int32) (mem : MMt), RFok rf → X40 (x3, mem) → G sx yX10_goOn cX10_goOn 5 (some .int) 8 NX NX (QQi (RFok) Q) NX rf mem 40 [some (.ref 76), some (.int x1), some (.int x2), some (.int x3), none] []) (mem : MMt) (h : B_X10_goOn_85 X40 x1 x2 x3 mem Q) : G sx yX10_goOn cX10_goOn 5 (some .int) 8 NX NX (QQi (RFok) Q) NX rf mem 85 [some (.ref 76), some (.int x1), some (.int x2), some (.int x3), none] [] := by
  unfold B_X10_goOn_85 at h
  refine G_aload_n (i := 0) pX10_goOn_85 rfl rfl ?_
  refine G_callV0v (b := 76) (ci := 10) (N := 29) pX10_goOn_86 (g_X10_step hrf _ h) mV_X10_step ml_RX10_216 (by decide) ⟨Nat.le_refl _, Nat.le_refl _, Nat.le_refl _⟩ (Nat.le_of_ble_eq_true rfl) ltk_76 shk_76 rfl ?_
  intro rf m1 hrf h
  obtain ⟨v2, e2⟩ : ∃ z : Int32, z = x3 + (1 : Int32) := ⟨_, rfl⟩
  have h := h v2 e2
  refine G_iincW (L' := [some (.ref 76), some (.int x1), some (.int x2), some (.int v2), none]) pX10_goOn_89 rfl ic_1 e2.symm rfl ?_
  refine G_goto pX10_goOn_92 ?_
  exact hX40 _ _ _ hrf h
def B_X10_goOn_48 (X40 : Int32 × MMt → Prop) (x1 : Int32) (x2 : Int32) (x3 : Int32) (x4 : Int32) (mem : MMt) (Q : Int32 → MMt → Prop) : Prop := LOOP (σ := Int32 × MMt) (fun X48 z => (fun (x4 : Int32) (mem : MMt) => (((mem 77 6) ≤ x4 → B_X10_goOn_85 X40 x1 x2 x3 mem Q) ∧ (¬ (mem 77 6) ≤ x4 → ((x2 = 0 → B_X10_goOn_85 X40 x1 x2 x3 mem Q) ∧ (¬ x2 = 0 → L_X10_draw mem (fun r4 m3 => L_X10_pushed x4 ((r4 - r4 / (3 : Int32) * (3 : Int32)) - (1 : Int32)) m3 (fun r6 m5 => (∀ v7 : Int32, v7 = x4 + (1 : Int32) → X48 (v7, m5))))))))) z.1 z.2) (x4, mem)
set_option maxRecDepth 4000 in
theorem gB_X10_goOn_48 {sx : Nat × (Nat → Int32)} {X40 : Int32 × MMt → Prop} {rf : RFt} {Q : Int32 → MMt → Prop} (hrf : RFok rf) (x1 : Int32) (x2 : Int32) (x3 : Int32) (x4 : Int32) (hX40 : ∀ (rf : RFt) (x3 : Int32) (mem : MMt), RFok rf → X40 (x3, mem) → G sx yX10_goOn cX10_goOn 5 (some .int) 8 NX NX (QQi (RFok) Q) NX rf mem 40 [some (.ref 76), some (.int x1), some (.int x2), some (.int x3), none] []) (mem : MMt) (h : B_X10_goOn_48 X40 x1 x2 x3 x4 mem Q) : G sx yX10_goOn cX10_goOn 5 (some .int) 8 NX NX (QQi (RFok) Q) NX rf mem 48 [some (.ref 76), some (.int x1), some (.int x2), some (.int x3), some (.int x4)] [] := by
  obtain ⟨I, ⟨n, h0⟩, hI⟩ := h
  have key : ∀ (n : Nat) (rf : RFt) (x4 : Int32) (mem : MMt), RFok rf → I n (x4, mem) → G sx yX10_goOn cX10_goOn 5 (some .int) 8 NX NX (QQi (RFok) Q) NX rf mem 48 [some (.ref 76), some (.int x1), some (.int x2), some (.int x3), some (.int x4)] [] := by
    intro n
    induction n using Nat.strongRecOn with
    | _ n ih =>
    intro rf x4 mem hrf h0
    have hX48 : ∀ (rf : RFt) (x4 : Int32) (mem : MMt), RFok rf → (fun s' => ∃ m, m < n ∧ I m s') (x4, mem) → G sx yX10_goOn cX10_goOn 5 (some .int) 8 NX NX (QQi (RFok) Q) NX rf mem 48 [some (.ref 76), some (.int x1), some (.int x2), some (.int x3), some (.int x4)] [] := fun rf x4 mem hrf ⟨m, hm, hi⟩ => ih m hm rf x4 mem hrf hi
    have h := hI n _ h0
    clear ih h0
    try dsimp only at h
    refine G_iload (i := 4) pX10_goOn_48 rfl ?_
    refine G_aload_n (i := 0) pX10_goOn_50 rfl rfl ?_
    refine G_getR (ci := 10) (j := 0) (N := 29) pX10_goOn_51 fl_RX10_9 rfl ltk_76 shk_76 (by decide) rfl (hrf.lit 76 0 rfl) ?_
    refine G_bipush pX10_goOn_54 bi_6 ?_
    refine G_ialdL (j := 6) pX10_goOn_56 ltk_77 shk_77 (vpl (by decide)) (by decide) ?_
    refine G_icmp_ge pX10_goOn_57 (fun c1 => ?_) (fun c1 => ?_)
    · have h := h.1 c1
      refine G_wk (L2 := [some (.ref 76), some (.int x1), some (.int x2), some (.int x3), none]) ⟨Or.inr rfl, Or.inr rfl, Or.inr rfl, Or.inr rfl, Or.inl rfl, trivial⟩ ?_
      exact gB_X10_goOn_85 hrf x1 x2 x3 hX40 _ h
    · have h := h.2 c1
      refine G_iload_n (i := 2) pX10_goOn_60 rfl rfl ?_
      refine G_if_eq pX10_goOn_61 (fun c2 => ?_) (fun c2 => ?_)
      · have h := h.1 c2
        refine G_wk (L2 := [some (.ref 76), some (.int x1), some (.int x2), some (.int x3), none]) ⟨Or.inr rfl, Or.inr rfl, Or.inr rfl, Or.inr rfl, Or.inl rfl, trivial⟩ ?_
        exact gB_X10_goOn_85 hrf x1 x2 x3 hX40 _ h
      · have h := h.2 c2
        refine G_aload_n (i := 0) pX10_goOn_64 rfl rfl ?_
        refine G_iload (i := 4) pX10_goOn_65 rfl ?_
        refine G_aload_n (i := 0) pX10_goOn_67 rfl rfl ?_
        refine G_callV0i (b := 76) (ci := 10) (N := 29) pX10_goOn_68 (g_X10_draw hrf _ h) mV_X10_draw ml_RX10_213 (by decide) ⟨Nat.le_refl _, Nat.le_refl _, Nat.le_refl _⟩ (Nat.le_of_ble_eq_true rfl) ltk_76 shk_76 rfl ?_
        intro r4 rf m3 hrf h hr4
        refine G_iconst pX10_goOn_71 ic_3 ?_
        refine G_irem pX10_goOn_72 (by decide) ?_
        refine G_iconst pX10_goOn_73 ic_1 ?_
        refine G_isub pX10_goOn_74 ?_
        refine G_callV2i (b := 76) (ci := 10) (N := 29) pX10_goOn_75 (g_X10_pushed x4 ((r4 - r4 / (3 : Int32) * (3 : Int32)) - (1 : Int32)) hrf _ h) mV_X10_pushed ml_RX10_119 (by decide) ⟨Nat.le_refl _, Nat.le_refl _, Nat.le_refl _⟩ (Nat.le_of_ble_eq_true rfl) ltk_76 shk_76 rfl ?_
        intro r6 rf m5 hrf h hr6
        refine G_pop pX10_goOn_78 rfl ?_
        obtain ⟨v7, e7⟩ : ∃ z : Int32, z = x4 + (1 : Int32) := ⟨_, rfl⟩
        have h := h v7 e7
        refine G_iincW (L' := [some (.ref 76), some (.int x1), some (.int x2), some (.int x3), some (.int v7)]) pX10_goOn_79 rfl ic_1 e7.symm rfl ?_
        refine G_goto pX10_goOn_82 ?_
        exact hX48 _ _ _ hrf h
  exact key n rf _ _ hrf h0
def B_X10_goOn_40 (x1 : Int32) (x2 : Int32) (x3 : Int32) (mem : MMt) (Q : Int32 → MMt → Prop) : Prop := LOOP (σ := Int32 × MMt) (fun X40 z => (fun (x3 : Int32) (mem : MMt) => ((x1 ≤ x3 → L_X10_resting mem (fun r3 m2 => Q r3 m2)) ∧ (¬ x1 ≤ x3 → B_X10_goOn_48 X40 x1 x2 x3 (0 : Int32) mem Q))) z.1 z.2) (x3, mem)
set_option maxRecDepth 4000 in
theorem gB_X10_goOn_40 {sx : Nat × (Nat → Int32)} {rf : RFt} {Q : Int32 → MMt → Prop} (hrf : RFok rf) (x1 : Int32) (x2 : Int32) (x3 : Int32) (mem : MMt) (h : B_X10_goOn_40 x1 x2 x3 mem Q) : G sx yX10_goOn cX10_goOn 5 (some .int) 8 NX NX (QQi (RFok) Q) NX rf mem 40 [some (.ref 76), some (.int x1), some (.int x2), some (.int x3), none] [] := by
  obtain ⟨I, ⟨n, h0⟩, hI⟩ := h
  have key : ∀ (n : Nat) (rf : RFt) (x3 : Int32) (mem : MMt), RFok rf → I n (x3, mem) → G sx yX10_goOn cX10_goOn 5 (some .int) 8 NX NX (QQi (RFok) Q) NX rf mem 40 [some (.ref 76), some (.int x1), some (.int x2), some (.int x3), none] [] := by
    intro n
    induction n using Nat.strongRecOn with
    | _ n ih =>
    intro rf x3 mem hrf h0
    have hX40 : ∀ (rf : RFt) (x3 : Int32) (mem : MMt), RFok rf → (fun s' => ∃ m, m < n ∧ I m s') (x3, mem) → G sx yX10_goOn cX10_goOn 5 (some .int) 8 NX NX (QQi (RFok) Q) NX rf mem 40 [some (.ref 76), some (.int x1), some (.int x2), some (.int x3), none] [] := fun rf x3 mem hrf ⟨m, hm, hi⟩ => ih m hm rf x3 mem hrf hi
    have h := hI n _ h0
    clear ih h0
    try dsimp only at h
    refine G_iload_n (i := 3) pX10_goOn_40 rfl rfl ?_
    refine G_iload_n (i := 1) pX10_goOn_41 rfl rfl ?_
    refine G_icmp_ge pX10_goOn_42 (fun c1 => ?_) (fun c1 => ?_)
    · have h := h.1 c1
      refine G_aload_n (i := 0) pX10_goOn_95 rfl rfl ?_
      refine G_callV0i (b := 76) (ci := 10) (N := 29) pX10_goOn_96 (g_X10_resting hrf _ h) mV_X10_resting ml_RX10_219 (by decide) ⟨Nat.le_refl _, Nat.le_refl _, Nat.le_refl _⟩ (Nat.le_of_ble_eq_true rfl) ltk_76 shk_76 rfl ?_
      intro r3 rf m2 hrf h hr3
      exact G_ireturn (len := 1) pX10_goOn_99 ⟨hrf, _, rfl, h⟩ ⟨_, rfl, rfl⟩
    · have h := h.2 c1
      refine G_iconst pX10_goOn_45 ic_0 ?_
      refine G_istore (i := 4) (L' := [some (.ref 76), some (.int x1), some (.int x2), some (.int x3), some (.int (0 : Int32))]) pX10_goOn_46 rfl ?_
      exact gB_X10_goOn_48 hrf x1 x2 x3 (0 : Int32) hX40 _ h
  exact key n rf _ _ hrf h0
def L_X10_goOn (a1 : Int32) (a2 : Int32) (mem : MMt) (Q : Int32 → MMt → Prop) : Prop := L_X10_isIn a1.toInt64 (1 : Int64) (200 : Int64) mem (fun r2 m1 => ((¬ r2 = 0 → ((((m1 77 0) + a1) ≤ (9999 : Int32) → B_X10_goOn_40 a1 a2 (0 : Int32) m1 Q) ∧ (¬ ((m1 77 0) + a1) ≤ (9999 : Int32) → L_X10_error (3 : Int32) m1 (fun r6 m5 => Q r6 m5)))) ∧ (r2 = 0 → L_X10_error (1 : Int32) m1 (fun r8 m7 => Q r8 m7))))
set_option maxRecDepth 4000 in
theorem g_X10_goOn {sx : Nat × (Nat → Int32)} {rf : RFt} {Q : Int32 → MMt → Prop} (a1 : Int32) (a2 : Int32) (hrf : RFok rf) (mem : MMt) (h : L_X10_goOn a1 a2 mem Q) : Ct sx yX10_goOn cX10_goOn 5 (some .int) 8 [.ref 76, .int a1, .int a2] NX NX rf mem (QQi (RFok) Q) := by
  refine Ct_of [some (.ref 76), some (.int a1), some (.int a2), none, none] (by decide +kernel) (by simp [Lof, Value.category]) rfl ?_
  unfold L_X10_goOn at h
  refine G_iload_n (i := 1) pX10_goOn_0 rfl rfl ?_
  refine G_i2l pX10_goOn_1 ?_
  refine G_lconst pX10_goOn_2 lc_1 ?_
  refine G_ldc2 pX10_goOn_3 rfl wcl_RX10_211 ?_
  refine G_callS3i pX10_goOn_6 (g_X10_isIn a1.toInt64 (1 : Int64) (200 : Int64) hrf _ h) mS_X10_isIn ml_RX10_53 (by decide) ⟨Nat.le_refl _, Nat.le_refl _, Nat.le_refl _⟩ (Nat.le_of_ble_eq_true rfl) ?_
  intro r2 rf m1 hrf h hr2
  refine G_if_ne pX10_goOn_9 (fun c3 => ?_) (fun c3 => ?_)
  · have h := h.1 c3
    refine G_aload_n (i := 0) pX10_goOn_18 rfl rfl ?_
    refine G_getR (ci := 10) (j := 0) (N := 29) pX10_goOn_19 fl_RX10_9 rfl ltk_76 shk_76 (by decide) rfl (hrf.lit 76 0 rfl) ?_
    refine G_iconst pX10_goOn_22 ic_0 ?_
    refine G_ialdL (j := 0) pX10_goOn_23 ltk_77 shk_77 (vpl (by decide)) (by decide) ?_
    refine G_iload_n (i := 1) pX10_goOn_24 rfl rfl ?_
    refine G_iadd pX10_goOn_25 ?_
    refine G_sipush pX10_goOn_26 si_9999 ?_
    refine G_icmp_le pX10_goOn_29 (fun c4 => ?_) (fun c4 => ?_)
    · have h := h.1 c4
      refine G_iconst pX10_goOn_38 ic_0 ?_
      refine G_istore_n (i := 3) (L' := [some (.ref 76), some (.int a1), some (.int a2), some (.int (0 : Int32)), none]) pX10_goOn_39 rfl rfl ?_
      exact gB_X10_goOn_40 hrf a1 a2 (0 : Int32) _ h
    · have h := h.2 c4
      refine G_aload_n (i := 0) pX10_goOn_32 rfl rfl ?_
      refine G_iconst pX10_goOn_33 ic_3 ?_
      refine G_callV1i (b := 76) (ci := 10) (N := 29) pX10_goOn_34 (g_X10_error (3 : Int32) hrf _ h) mV_X10_error ml_RX10_79 (by decide) ⟨Nat.le_refl _, Nat.le_refl _, Nat.le_refl _⟩ (Nat.le_of_ble_eq_true rfl) ltk_76 shk_76 rfl ?_
      intro r6 rf m5 hrf h hr6
      exact G_ireturn (len := 1) pX10_goOn_37 ⟨hrf, _, rfl, h⟩ ⟨_, rfl, rfl⟩
  · have h := h.2 c3
    refine G_aload_n (i := 0) pX10_goOn_12 rfl rfl ?_
    refine G_iconst pX10_goOn_13 ic_1 ?_
    refine G_callV1i (b := 76) (ci := 10) (N := 29) pX10_goOn_14 (g_X10_error (1 : Int32) hrf _ h) mV_X10_error ml_RX10_79 (by decide) ⟨Nat.le_refl _, Nat.le_refl _, Nat.le_refl _⟩ (Nat.le_of_ble_eq_true rfl) ltk_76 shk_76 rfl ?_
    intro r8 rf m7 hrf h hr8
    exact G_ireturn (len := 1) pX10_goOn_17 ⟨hrf, _, rfl, h⟩ ⟨_, rfl, rfl⟩
def L_X10_steps (a1 : Int32) (mem : MMt) (Q : Int32 → MMt → Prop) : Prop := L_X10_goOn a1 (0 : Int32) mem (fun r2 m1 => Q r2 m1)
set_option maxRecDepth 4000 in
theorem g_X10_steps {sx : Nat × (Nat → Int32)} {rf : RFt} {Q : Int32 → MMt → Prop} (a1 : Int32) (hrf : RFok rf) (mem : MMt) (h : L_X10_steps a1 mem Q) : Ct sx yX10_steps cX10_steps 2 (some .int) 9 [.ref 76, .int a1] NX NX rf mem (QQi (RFok) Q) := by
  refine Ct_of [some (.ref 76), some (.int a1)] (by decide +kernel) (by simp [Lof, Value.category]) rfl ?_
  unfold L_X10_steps at h
  refine G_aload_n (i := 0) pX10_steps_0 rfl rfl ?_
  refine G_iload_n (i := 1) pX10_steps_1 rfl rfl ?_
  refine G_iconst pX10_steps_2 ic_0 ?_
  refine G_callV2i (b := 76) (ci := 10) (N := 29) pX10_steps_3 (g_X10_goOn a1 (0 : Int32) hrf _ h) mV_X10_goOn ml_RX10_222 (by decide) ⟨Nat.le_refl _, Nat.le_refl _, Nat.le_refl _⟩ (Nat.le_of_ble_eq_true rfl) ltk_76 shk_76 rfl ?_
  intro r2 rf m1 hrf h hr2
  exact G_ireturn (len := 1) pX10_steps_6 ⟨hrf, _, rfl, h⟩ ⟨_, rfl, rfl⟩
def L_X10_loose (a1 : Int32) (mem : MMt) (Q : Int32 → MMt → Prop) : Prop := L_X10_goOn a1 (1 : Int32) mem (fun r2 m1 => Q r2 m1)
set_option maxRecDepth 4000 in
theorem g_X10_loose {sx : Nat × (Nat → Int32)} {rf : RFt} {Q : Int32 → MMt → Prop} (a1 : Int32) (hrf : RFok rf) (mem : MMt) (h : L_X10_loose a1 mem Q) : Ct sx yX10_loose cX10_loose 2 (some .int) 9 [.ref 76, .int a1] NX NX rf mem (QQi (RFok) Q) := by
  refine Ct_of [some (.ref 76), some (.int a1)] (by decide +kernel) (by simp [Lof, Value.category]) rfl ?_
  unfold L_X10_loose at h
  refine G_aload_n (i := 0) pX10_loose_0 rfl rfl ?_
  refine G_iload_n (i := 1) pX10_loose_1 rfl rfl ?_
  refine G_iconst pX10_loose_2 ic_1 ?_
  refine G_callV2i (b := 76) (ci := 10) (N := 29) pX10_loose_3 (g_X10_goOn a1 (1 : Int32) hrf _ h) mV_X10_goOn ml_RX10_222 (by decide) ⟨Nat.le_refl _, Nat.le_refl _, Nat.le_refl _⟩ (Nat.le_of_ble_eq_true rfl) ltk_76 shk_76 rfl ?_
  intro r2 rf m1 hrf h hr2
  exact G_ireturn (len := 1) pX10_loose_6 ⟨hrf, _, rfl, h⟩ ⟨_, rfl, rfl⟩
def B_X10_saves_26 (x1 : Int32) (mem : MMt) (Q : MMt → Prop) : Prop := LOOP (σ := Int32 × MMt) (fun X26 z => (fun (x1 : Int32) (mem : MMt) => (((40 : Int32) ≤ x1 → Q mem) ∧ (¬ (40 : Int32) ≤ x1 → (vp_in ((10 : Int32) + x1) 322 ∧ (vp_in ((2 : Int32) + x1) 42 ∧ ∀ m3 : MMt, m3 = up2 mem 83 ((2 : Int32) + x1).toNatClampNeg (mem 77 ((10 : Int32) + x1).toNatClampNeg) → (∀ v5 : Int32, v5 = x1 + (1 : Int32) → X26 (v5, m3))))))) z.1 z.2) (x1, mem)
set_option maxRecDepth 4000 in
theorem gB_X10_saves_26 {sx : Nat × (Nat → Int32)} {rf : RFt} {Q : MMt → Prop} (hrf : RFok rf) (x1 : Int32) (mem : MMt) (h : B_X10_saves_26 x1 mem Q) : G sx yX10_saves cX10_saves 2 none 1 NX NX (QQv (RFok) Q) NX rf mem 26 [some (.ref 76), some (.int x1)] [] := by
  obtain ⟨I, ⟨n, h0⟩, hI⟩ := h
  have key : ∀ (n : Nat) (rf : RFt) (x1 : Int32) (mem : MMt), RFok rf → I n (x1, mem) → G sx yX10_saves cX10_saves 2 none 1 NX NX (QQv (RFok) Q) NX rf mem 26 [some (.ref 76), some (.int x1)] [] := by
    intro n
    induction n using Nat.strongRecOn with
    | _ n ih =>
    intro rf x1 mem hrf h0
    have hX26 : ∀ (rf : RFt) (x1 : Int32) (mem : MMt), RFok rf → (fun s' => ∃ m, m < n ∧ I m s') (x1, mem) → G sx yX10_saves cX10_saves 2 none 1 NX NX (QQv (RFok) Q) NX rf mem 26 [some (.ref 76), some (.int x1)] [] := fun rf x1 mem hrf ⟨m, hm, hi⟩ => ih m hm rf x1 mem hrf hi
    have h := hI n _ h0
    clear ih h0
    try dsimp only at h
    refine G_iload_n (i := 1) pX10_saves_26 rfl rfl ?_
    refine G_bipush pX10_saves_27 bi_40 ?_
    refine G_icmp_ge pX10_saves_29 (fun c1 => ?_) (fun c1 => ?_)
    · have h := h.1 c1
      exact G_return (len := 1) pX10_saves_55 ⟨hrf, rfl, h⟩ rfl
    · have h := h.2 c1
      refine G_aload_n (i := 0) pX10_saves_32 rfl rfl ?_
      refine G_getR (ci := 10) (j := 14) (N := 29) pX10_saves_33 fl_RX10_28 rfl ltk_76 shk_76 (by decide) rfl (hrf.lit 76 14 rfl) ?_
      refine G_iconst pX10_saves_36 ic_2 ?_
      refine G_iload_n (i := 1) pX10_saves_37 rfl rfl ?_
      refine G_iadd pX10_saves_38 ?_
      refine G_aload_n (i := 0) pX10_saves_39 rfl rfl ?_
      refine G_getR (ci := 10) (j := 0) (N := 29) pX10_saves_40 fl_RX10_9 rfl ltk_76 shk_76 (by decide) rfl (hrf.lit 76 0 rfl) ?_
      refine G_bipush pX10_saves_43 bi_10 ?_
      refine G_iload_n (i := 1) pX10_saves_45 rfl rfl ?_
      refine G_iadd pX10_saves_46 ?_
      obtain ⟨hi2, h⟩ := h
      refine G_iald pX10_saves_47 ltk_77 shk_77 hi2 ?_
      obtain ⟨hi4, h⟩ := h
      obtain ⟨m3, em3⟩ : ∃ z : MMt, z = up2 mem 83 ((2 : Int32) + x1).toNatClampNeg (mem 77 ((10 : Int32) + x1).toNatClampNeg) := ⟨_, rfl⟩
      have h := h m3 em3
      refine G_iastW pX10_saves_48 ltk_83 shk_83 hi4 em3.symm ?_
      obtain ⟨v5, e5⟩ : ∃ z : Int32, z = x1 + (1 : Int32) := ⟨_, rfl⟩
      have h := h v5 e5
      refine G_iincW (L' := [some (.ref 76), some (.int v5)]) pX10_saves_49 rfl ic_1 e5.symm rfl ?_
      refine G_goto pX10_saves_52 ?_
      exact hX26 _ _ _ hrf h
  exact key n rf _ _ hrf h0
def L_X10_saves (mem : MMt) (Q : MMt → Prop) : Prop := (∀ m1 : MMt, m1 = up2 mem 83 0 (mem 77 0) → (∀ m2 : MMt, m2 = up2 m1 83 1 (m1 77 1) → B_X10_saves_26 (0 : Int32) m2 Q))
set_option maxRecDepth 4000 in
theorem g_X10_saves {sx : Nat × (Nat → Int32)} {rf : RFt} {Q : MMt → Prop} (hrf : RFok rf) (mem : MMt) (h : L_X10_saves mem Q) : Ct sx yX10_saves cX10_saves 2 none 1 [.ref 76] NX NX rf mem (QQv (RFok) Q) := by
  refine Ct_of [some (.ref 76), none] (by decide +kernel) (by simp [Lof, Value.category]) rfl ?_
  unfold L_X10_saves at h
  refine G_aload_n (i := 0) pX10_saves_0 rfl rfl ?_
  refine G_getR (ci := 10) (j := 14) (N := 29) pX10_saves_1 fl_RX10_28 rfl ltk_76 shk_76 (by decide) rfl (hrf.lit 76 14 rfl) ?_
  refine G_iconst pX10_saves_4 ic_0 ?_
  refine G_aload_n (i := 0) pX10_saves_5 rfl rfl ?_
  refine G_getR (ci := 10) (j := 0) (N := 29) pX10_saves_6 fl_RX10_9 rfl ltk_76 shk_76 (by decide) rfl (hrf.lit 76 0 rfl) ?_
  refine G_iconst pX10_saves_9 ic_0 ?_
  refine G_ialdL (j := 0) pX10_saves_10 ltk_77 shk_77 (vpl (by decide)) (by decide) ?_
  obtain ⟨m1, em1⟩ : ∃ z : MMt, z = up2 mem 83 0 (mem 77 0) := ⟨_, rfl⟩
  have h := h m1 em1
  refine G_iastL (j := 0) pX10_saves_11 ltk_83 shk_83 (vpl (by decide)) (by decide) em1.symm ?_
  refine G_aload_n (i := 0) pX10_saves_12 rfl rfl ?_
  refine G_getR (ci := 10) (j := 14) (N := 29) pX10_saves_13 fl_RX10_28 rfl ltk_76 shk_76 (by decide) rfl (hrf.lit 76 14 rfl) ?_
  refine G_iconst pX10_saves_16 ic_1 ?_
  refine G_aload_n (i := 0) pX10_saves_17 rfl rfl ?_
  refine G_getR (ci := 10) (j := 0) (N := 29) pX10_saves_18 fl_RX10_9 rfl ltk_76 shk_76 (by decide) rfl (hrf.lit 76 0 rfl) ?_
  refine G_iconst pX10_saves_21 ic_1 ?_
  refine G_ialdL (j := 1) pX10_saves_22 ltk_77 shk_77 (vpl (by decide)) (by decide) ?_
  obtain ⟨m2, em2⟩ : ∃ z : MMt, z = up2 m1 83 1 (m1 77 1) := ⟨_, rfl⟩
  have h := h m2 em2
  refine G_iastL (j := 1) pX10_saves_23 ltk_83 shk_83 (vpl (by decide)) (by decide) em2.symm ?_
  refine G_iconst pX10_saves_24 ic_0 ?_
  refine G_istore_n (i := 1) (L' := [some (.ref 76), some (.int (0 : Int32))]) pX10_saves_25 rfl rfl ?_
  exact gB_X10_saves_26 hrf (0 : Int32) _ h
def B_X10_putsBack_26 (x1 : Int32) (mem : MMt) (Q : MMt → Prop) : Prop := LOOP (σ := Int32 × MMt) (fun X26 z => (fun (x1 : Int32) (mem : MMt) => (((40 : Int32) ≤ x1 → Q mem) ∧ (¬ (40 : Int32) ≤ x1 → (vp_in ((2 : Int32) + x1) 42 ∧ (vp_in ((10 : Int32) + x1) 322 ∧ ∀ m3 : MMt, m3 = up2 mem 77 ((10 : Int32) + x1).toNatClampNeg (mem 83 ((2 : Int32) + x1).toNatClampNeg) → (∀ v5 : Int32, v5 = x1 + (1 : Int32) → X26 (v5, m3))))))) z.1 z.2) (x1, mem)
set_option maxRecDepth 4000 in
theorem gB_X10_putsBack_26 {sx : Nat × (Nat → Int32)} {rf : RFt} {Q : MMt → Prop} (hrf : RFok rf) (x1 : Int32) (mem : MMt) (h : B_X10_putsBack_26 x1 mem Q) : G sx yX10_putsBack cX10_putsBack 2 none 1 NX NX (QQv (RFok) Q) NX rf mem 26 [some (.ref 76), some (.int x1)] [] := by
  obtain ⟨I, ⟨n, h0⟩, hI⟩ := h
  have key : ∀ (n : Nat) (rf : RFt) (x1 : Int32) (mem : MMt), RFok rf → I n (x1, mem) → G sx yX10_putsBack cX10_putsBack 2 none 1 NX NX (QQv (RFok) Q) NX rf mem 26 [some (.ref 76), some (.int x1)] [] := by
    intro n
    induction n using Nat.strongRecOn with
    | _ n ih =>
    intro rf x1 mem hrf h0
    have hX26 : ∀ (rf : RFt) (x1 : Int32) (mem : MMt), RFok rf → (fun s' => ∃ m, m < n ∧ I m s') (x1, mem) → G sx yX10_putsBack cX10_putsBack 2 none 1 NX NX (QQv (RFok) Q) NX rf mem 26 [some (.ref 76), some (.int x1)] [] := fun rf x1 mem hrf ⟨m, hm, hi⟩ => ih m hm rf x1 mem hrf hi
    have h := hI n _ h0
    clear ih h0
    try dsimp only at h
    refine G_iload_n (i := 1) pX10_putsBack_26 rfl rfl ?_
    refine G_bipush pX10_putsBack_27 bi_40 ?_
    refine G_icmp_ge pX10_putsBack_29 (fun c1 => ?_) (fun c1 => ?_)
    · have h := h.1 c1
      exact G_return (len := 1) pX10_putsBack_55 ⟨hrf, rfl, h⟩ rfl
    · have h := h.2 c1
      refine G_aload_n (i := 0) pX10_putsBack_32 rfl rfl ?_
      refine G_getR (ci := 10) (j := 0) (N := 29) pX10_putsBack_33 fl_RX10_9 rfl ltk_76 shk_76 (by decide) rfl (hrf.lit 76 0 rfl) ?_
      refine G_bipush pX10_putsBack_36 bi_10 ?_
      refine G_iload_n (i := 1) pX10_putsBack_38 rfl rfl ?_
      refine G_iadd pX10_putsBack_39 ?_
      refine G_aload_n (i := 0) pX10_putsBack_40 rfl rfl ?_
      refine G_getR (ci := 10) (j := 14) (N := 29) pX10_putsBack_41 fl_RX10_28 rfl ltk_76 shk_76 (by decide) rfl (hrf.lit 76 14 rfl) ?_
      refine G_iconst pX10_putsBack_44 ic_2 ?_
      refine G_iload_n (i := 1) pX10_putsBack_45 rfl rfl ?_
      refine G_iadd pX10_putsBack_46 ?_
      obtain ⟨hi2, h⟩ := h
      refine G_iald pX10_putsBack_47 ltk_83 shk_83 hi2 ?_
      obtain ⟨hi4, h⟩ := h
      obtain ⟨m3, em3⟩ : ∃ z : MMt, z = up2 mem 77 ((10 : Int32) + x1).toNatClampNeg (mem 83 ((2 : Int32) + x1).toNatClampNeg) := ⟨_, rfl⟩
      have h := h m3 em3
      refine G_iastW pX10_putsBack_48 ltk_77 shk_77 hi4 em3.symm ?_
      obtain ⟨v5, e5⟩ : ∃ z : Int32, z = x1 + (1 : Int32) := ⟨_, rfl⟩
      have h := h v5 e5
      refine G_iincW (L' := [some (.ref 76), some (.int v5)]) pX10_putsBack_49 rfl ic_1 e5.symm rfl ?_
      refine G_goto pX10_putsBack_52 ?_
      exact hX26 _ _ _ hrf h
  exact key n rf _ _ hrf h0
def L_X10_putsBack (mem : MMt) (Q : MMt → Prop) : Prop := (∀ m1 : MMt, m1 = up2 mem 77 0 (mem 83 0) → (∀ m2 : MMt, m2 = up2 m1 77 1 (m1 83 1) → B_X10_putsBack_26 (0 : Int32) m2 Q))
set_option maxRecDepth 4000 in
theorem g_X10_putsBack {sx : Nat × (Nat → Int32)} {rf : RFt} {Q : MMt → Prop} (hrf : RFok rf) (mem : MMt) (h : L_X10_putsBack mem Q) : Ct sx yX10_putsBack cX10_putsBack 2 none 1 [.ref 76] NX NX rf mem (QQv (RFok) Q) := by
  refine Ct_of [some (.ref 76), none] (by decide +kernel) (by simp [Lof, Value.category]) rfl ?_
  unfold L_X10_putsBack at h
  refine G_aload_n (i := 0) pX10_putsBack_0 rfl rfl ?_
  refine G_getR (ci := 10) (j := 0) (N := 29) pX10_putsBack_1 fl_RX10_9 rfl ltk_76 shk_76 (by decide) rfl (hrf.lit 76 0 rfl) ?_
  refine G_iconst pX10_putsBack_4 ic_0 ?_
  refine G_aload_n (i := 0) pX10_putsBack_5 rfl rfl ?_
  refine G_getR (ci := 10) (j := 14) (N := 29) pX10_putsBack_6 fl_RX10_28 rfl ltk_76 shk_76 (by decide) rfl (hrf.lit 76 14 rfl) ?_
  refine G_iconst pX10_putsBack_9 ic_0 ?_
  refine G_ialdL (j := 0) pX10_putsBack_10 ltk_83 shk_83 (vpl (by decide)) (by decide) ?_
  obtain ⟨m1, em1⟩ : ∃ z : MMt, z = up2 mem 77 0 (mem 83 0) := ⟨_, rfl⟩
  have h := h m1 em1
  refine G_iastL (j := 0) pX10_putsBack_11 ltk_77 shk_77 (vpl (by decide)) (by decide) em1.symm ?_
  refine G_aload_n (i := 0) pX10_putsBack_12 rfl rfl ?_
  refine G_getR (ci := 10) (j := 0) (N := 29) pX10_putsBack_13 fl_RX10_9 rfl ltk_76 shk_76 (by decide) rfl (hrf.lit 76 0 rfl) ?_
  refine G_iconst pX10_putsBack_16 ic_1 ?_
  refine G_aload_n (i := 0) pX10_putsBack_17 rfl rfl ?_
  refine G_getR (ci := 10) (j := 14) (N := 29) pX10_putsBack_18 fl_RX10_28 rfl ltk_76 shk_76 (by decide) rfl (hrf.lit 76 14 rfl) ?_
  refine G_iconst pX10_putsBack_21 ic_1 ?_
  refine G_ialdL (j := 1) pX10_putsBack_22 ltk_83 shk_83 (vpl (by decide)) (by decide) ?_
  obtain ⟨m2, em2⟩ : ∃ z : MMt, z = up2 m1 77 1 (m1 83 1) := ⟨_, rfl⟩
  have h := h m2 em2
  refine G_iastL (j := 1) pX10_putsBack_23 ltk_77 shk_77 (vpl (by decide)) (by decide) em2.symm ?_
  refine G_iconst pX10_putsBack_24 ic_0 ?_
  refine G_istore_n (i := 1) (L' := [some (.ref 76), some (.int (0 : Int32))]) pX10_putsBack_25 rfl rfl ?_
  exact gB_X10_putsBack_26 hrf (0 : Int32) _ h
def B_X10_then_45 (x1 : Int32) (x2 : Int32) (x3 : Int32) (x4 : Int32) (mem : MMt) (Q : Int32 → MMt → Prop) : Prop := LOOP (σ := Int32 × MMt) (fun X45 z => (fun (x4 : Int32) (mem : MMt) => ((x1 ≤ x4 → ((¬ x3 = (2 : Int32) → L_X10_of x2 ((2 : Int32) + x3) mem (fun r4 m3 => L_X10_putsBack m3 (fun m5 => Q r4 m5))) ∧ (x3 = (2 : Int32) → (∀ v6 : Int32, v6 = mem 77 1 → L_X10_putsBack mem (fun m7 => Q v6 m7))))) ∧ (¬ x1 ≤ x4 → L_X10_step mem (fun m8 => (∀ v9 : Int32, v9 = x4 + (1 : Int32) → X45 (v9, m8)))))) z.1 z.2) (x4, mem)
set_option maxRecDepth 4000 in
theorem gB_X10_then_45 {sx : Nat × (Nat → Int32)} {rf : RFt} {Q : Int32 → MMt → Prop} (hrf : RFok rf) (x1 : Int32) (x2 : Int32) (x3 : Int32) (x4 : Int32) (mem : MMt) (h : B_X10_then_45 x1 x2 x3 x4 mem Q) : G sx yX10_then cX10_then 5 (some .int) 8 NX NX (QQi (RFok) Q) NX rf mem 45 [some (.ref 76), some (.int x1), some (.int x2), some (.int x3), some (.int x4)] [] := by
  obtain ⟨I, ⟨n, h0⟩, hI⟩ := h
  have key : ∀ (n : Nat) (rf : RFt) (x4 : Int32) (mem : MMt), RFok rf → I n (x4, mem) → G sx yX10_then cX10_then 5 (some .int) 8 NX NX (QQi (RFok) Q) NX rf mem 45 [some (.ref 76), some (.int x1), some (.int x2), some (.int x3), some (.int x4)] [] := by
    intro n
    induction n using Nat.strongRecOn with
    | _ n ih =>
    intro rf x4 mem hrf h0
    have hX45 : ∀ (rf : RFt) (x4 : Int32) (mem : MMt), RFok rf → (fun s' => ∃ m, m < n ∧ I m s') (x4, mem) → G sx yX10_then cX10_then 5 (some .int) 8 NX NX (QQi (RFok) Q) NX rf mem 45 [some (.ref 76), some (.int x1), some (.int x2), some (.int x3), some (.int x4)] [] := fun rf x4 mem hrf ⟨m, hm, hi⟩ => ih m hm rf x4 mem hrf hi
    have h := hI n _ h0
    clear ih h0
    try dsimp only at h
    refine G_iload (i := 4) pX10_then_45 rfl ?_
    refine G_iload_n (i := 1) pX10_then_47 rfl rfl ?_
    refine G_icmp_ge pX10_then_48 (fun c1 => ?_) (fun c1 => ?_)
    · have h := h.1 c1
      refine G_iload_n (i := 3) pX10_then_61 rfl rfl ?_
      refine G_iconst pX10_then_62 ic_2 ?_
      refine G_icmp_ne pX10_then_63 (fun c2 => ?_) (fun c2 => ?_)
      · have h := h.1 c2
        refine G_aload_n (i := 0) pX10_then_75 rfl rfl ?_
        refine G_iload_n (i := 2) pX10_then_76 rfl rfl ?_
        refine G_iconst pX10_then_77 ic_2 ?_
        refine G_iload_n (i := 3) pX10_then_78 rfl rfl ?_
        refine G_iadd pX10_then_79 ?_
        refine G_callV2i (b := 76) (ci := 10) (N := 29) pX10_then_80 (g_X10_of x2 ((2 : Int32) + x3) hrf _ h) mV_X10_of ml_RX10_61 (by decide) ⟨Nat.le_refl _, Nat.le_refl _, Nat.le_refl _⟩ (Nat.le_of_ble_eq_true rfl) ltk_76 shk_76 rfl ?_
        intro r4 rf m3 hrf h hr4
        refine G_istore (i := 4) (L' := [some (.ref 76), some (.int x1), some (.int x2), some (.int x3), some (.int r4)]) pX10_then_83 rfl ?_
        refine G_aload_n (i := 0) pX10_then_85 rfl rfl ?_
        refine G_callV0v (b := 76) (ci := 10) (N := 29) pX10_then_86 (g_X10_putsBack hrf _ h) mV_X10_putsBack ml_RX10_229 (by decide) ⟨Nat.le_refl _, Nat.le_refl _, Nat.le_refl _⟩ (Nat.le_of_ble_eq_true rfl) ltk_76 shk_76 rfl ?_
        intro rf m5 hrf h
        refine G_iload (i := 4) pX10_then_89 rfl ?_
        exact G_ireturn (len := 1) pX10_then_91 ⟨hrf, _, rfl, h⟩ ⟨_, rfl, rfl⟩
      · have h := h.2 c2
        refine G_aload_n (i := 0) pX10_then_66 rfl rfl ?_
        refine G_getR (ci := 10) (j := 0) (N := 29) pX10_then_67 fl_RX10_9 rfl ltk_76 shk_76 (by decide) rfl (hrf.lit 76 0 rfl) ?_
        refine G_iconst pX10_then_70 ic_1 ?_
        refine G_ialdL (j := 1) pX10_then_71 ltk_77 shk_77 (vpl (by decide)) (by decide) ?_
        refine G_goto pX10_then_72 ?_
        obtain ⟨v6, e6⟩ : ∃ z : Int32, z = mem 77 1 := ⟨_, rfl⟩
        have h := h v6 e6
        refine G_istoreW (L' := [some (.ref 76), some (.int x1), some (.int x2), some (.int x3), some (.int v6)]) pX10_then_83 e6.symm rfl ?_
        refine G_aload_n (i := 0) pX10_then_85 rfl rfl ?_
        refine G_callV0v (b := 76) (ci := 10) (N := 29) pX10_then_86 (g_X10_putsBack hrf _ h) mV_X10_putsBack ml_RX10_229 (by decide) ⟨Nat.le_refl _, Nat.le_refl _, Nat.le_refl _⟩ (Nat.le_of_ble_eq_true rfl) ltk_76 shk_76 rfl ?_
        intro rf m7 hrf h
        refine G_iload (i := 4) pX10_then_89 rfl ?_
        exact G_ireturn (len := 1) pX10_then_91 ⟨hrf, _, rfl, h⟩ ⟨_, rfl, rfl⟩
    · have h := h.2 c1
      refine G_aload_n (i := 0) pX10_then_51 rfl rfl ?_
      refine G_callV0v (b := 76) (ci := 10) (N := 29) pX10_then_52 (g_X10_step hrf _ h) mV_X10_step ml_RX10_216 (by decide) ⟨Nat.le_refl _, Nat.le_refl _, Nat.le_refl _⟩ (Nat.le_of_ble_eq_true rfl) ltk_76 shk_76 rfl ?_
      intro rf m8 hrf h
      obtain ⟨v9, e9⟩ : ∃ z : Int32, z = x4 + (1 : Int32) := ⟨_, rfl⟩
      have h := h v9 e9
      refine G_iincW (L' := [some (.ref 76), some (.int x1), some (.int x2), some (.int x3), some (.int v9)]) pX10_then_55 rfl ic_1 e9.symm rfl ?_
      refine G_goto pX10_then_58 ?_
      exact hX45 _ _ _ hrf h
  exact key n rf _ _ hrf h0
def L_X10_then (a1 : Int32) (a2 : Int32) (a3 : Int32) (mem : MMt) (Q : Int32 → MMt → Prop) : Prop := L_X10_isIn a1.toInt64 (0 : Int64) (200 : Int64) mem (fun r2 m1 => ((r2 = 0 → L_X10_error (1 : Int32) m1 (fun r5 m4 => Q r5 m4)) ∧ (¬ r2 = 0 → L_X10_isGood a2 m1 (fun r7 m6 => ((r7 = 0 → L_X10_error (1 : Int32) m6 (fun r10 m9 => Q r10 m9)) ∧ (¬ r7 = 0 → L_X10_isIn a3.toInt64 (0 : Int64) (2 : Int64) m6 (fun r12 m11 => ((¬ r12 = 0 → L_X10_saves m11 (fun m14 => B_X10_then_45 a1 a2 a3 (0 : Int32) m14 Q)) ∧ (r12 = 0 → L_X10_error (1 : Int32) m11 (fun r16 m15 => Q r16 m15))))))))))
set_option maxRecDepth 4000 in
theorem g_X10_then {sx : Nat × (Nat → Int32)} {rf : RFt} {Q : Int32 → MMt → Prop} (a1 : Int32) (a2 : Int32) (a3 : Int32) (hrf : RFok rf) (mem : MMt) (h : L_X10_then a1 a2 a3 mem Q) : Ct sx yX10_then cX10_then 5 (some .int) 8 [.ref 76, .int a1, .int a2, .int a3] NX NX rf mem (QQi (RFok) Q) := by
  refine Ct_of [some (.ref 76), some (.int a1), some (.int a2), some (.int a3), none] (by decide +kernel) (by simp [Lof, Value.category]) rfl ?_
  unfold L_X10_then at h
  refine G_iload_n (i := 1) pX10_then_0 rfl rfl ?_
  refine G_i2l pX10_then_1 ?_
  refine G_lconst pX10_then_2 lc_0 ?_
  refine G_ldc2 pX10_then_3 rfl wcl_RX10_211 ?_
  refine G_callS3i pX10_then_6 (g_X10_isIn a1.toInt64 (0 : Int64) (200 : Int64) hrf _ h) mS_X10_isIn ml_RX10_53 (by decide) ⟨Nat.le_refl _, Nat.le_refl _, Nat.le_refl _⟩ (Nat.le_of_ble_eq_true rfl) ?_
  intro r2 rf m1 hrf h hr2
  refine G_if_eq pX10_then_9 (fun c3 => ?_) (fun c3 => ?_)
  · have h := h.1 c3
    refine G_aload_n (i := 0) pX10_then_32 rfl rfl ?_
    refine G_iconst pX10_then_33 ic_1 ?_
    refine G_callV1i (b := 76) (ci := 10) (N := 29) pX10_then_34 (g_X10_error (1 : Int32) hrf _ h) mV_X10_error ml_RX10_79 (by decide) ⟨Nat.le_refl _, Nat.le_refl _, Nat.le_refl _⟩ (Nat.le_of_ble_eq_true rfl) ltk_76 shk_76 rfl ?_
    intro r5 rf m4 hrf h hr5
    exact G_ireturn (len := 1) pX10_then_37 ⟨hrf, _, rfl, h⟩ ⟨_, rfl, rfl⟩
  · have h := h.2 c3
    refine G_aload_n (i := 0) pX10_then_12 rfl rfl ?_
    refine G_iload_n (i := 2) pX10_then_13 rfl rfl ?_
    refine G_callV1i (b := 76) (ci := 10) (N := 29) pX10_then_14 (g_X10_isGood a2 hrf _ h) mV_X10_isGood ml_RX10_87 (by decide) ⟨Nat.le_refl _, Nat.le_refl _, Nat.le_refl _⟩ (Nat.le_of_ble_eq_true rfl) ltk_76 shk_76 rfl ?_
    intro r7 rf m6 hrf h hr7
    refine G_if_eq pX10_then_17 (fun c8 => ?_) (fun c8 => ?_)
    · have h := h.1 c8
      refine G_aload_n (i := 0) pX10_then_32 rfl rfl ?_
      refine G_iconst pX10_then_33 ic_1 ?_
      refine G_callV1i (b := 76) (ci := 10) (N := 29) pX10_then_34 (g_X10_error (1 : Int32) hrf _ h) mV_X10_error ml_RX10_79 (by decide) ⟨Nat.le_refl _, Nat.le_refl _, Nat.le_refl _⟩ (Nat.le_of_ble_eq_true rfl) ltk_76 shk_76 rfl ?_
      intro r10 rf m9 hrf h hr10
      exact G_ireturn (len := 1) pX10_then_37 ⟨hrf, _, rfl, h⟩ ⟨_, rfl, rfl⟩
    · have h := h.2 c8
      refine G_iload_n (i := 3) pX10_then_20 rfl rfl ?_
      refine G_i2l pX10_then_21 ?_
      refine G_lconst pX10_then_22 lc_0 ?_
      refine G_ldc2 pX10_then_23 rfl wcl_RX10_122 ?_
      refine G_callS3i pX10_then_26 (g_X10_isIn a3.toInt64 (0 : Int64) (2 : Int64) hrf _ h) mS_X10_isIn ml_RX10_53 (by decide) ⟨Nat.le_refl _, Nat.le_refl _, Nat.le_refl _⟩ (Nat.le_of_ble_eq_true rfl) ?_
      intro r12 rf m11 hrf h hr12
      refine G_if_ne pX10_then_29 (fun c13 => ?_) (fun c13 => ?_)
      · have h := h.1 c13
        refine G_aload_n (i := 0) pX10_then_38 rfl rfl ?_
        refine G_callV0v (b := 76) (ci := 10) (N := 29) pX10_then_39 (g_X10_saves hrf _ h) mV_X10_saves ml_RX10_226 (by decide) ⟨Nat.le_refl _, Nat.le_refl _, Nat.le_refl _⟩ (Nat.le_of_ble_eq_true rfl) ltk_76 shk_76 rfl ?_
        intro rf m14 hrf h
        refine G_iconst pX10_then_42 ic_0 ?_
        refine G_istore (i := 4) (L' := [some (.ref 76), some (.int a1), some (.int a2), some (.int a3), some (.int (0 : Int32))]) pX10_then_43 rfl ?_
        exact gB_X10_then_45 hrf a1 a2 a3 (0 : Int32) _ h
      · have h := h.2 c13
        refine G_aload_n (i := 0) pX10_then_32 rfl rfl ?_
        refine G_iconst pX10_then_33 ic_1 ?_
        refine G_callV1i (b := 76) (ci := 10) (N := 29) pX10_then_34 (g_X10_error (1 : Int32) hrf _ h) mV_X10_error ml_RX10_79 (by decide) ⟨Nat.le_refl _, Nat.le_refl _, Nat.le_refl _⟩ (Nat.le_of_ble_eq_true rfl) ltk_76 shk_76 rfl ?_
        intro r16 rf m15 hrf h hr16
        exact G_ireturn (len := 1) pX10_then_37 ⟨hrf, _, rfl, h⟩ ⟨_, rfl, rfl⟩
def B_X10_restOf_59 (x1 : Int32) (x2 : Int32) (x3 : Int32) (x4 : Int32) (mem : MMt) (Q : Int32 → MMt → Prop) : Prop := L_X10_of x1 (2 : Int32) mem (fun r2 m1 => (∀ m3 : MMt, m3 = up2 m1 76 15 r2 → L_X10_sets x1 (2 : Int32) x2 m3 (fun m4 => L_X10_sets x1 (3 : Int32) x3 m4 (fun m5 => (((200 : Int32) < x4 → Q (-1 : Int32) m5) ∧ (¬ (200 : Int32) < x4 → Q x4 m5))))))
set_option maxRecDepth 4000 in
theorem gB_X10_restOf_59 {sx : Nat × (Nat → Int32)} {rf : RFt} {Q : Int32 → MMt → Prop} (hrf : RFok rf) (x1 : Int32) (x2 : Int32) (x3 : Int32) (x4 : Int32) (mem : MMt) (h : B_X10_restOf_59 x1 x2 x3 x4 mem Q) : G sx yX10_restOf cX10_restOf 5 (some .int) 7 NX NX (QQi (RFok) Q) NX rf mem 59 [some (.ref 76), some (.int x1), some (.int x2), some (.int x3), some (.int x4)] [] := by
  unfold B_X10_restOf_59 at h
  refine G_aload_n (i := 0) pX10_restOf_59 rfl rfl ?_
  refine G_aload_n (i := 0) pX10_restOf_60 rfl rfl ?_
  refine G_iload_n (i := 1) pX10_restOf_61 rfl rfl ?_
  refine G_iconst pX10_restOf_62 ic_2 ?_
  refine G_callV2i (b := 76) (ci := 10) (N := 29) pX10_restOf_63 (g_X10_of x1 (2 : Int32) hrf _ h) mV_X10_of ml_RX10_61 (by decide) ⟨Nat.le_refl _, Nat.le_refl _, Nat.le_refl _⟩ (Nat.le_of_ble_eq_true rfl) ltk_76 shk_76 rfl ?_
  intro r2 rf m1 hrf h hr2
  obtain ⟨m3, em3⟩ : ∃ z : MMt, z = up2 m1 76 15 r2 := ⟨_, rfl⟩
  have h := h m3 em3
  refine G_putIW (ci := 10) (j := 15) (N := 29) pX10_restOf_66 fw_RX10_232 rfl ltk_76 shk_76 (by decide) rfl (fun _ => ⟨rfl, rfl⟩) em3.symm ?_
  refine G_aload_n (i := 0) pX10_restOf_69 rfl rfl ?_
  refine G_iload_n (i := 1) pX10_restOf_70 rfl rfl ?_
  refine G_iconst pX10_restOf_71 ic_2 ?_
  refine G_iload_n (i := 2) pX10_restOf_72 rfl rfl ?_
  refine G_callV3v (b := 76) (ci := 10) (N := 29) pX10_restOf_73 (g_X10_sets x1 (2 : Int32) x2 hrf _ h) mV_X10_sets ml_RX10_83 (by decide) ⟨Nat.le_refl _, Nat.le_refl _, Nat.le_refl _⟩ (Nat.le_of_ble_eq_true rfl) ltk_76 shk_76 rfl ?_
  intro rf m4 hrf h
  refine G_aload_n (i := 0) pX10_restOf_76 rfl rfl ?_
  refine G_iload_n (i := 1) pX10_restOf_77 rfl rfl ?_
  refine G_iconst pX10_restOf_78 ic_3 ?_
  refine G_iload_n (i := 3) pX10_restOf_79 rfl rfl ?_
  refine G_callV3v (b := 76) (ci := 10) (N := 29) pX10_restOf_80 (g_X10_sets x1 (3 : Int32) x3 hrf _ h) mV_X10_sets ml_RX10_83 (by decide) ⟨Nat.le_refl _, Nat.le_refl _, Nat.le_refl _⟩ (Nat.le_of_ble_eq_true rfl) ltk_76 shk_76 rfl ?_
  intro rf m5 hrf h
  refine G_iload (i := 4) pX10_restOf_83 rfl ?_
  refine G_sipush pX10_restOf_85 si_200 ?_
  refine G_icmp_gt pX10_restOf_88 (fun c6 => ?_) (fun c6 => ?_)
  · have h := h.1 c6
    refine G_iconst pX10_restOf_96 ic_m1 ?_
    exact G_ireturn (len := 1) pX10_restOf_97 ⟨hrf, _, rfl, h⟩ ⟨_, rfl, rfl⟩
  · have h := h.2 c6
    refine G_iload (i := 4) pX10_restOf_91 rfl ?_
    refine G_goto pX10_restOf_93 ?_
    exact G_ireturn (len := 1) pX10_restOf_97 ⟨hrf, _, rfl, h⟩ ⟨_, rfl, rfl⟩
def B_X10_restOf_17 (x1 : Int32) (x2 : Int32) (x3 : Int32) (x4 : Int32) (mem : MMt) (Q : Int32 → MMt → Prop) : Prop := LOOP (σ := Int32 × MMt) (fun X17 z => (fun (x4 : Int32) (mem : MMt) => (((200 : Int32) < x4 → B_X10_restOf_59 x1 x2 x3 x4 mem Q) ∧ (¬ (200 : Int32) < x4 → L_X10_isAtRest x1 mem (fun r3 m2 => ((¬ r3 = 0 → B_X10_restOf_59 x1 x2 x3 x4 m2 Q) ∧ (r3 = 0 → L_X10_sets x1 (2 : Int32) (m2 76 12) m2 (fun m5 => L_X10_sets x1 (3 : Int32) (m5 76 13) m5 (fun m6 => (∀ v7 : Int32, v7 = x4 + (1 : Int32) → X17 (v7, m6)))))))))) z.1 z.2) (x4, mem)
set_option maxRecDepth 4000 in
theorem gB_X10_restOf_17 {sx : Nat × (Nat → Int32)} {rf : RFt} {Q : Int32 → MMt → Prop} (hrf : RFok rf) (x1 : Int32) (x2 : Int32) (x3 : Int32) (x4 : Int32) (mem : MMt) (h : B_X10_restOf_17 x1 x2 x3 x4 mem Q) : G sx yX10_restOf cX10_restOf 5 (some .int) 7 NX NX (QQi (RFok) Q) NX rf mem 17 [some (.ref 76), some (.int x1), some (.int x2), some (.int x3), some (.int x4)] [] := by
  obtain ⟨I, ⟨n, h0⟩, hI⟩ := h
  have key : ∀ (n : Nat) (rf : RFt) (x4 : Int32) (mem : MMt), RFok rf → I n (x4, mem) → G sx yX10_restOf cX10_restOf 5 (some .int) 7 NX NX (QQi (RFok) Q) NX rf mem 17 [some (.ref 76), some (.int x1), some (.int x2), some (.int x3), some (.int x4)] [] := by
    intro n
    induction n using Nat.strongRecOn with
    | _ n ih =>
    intro rf x4 mem hrf h0
    have hX17 : ∀ (rf : RFt) (x4 : Int32) (mem : MMt), RFok rf → (fun s' => ∃ m, m < n ∧ I m s') (x4, mem) → G sx yX10_restOf cX10_restOf 5 (some .int) 7 NX NX (QQi (RFok) Q) NX rf mem 17 [some (.ref 76), some (.int x1), some (.int x2), some (.int x3), some (.int x4)] [] := fun rf x4 mem hrf ⟨m, hm, hi⟩ => ih m hm rf x4 mem hrf hi
    have h := hI n _ h0
    clear ih h0
    try dsimp only at h
    refine G_iload (i := 4) pX10_restOf_17 rfl ?_
    refine G_sipush pX10_restOf_19 si_200 ?_
    refine G_icmp_gt pX10_restOf_22 (fun c1 => ?_) (fun c1 => ?_)
    · have h := h.1 c1
      exact gB_X10_restOf_59 hrf x1 x2 x3 x4 _ h
    · have h := h.2 c1
      refine G_aload_n (i := 0) pX10_restOf_25 rfl rfl ?_
      refine G_iload_n (i := 1) pX10_restOf_26 rfl rfl ?_
      refine G_callV1i (b := 76) (ci := 10) (N := 29) pX10_restOf_27 (g_X10_isAtRest x1 hrf _ h) mV_X10_isAtRest ml_RX10_103 (by decide) ⟨Nat.le_refl _, Nat.le_refl _, Nat.le_refl _⟩ (Nat.le_of_ble_eq_true rfl) ltk_76 shk_76 rfl ?_
      intro r3 rf m2 hrf h hr3
      refine G_if_ne pX10_restOf_30 (fun c4 => ?_) (fun c4 => ?_)
      · have h := h.1 c4
        exact gB_X10_restOf_59 hrf x1 x2 x3 x4 _ h
      · have h := h.2 c4
        refine G_aload_n (i := 0) pX10_restOf_33 rfl rfl ?_
        refine G_iload_n (i := 1) pX10_restOf_34 rfl rfl ?_
        refine G_iconst pX10_restOf_35 ic_2 ?_
        refine G_aload_n (i := 0) pX10_restOf_36 rfl rfl ?_
        refine G_getI (ci := 10) (j := 12) (N := 29) pX10_restOf_37 fl_RX10_195 rfl ltk_76 shk_76 (by decide) rfl ?_
        refine G_callV3v (b := 76) (ci := 10) (N := 29) pX10_restOf_40 (g_X10_sets x1 (2 : Int32) (m2 76 12) hrf _ h) mV_X10_sets ml_RX10_83 (by decide) ⟨Nat.le_refl _, Nat.le_refl _, Nat.le_refl _⟩ (Nat.le_of_ble_eq_true rfl) ltk_76 shk_76 rfl ?_
        intro rf m5 hrf h
        refine G_aload_n (i := 0) pX10_restOf_43 rfl rfl ?_
        refine G_iload_n (i := 1) pX10_restOf_44 rfl rfl ?_
        refine G_iconst pX10_restOf_45 ic_3 ?_
        refine G_aload_n (i := 0) pX10_restOf_46 rfl rfl ?_
        refine G_getI (ci := 10) (j := 13) (N := 29) pX10_restOf_47 fl_RX10_198 rfl ltk_76 shk_76 (by decide) rfl ?_
        refine G_callV3v (b := 76) (ci := 10) (N := 29) pX10_restOf_50 (g_X10_sets x1 (3 : Int32) (m5 76 13) hrf _ h) mV_X10_sets ml_RX10_83 (by decide) ⟨Nat.le_refl _, Nat.le_refl _, Nat.le_refl _⟩ (Nat.le_of_ble_eq_true rfl) ltk_76 shk_76 rfl ?_
        intro rf m6 hrf h
        obtain ⟨v7, e7⟩ : ∃ z : Int32, z = x4 + (1 : Int32) := ⟨_, rfl⟩
        have h := h v7 e7
        refine G_iincW (L' := [some (.ref 76), some (.int x1), some (.int x2), some (.int x3), some (.int v7)]) pX10_restOf_53 rfl ic_1 e7.symm rfl ?_
        refine G_goto pX10_restOf_56 ?_
        exact hX17 _ _ _ hrf h
  exact key n rf _ _ hrf h0
def L_X10_restOf (a1 : Int32) (mem : MMt) (Q : Int32 → MMt → Prop) : Prop := L_X10_of a1 (2 : Int32) mem (fun r2 m1 => L_X10_of a1 (3 : Int32) m1 (fun r4 m3 => B_X10_restOf_17 a1 r2 r4 (0 : Int32) m3 Q))
set_option maxRecDepth 4000 in
theorem g_X10_restOf {sx : Nat × (Nat → Int32)} {rf : RFt} {Q : Int32 → MMt → Prop} (a1 : Int32) (hrf : RFok rf) (mem : MMt) (h : L_X10_restOf a1 mem Q) : Ct sx yX10_restOf cX10_restOf 5 (some .int) 7 [.ref 76, .int a1] NX NX rf mem (QQi (RFok) Q) := by
  refine Ct_of [some (.ref 76), some (.int a1), none, none, none] (by decide +kernel) (by simp [Lof, Value.category]) rfl ?_
  unfold L_X10_restOf at h
  refine G_aload_n (i := 0) pX10_restOf_0 rfl rfl ?_
  refine G_iload_n (i := 1) pX10_restOf_1 rfl rfl ?_
  refine G_iconst pX10_restOf_2 ic_2 ?_
  refine G_callV2i (b := 76) (ci := 10) (N := 29) pX10_restOf_3 (g_X10_of a1 (2 : Int32) hrf _ h) mV_X10_of ml_RX10_61 (by decide) ⟨Nat.le_refl _, Nat.le_refl _, Nat.le_refl _⟩ (Nat.le_of_ble_eq_true rfl) ltk_76 shk_76 rfl ?_
  intro r2 rf m1 hrf h hr2
  refine G_istore_n (i := 2) (L' := [some (.ref 76), some (.int a1), some (.int r2), none, none]) pX10_restOf_6 rfl rfl ?_
  refine G_aload_n (i := 0) pX10_restOf_7 rfl rfl ?_
  refine G_iload_n (i := 1) pX10_restOf_8 rfl rfl ?_
  refine G_iconst pX10_restOf_9 ic_3 ?_
  refine G_callV2i (b := 76) (ci := 10) (N := 29) pX10_restOf_10 (g_X10_of a1 (3 : Int32) hrf _ h) mV_X10_of ml_RX10_61 (by decide) ⟨Nat.le_refl _, Nat.le_refl _, Nat.le_refl _⟩ (Nat.le_of_ble_eq_true rfl) ltk_76 shk_76 rfl ?_
  intro r4 rf m3 hrf h hr4
  refine G_istore_n (i := 3) (L' := [some (.ref 76), some (.int a1), some (.int r2), some (.int r4), none]) pX10_restOf_13 rfl rfl ?_
  refine G_iconst pX10_restOf_14 ic_0 ?_
  refine G_istore (i := 4) (L' := [some (.ref 76), some (.int a1), some (.int r2), some (.int r4), some (.int (0 : Int32))]) pX10_restOf_15 rfl ?_
  exact gB_X10_restOf_17 hrf a1 r2 r4 (0 : Int32) _ h
def L_X10_rests (a1 : Int32) (a2 : Int32) (mem : MMt) (Q : Int32 → MMt → Prop) : Prop := L_X10_isGood a1 mem (fun r2 m1 => ((r2 = 0 → L_X10_error (1 : Int32) m1 (fun r5 m4 => Q r5 m4)) ∧ (¬ r2 = 0 → L_X10_isIn a2.toInt64 (0 : Int64) (1 : Int64) m1 (fun r7 m6 => ((¬ r7 = 0 → L_X10_restOf a1 m6 (fun r10 m9 => ((0 ≤ r10 → ((¬ a2 = 0 → Q (m9 76 15) m9) ∧ (a2 = 0 → Q r10 m9))) ∧ (¬ 0 ≤ r10 → L_X10_error (2 : Int32) m9 (fun r14 m13 => Q r14 m13))))) ∧ (r7 = 0 → L_X10_error (1 : Int32) m6 (fun r16 m15 => Q r16 m15)))))))
set_option maxRecDepth 4000 in
theorem g_X10_rests {sx : Nat × (Nat → Int32)} {rf : RFt} {Q : Int32 → MMt → Prop} (a1 : Int32) (a2 : Int32) (hrf : RFok rf) (mem : MMt) (h : L_X10_rests a1 a2 mem Q) : Ct sx yX10_rests cX10_rests 4 (some .int) 8 [.ref 76, .int a1, .int a2] NX NX rf mem (QQi (RFok) Q) := by
  refine Ct_of [some (.ref 76), some (.int a1), some (.int a2), none] (by decide +kernel) (by simp [Lof, Value.category]) rfl ?_
  unfold L_X10_rests at h
  refine G_aload_n (i := 0) pX10_rests_0 rfl rfl ?_
  refine G_iload_n (i := 1) pX10_rests_1 rfl rfl ?_
  refine G_callV1i (b := 76) (ci := 10) (N := 29) pX10_rests_2 (g_X10_isGood a1 hrf _ h) mV_X10_isGood ml_RX10_87 (by decide) ⟨Nat.le_refl _, Nat.le_refl _, Nat.le_refl _⟩ (Nat.le_of_ble_eq_true rfl) ltk_76 shk_76 rfl ?_
  intro r2 rf m1 hrf h hr2
  refine G_if_eq pX10_rests_5 (fun c3 => ?_) (fun c3 => ?_)
  · have h := h.1 c3
    refine G_aload_n (i := 0) pX10_rests_18 rfl rfl ?_
    refine G_iconst pX10_rests_19 ic_1 ?_
    refine G_callV1i (b := 76) (ci := 10) (N := 29) pX10_rests_20 (g_X10_error (1 : Int32) hrf _ h) mV_X10_error ml_RX10_79 (by decide) ⟨Nat.le_refl _, Nat.le_refl _, Nat.le_refl _⟩ (Nat.le_of_ble_eq_true rfl) ltk_76 shk_76 rfl ?_
    intro r5 rf m4 hrf h hr5
    exact G_ireturn (len := 1) pX10_rests_23 ⟨hrf, _, rfl, h⟩ ⟨_, rfl, rfl⟩
  · have h := h.2 c3
    refine G_iload_n (i := 2) pX10_rests_8 rfl rfl ?_
    refine G_i2l pX10_rests_9 ?_
    refine G_lconst pX10_rests_10 lc_0 ?_
    refine G_lconst pX10_rests_11 lc_1 ?_
    refine G_callS3i pX10_rests_12 (g_X10_isIn a2.toInt64 (0 : Int64) (1 : Int64) hrf _ h) mS_X10_isIn ml_RX10_53 (by decide) ⟨Nat.le_refl _, Nat.le_refl _, Nat.le_refl _⟩ (Nat.le_of_ble_eq_true rfl) ?_
    intro r7 rf m6 hrf h hr7
    refine G_if_ne pX10_rests_15 (fun c8 => ?_) (fun c8 => ?_)
    · have h := h.1 c8
      refine G_aload_n (i := 0) pX10_rests_24 rfl rfl ?_
      refine G_iload_n (i := 1) pX10_rests_25 rfl rfl ?_
      refine G_callV1i (b := 76) (ci := 10) (N := 29) pX10_rests_26 (g_X10_restOf a1 hrf _ h) mV_X10_restOf ml_RX10_235 (by decide) ⟨Nat.le_refl _, Nat.le_refl _, Nat.le_refl _⟩ (Nat.le_of_ble_eq_true rfl) ltk_76 shk_76 rfl ?_
      intro r10 rf m9 hrf h hr10
      refine G_istore_n (i := 3) (L' := [some (.ref 76), some (.int a1), some (.int a2), some (.int r10)]) pX10_rests_29 rfl rfl ?_
      refine G_iload_n (i := 3) pX10_rests_30 rfl rfl ?_
      refine G_if_ge pX10_rests_31 (fun c11 => ?_) (fun c11 => ?_)
      · have h := h.1 c11
        refine G_iload_n (i := 2) pX10_rests_42 rfl rfl ?_
        refine G_if_ne pX10_rests_43 (fun c12 => ?_) (fun c12 => ?_)
        · have h := h.1 c12
          refine G_aload_n (i := 0) pX10_rests_50 rfl rfl ?_
          refine G_getI (ci := 10) (j := 15) (N := 29) pX10_rests_51 fl_RX10_232 rfl ltk_76 shk_76 (by decide) rfl ?_
          exact G_ireturn (len := 1) pX10_rests_54 ⟨hrf, _, rfl, h⟩ ⟨_, rfl, rfl⟩
        · have h := h.2 c12
          refine G_iload_n (i := 3) pX10_rests_46 rfl rfl ?_
          refine G_goto pX10_rests_47 ?_
          exact G_ireturn (len := 1) pX10_rests_54 ⟨hrf, _, rfl, h⟩ ⟨_, rfl, rfl⟩
      · have h := h.2 c11
        refine G_aload_n (i := 0) pX10_rests_34 rfl rfl ?_
        refine G_iconst pX10_rests_35 ic_2 ?_
        refine G_callV1i (b := 76) (ci := 10) (N := 29) pX10_rests_36 (g_X10_error (2 : Int32) hrf _ h) mV_X10_error ml_RX10_79 (by decide) ⟨Nat.le_refl _, Nat.le_refl _, Nat.le_refl _⟩ (Nat.le_of_ble_eq_true rfl) ltk_76 shk_76 rfl ?_
        intro r14 rf m13 hrf h hr14
        refine G_goto pX10_rests_39 ?_
        exact G_ireturn (len := 1) pX10_rests_54 ⟨hrf, _, rfl, h⟩ ⟨_, rfl, rfl⟩
    · have h := h.2 c8
      refine G_aload_n (i := 0) pX10_rests_18 rfl rfl ?_
      refine G_iconst pX10_rests_19 ic_1 ?_
      refine G_callV1i (b := 76) (ci := 10) (N := 29) pX10_rests_20 (g_X10_error (1 : Int32) hrf _ h) mV_X10_error ml_RX10_79 (by decide) ⟨Nat.le_refl _, Nat.le_refl _, Nat.le_refl _⟩ (Nat.le_of_ble_eq_true rfl) ltk_76 shk_76 rfl ?_
      intro r16 rf m15 hrf h hr16
      exact G_ireturn (len := 1) pX10_rests_23 ⟨hrf, _, rfl, h⟩ ⟨_, rfl, rfl⟩
def B_X10_first_56 (X6 : Int32 × Int32 × Int32 × MMt → Prop) (x3 : Int32) (x4 : Int32) (mem : MMt) (Q : Int32 → MMt → Prop) : Prop := (∀ v1 : Int32, v1 = x3 + (1 : Int32) → X6 (x3, x4, v1, mem))
set_option maxRecDepth 4000 in
theorem gB_X10_first_56 {sx : Nat × (Nat → Int32)} {X6 : Int32 × Int32 × Int32 × MMt → Prop} {rf : RFt} {Q : Int32 → MMt → Prop} (hrf : RFok rf) (x3 : Int32) (x4 : Int32) (hX6 : ∀ (rf : RFt) (x1 : Int32) (x2 : Int32) (x3 : Int32) (mem : MMt), RFok rf → X6 (x1, x2, x3, mem) → G sx yX10_first cX10_first 5 (some .int) 8 NX NX (QQi (RFok) Q) NX rf mem 6 [some (.ref 76), some (.int x1), some (.int x2), some (.int x3), none] []) (mem : MMt) (h : B_X10_first_56 X6 x3 x4 mem Q) : G sx yX10_first cX10_first 5 (some .int) 8 NX NX (QQi (RFok) Q) NX rf mem 56 [some (.ref 76), none, none, some (.int x3), some (.int x4)] [] := by
  unfold B_X10_first_56 at h
  refine G_iload_n (i := 3) pX10_first_56 rfl rfl ?_
  refine G_istore_n (i := 1) (L' := [some (.ref 76), some (.int x3), none, some (.int x3), some (.int x4)]) pX10_first_57 rfl rfl ?_
  refine G_iload (i := 4) pX10_first_58 rfl ?_
  refine G_istore_n (i := 2) (L' := [some (.ref 76), some (.int x3), some (.int x4), some (.int x3), some (.int x4)]) pX10_first_60 rfl rfl ?_
  obtain ⟨v1, e1⟩ : ∃ z : Int32, z = x3 + (1 : Int32) := ⟨_, rfl⟩
  have h := h v1 e1
  refine G_iincW (L' := [some (.ref 76), some (.int x3), some (.int x4), some (.int v1), some (.int x4)]) pX10_first_61 rfl ic_1 e1.symm rfl ?_
  refine G_goto pX10_first_64 ?_
  refine G_wk (L2 := [some (.ref 76), some (.int x3), some (.int x4), some (.int v1), none]) ⟨Or.inr rfl, Or.inr rfl, Or.inr rfl, Or.inr rfl, Or.inl rfl, trivial⟩ ?_
  exact hX6 _ _ _ _ _ hrf h
def B_X10_first_6 (x1 : Int32) (x2 : Int32) (x3 : Int32) (mem : MMt) (Q : Int32 → MMt → Prop) : Prop := LOOP (σ := Int32 × Int32 × Int32 × MMt) (fun X6 z => (fun (x1 : Int32) (x2 : Int32) (x3 : Int32) (mem : MMt) => (((mem 77 6) ≤ x3 → ((0 ≤ x1 → Q x1 mem) ∧ (¬ 0 ≤ x1 → L_X10_error (2 : Int32) mem (fun r4 m3 => Q r4 m3)))) ∧ (¬ (mem 77 6) ≤ x3 → L_X10_restOf x3 mem (fun r6 m5 => ((r6 < 0 → (∀ v8 : Int32, v8 = x3 + (1 : Int32) → X6 (x1, x2, v8, m5))) ∧ (¬ r6 < 0 → L_X10_isIn ((m5 76 15).toInt64) (16 : Int64) (24 : Int64) m5 (fun r10 m9 => ((r10 = 0 → (∀ v12 : Int32, v12 = x3 + (1 : Int32) → X6 (x1, x2, v12, m9))) ∧ (¬ r10 = 0 → ((x1 < 0 → B_X10_first_56 X6 x3 r6 m9 Q) ∧ (¬ x1 < 0 → ((x2 ≤ r6 → (∀ v15 : Int32, v15 = x3 + (1 : Int32) → X6 (x1, x2, v15, m9))) ∧ (¬ x2 ≤ r6 → B_X10_first_56 X6 x3 r6 m9 Q))))))))))))) z.1 z.2.1 z.2.2.1 z.2.2.2) (x1, x2, x3, mem)
set_option maxRecDepth 4000 in
theorem gB_X10_first_6 {sx : Nat × (Nat → Int32)} {rf : RFt} {Q : Int32 → MMt → Prop} (hrf : RFok rf) (x1 : Int32) (x2 : Int32) (x3 : Int32) (mem : MMt) (h : B_X10_first_6 x1 x2 x3 mem Q) : G sx yX10_first cX10_first 5 (some .int) 8 NX NX (QQi (RFok) Q) NX rf mem 6 [some (.ref 76), some (.int x1), some (.int x2), some (.int x3), none] [] := by
  obtain ⟨I, ⟨n, h0⟩, hI⟩ := h
  have key : ∀ (n : Nat) (rf : RFt) (x1 : Int32) (x2 : Int32) (x3 : Int32) (mem : MMt), RFok rf → I n (x1, x2, x3, mem) → G sx yX10_first cX10_first 5 (some .int) 8 NX NX (QQi (RFok) Q) NX rf mem 6 [some (.ref 76), some (.int x1), some (.int x2), some (.int x3), none] [] := by
    intro n
    induction n using Nat.strongRecOn with
    | _ n ih =>
    intro rf x1 x2 x3 mem hrf h0
    have hX6 : ∀ (rf : RFt) (x1 : Int32) (x2 : Int32) (x3 : Int32) (mem : MMt), RFok rf → (fun s' => ∃ m, m < n ∧ I m s') (x1, x2, x3, mem) → G sx yX10_first cX10_first 5 (some .int) 8 NX NX (QQi (RFok) Q) NX rf mem 6 [some (.ref 76), some (.int x1), some (.int x2), some (.int x3), none] [] := fun rf x1 x2 x3 mem hrf ⟨m, hm, hi⟩ => ih m hm rf x1 x2 x3 mem hrf hi
    have h := hI n _ h0
    clear ih h0
    try dsimp only at h
    refine G_iload_n (i := 3) pX10_first_6 rfl rfl ?_
    refine G_aload_n (i := 0) pX10_first_7 rfl rfl ?_
    refine G_getR (ci := 10) (j := 0) (N := 29) pX10_first_8 fl_RX10_9 rfl ltk_76 shk_76 (by decide) rfl (hrf.lit 76 0 rfl) ?_
    refine G_bipush pX10_first_11 bi_6 ?_
    refine G_ialdL (j := 6) pX10_first_13 ltk_77 shk_77 (vpl (by decide)) (by decide) ?_
    refine G_icmp_ge pX10_first_14 (fun c1 => ?_) (fun c1 => ?_)
    · have h := h.1 c1
      refine G_iload_n (i := 1) pX10_first_67 rfl rfl ?_
      refine G_if_ge pX10_first_68 (fun c2 => ?_) (fun c2 => ?_)
      · have h := h.1 c2
        refine G_iload_n (i := 1) pX10_first_79 rfl rfl ?_
        exact G_ireturn (len := 1) pX10_first_80 ⟨hrf, _, rfl, h⟩ ⟨_, rfl, rfl⟩
      · have h := h.2 c2
        refine G_aload_n (i := 0) pX10_first_71 rfl rfl ?_
        refine G_iconst pX10_first_72 ic_2 ?_
        refine G_callV1i (b := 76) (ci := 10) (N := 29) pX10_first_73 (g_X10_error (2 : Int32) hrf _ h) mV_X10_error ml_RX10_79 (by decide) ⟨Nat.le_refl _, Nat.le_refl _, Nat.le_refl _⟩ (Nat.le_of_ble_eq_true rfl) ltk_76 shk_76 rfl ?_
        intro r4 rf m3 hrf h hr4
        refine G_goto pX10_first_76 ?_
        exact G_ireturn (len := 1) pX10_first_80 ⟨hrf, _, rfl, h⟩ ⟨_, rfl, rfl⟩
    · have h := h.2 c1
      refine G_aload_n (i := 0) pX10_first_17 rfl rfl ?_
      refine G_iload_n (i := 3) pX10_first_18 rfl rfl ?_
      refine G_callV1i (b := 76) (ci := 10) (N := 29) pX10_first_19 (g_X10_restOf x3 hrf _ h) mV_X10_restOf ml_RX10_235 (by decide) ⟨Nat.le_refl _, Nat.le_refl _, Nat.le_refl _⟩ (Nat.le_of_ble_eq_true rfl) ltk_76 shk_76 rfl ?_
      intro r6 rf m5 hrf h hr6
      refine G_istore (i := 4) (L' := [some (.ref 76), some (.int x1), some (.int x2), some (.int x3), some (.int r6)]) pX10_first_22 rfl ?_
      refine G_iload (i := 4) pX10_first_24 rfl ?_
      refine G_if_lt pX10_first_26 (fun c7 => ?_) (fun c7 => ?_)
      · have h := h.1 c7
        obtain ⟨v8, e8⟩ : ∃ z : Int32, z = x3 + (1 : Int32) := ⟨_, rfl⟩
        have h := h v8 e8
        refine G_iincW (L' := [some (.ref 76), some (.int x1), some (.int x2), some (.int v8), some (.int r6)]) pX10_first_61 rfl ic_1 e8.symm rfl ?_
        refine G_goto pX10_first_64 ?_
        refine G_wk (L2 := [some (.ref 76), some (.int x1), some (.int x2), some (.int v8), none]) ⟨Or.inr rfl, Or.inr rfl, Or.inr rfl, Or.inr rfl, Or.inl rfl, trivial⟩ ?_
        exact hX6 _ _ _ _ _ hrf h
      · have h := h.2 c7
        refine G_aload_n (i := 0) pX10_first_29 rfl rfl ?_
        refine G_getI (ci := 10) (j := 15) (N := 29) pX10_first_30 fl_RX10_232 rfl ltk_76 shk_76 (by decide) rfl ?_
        refine G_i2l pX10_first_33 ?_
        refine G_ldc2 pX10_first_34 rfl wcl_RX10_238 ?_
        refine G_ldc2 pX10_first_37 rfl wcl_RX10_124 ?_
        refine G_callS3i pX10_first_40 (g_X10_isIn ((m5 76 15).toInt64) (16 : Int64) (24 : Int64) hrf _ h) mS_X10_isIn ml_RX10_53 (by decide) ⟨Nat.le_refl _, Nat.le_refl _, Nat.le_refl _⟩ (Nat.le_of_ble_eq_true rfl) ?_
        intro r10 rf m9 hrf h hr10
        refine G_if_eq pX10_first_43 (fun c11 => ?_) (fun c11 => ?_)
        · have h := h.1 c11
          obtain ⟨v12, e12⟩ : ∃ z : Int32, z = x3 + (1 : Int32) := ⟨_, rfl⟩
          have h := h v12 e12
          refine G_iincW (L' := [some (.ref 76), some (.int x1), some (.int x2), some (.int v12), some (.int r6)]) pX10_first_61 rfl ic_1 e12.symm rfl ?_
          refine G_goto pX10_first_64 ?_
          refine G_wk (L2 := [some (.ref 76), some (.int x1), some (.int x2), some (.int v12), none]) ⟨Or.inr rfl, Or.inr rfl, Or.inr rfl, Or.inr rfl, Or.inl rfl, trivial⟩ ?_
          exact hX6 _ _ _ _ _ hrf h
        · have h := h.2 c11
          refine G_iload_n (i := 1) pX10_first_46 rfl rfl ?_
          refine G_if_lt pX10_first_47 (fun c13 => ?_) (fun c13 => ?_)
          · have h := h.1 c13
            refine G_wk (L2 := [some (.ref 76), none, none, some (.int x3), some (.int r6)]) ⟨Or.inr rfl, Or.inl rfl, Or.inl rfl, Or.inr rfl, Or.inr rfl, trivial⟩ ?_
            exact gB_X10_first_56 hrf x3 r6 hX6 _ h
          · have h := h.2 c13
            refine G_iload (i := 4) pX10_first_50 rfl ?_
            refine G_iload_n (i := 2) pX10_first_52 rfl rfl ?_
            refine G_icmp_ge pX10_first_53 (fun c14 => ?_) (fun c14 => ?_)
            · have h := h.1 c14
              obtain ⟨v15, e15⟩ : ∃ z : Int32, z = x3 + (1 : Int32) := ⟨_, rfl⟩
              have h := h v15 e15
              refine G_iincW (L' := [some (.ref 76), some (.int x1), some (.int x2), some (.int v15), some (.int r6)]) pX10_first_61 rfl ic_1 e15.symm rfl ?_
              refine G_goto pX10_first_64 ?_
              refine G_wk (L2 := [some (.ref 76), some (.int x1), some (.int x2), some (.int v15), none]) ⟨Or.inr rfl, Or.inr rfl, Or.inr rfl, Or.inr rfl, Or.inl rfl, trivial⟩ ?_
              exact hX6 _ _ _ _ _ hrf h
            · have h := h.2 c14
              refine G_wk (L2 := [some (.ref 76), none, none, some (.int x3), some (.int r6)]) ⟨Or.inr rfl, Or.inl rfl, Or.inl rfl, Or.inr rfl, Or.inr rfl, trivial⟩ ?_
              exact gB_X10_first_56 hrf x3 r6 hX6 _ h
  exact key n rf _ _ _ _ hrf h0
def L_X10_first (mem : MMt) (Q : Int32 → MMt → Prop) : Prop := B_X10_first_6 (-1 : Int32) (0 : Int32) (0 : Int32) mem Q
set_option maxRecDepth 4000 in
theorem g_X10_first {sx : Nat × (Nat → Int32)} {rf : RFt} {Q : Int32 → MMt → Prop} (hrf : RFok rf) (mem : MMt) (h : L_X10_first mem Q) : Ct sx yX10_first cX10_first 5 (some .int) 8 [.ref 76] NX NX rf mem (QQi (RFok) Q) := by
  refine Ct_of [some (.ref 76), none, none, none, none] (by decide +kernel) (by simp [Lof, Value.category]) rfl ?_
  unfold L_X10_first at h
  refine G_iconst pX10_first_0 ic_m1 ?_
  refine G_istore_n (i := 1) (L' := [some (.ref 76), some (.int (-1 : Int32)), none, none, none]) pX10_first_1 rfl rfl ?_
  refine G_iconst pX10_first_2 ic_0 ?_
  refine G_istore_n (i := 2) (L' := [some (.ref 76), some (.int (-1 : Int32)), some (.int (0 : Int32)), none, none]) pX10_first_3 rfl rfl ?_
  refine G_iconst pX10_first_4 ic_0 ?_
  refine G_istore_n (i := 3) (L' := [some (.ref 76), some (.int (-1 : Int32)), some (.int (0 : Int32)), some (.int (0 : Int32)), none]) pX10_first_5 rfl rfl ?_
  exact gB_X10_first_6 hrf (-1 : Int32) (0 : Int32) (0 : Int32) _ h
def B_X10_overBy_77 (x1 : Int32) (x4 : Int32) (x5 : Int32) (x6 : Int32) (mem : MMt) (Q : Int32 → MMt → Prop) : Prop := L_X10_sets x1 (2 : Int32) x4 mem (fun m1 => L_X10_sets x1 (3 : Int32) x5 m1 (fun m2 => (((100 : Int32) < x6 → Q (-1 : Int32) m2) ∧ (¬ (100 : Int32) < x6 → Q x6 m2))))
set_option maxRecDepth 4000 in
theorem gB_X10_overBy_77 {sx : Nat × (Nat → Int32)} {rf : RFt} {Q : Int32 → MMt → Prop} (hrf : RFok rf) (x1 : Int32) (x4 : Int32) (x5 : Int32) (x6 : Int32) (mem : MMt) (h : B_X10_overBy_77 x1 x4 x5 x6 mem Q) : G sx yX10_overBy cX10_overBy 7 (some .int) 6 NX NX (QQi (RFok) Q) NX rf mem 77 [some (.ref 76), some (.int x1), none, none, some (.int x4), some (.int x5), some (.int x6)] [] := by
  unfold B_X10_overBy_77 at h
  refine G_aload_n (i := 0) pX10_overBy_77 rfl rfl ?_
  refine G_iload_n (i := 1) pX10_overBy_78 rfl rfl ?_
  refine G_iconst pX10_overBy_79 ic_2 ?_
  refine G_iload (i := 4) pX10_overBy_80 rfl ?_
  refine G_callV3v (b := 76) (ci := 10) (N := 29) pX10_overBy_82 (g_X10_sets x1 (2 : Int32) x4 hrf _ h) mV_X10_sets ml_RX10_83 (by decide) ⟨Nat.le_refl _, Nat.le_refl _, Nat.le_refl _⟩ (Nat.le_of_ble_eq_true rfl) ltk_76 shk_76 rfl ?_
  intro rf m1 hrf h
  refine G_aload_n (i := 0) pX10_overBy_85 rfl rfl ?_
  refine G_iload_n (i := 1) pX10_overBy_86 rfl rfl ?_
  refine G_iconst pX10_overBy_87 ic_3 ?_
  refine G_iload (i := 5) pX10_overBy_88 rfl ?_
  refine G_callV3v (b := 76) (ci := 10) (N := 29) pX10_overBy_90 (g_X10_sets x1 (3 : Int32) x5 hrf _ h) mV_X10_sets ml_RX10_83 (by decide) ⟨Nat.le_refl _, Nat.le_refl _, Nat.le_refl _⟩ (Nat.le_of_ble_eq_true rfl) ltk_76 shk_76 rfl ?_
  intro rf m2 hrf h
  refine G_iload (i := 6) pX10_overBy_93 rfl ?_
  refine G_bipush pX10_overBy_95 bi_100 ?_
  refine G_icmp_gt pX10_overBy_97 (fun c3 => ?_) (fun c3 => ?_)
  · have h := h.1 c3
    refine G_iconst pX10_overBy_105 ic_m1 ?_
    exact G_ireturn (len := 1) pX10_overBy_106 ⟨hrf, _, rfl, h⟩ ⟨_, rfl, rfl⟩
  · have h := h.2 c3
    refine G_iload (i := 6) pX10_overBy_100 rfl ?_
    refine G_goto pX10_overBy_102 ?_
    exact G_ireturn (len := 1) pX10_overBy_106 ⟨hrf, _, rfl, h⟩ ⟨_, rfl, rfl⟩
def B_X10_overBy_26 (x1 : Int32) (x2 : Int32) (x4 : Int32) (x5 : Int32) (x6 : Int32) (mem : MMt) (Q : Int32 → MMt → Prop) : Prop := LOOP (σ := Int32 × MMt) (fun X26 z => (fun (x6 : Int32) (mem : MMt) => (((100 : Int32) < x6 → B_X10_overBy_77 x1 x4 x5 x6 mem Q) ∧ (¬ (100 : Int32) < x6 → L_X10_of x1 (2 : Int32) mem (fun r3 m2 => ((r3 = ((40 : Int32) * x2) → B_X10_overBy_77 x1 x4 x5 x6 m2 Q) ∧ (¬ r3 = ((40 : Int32) * x2) → L_X10_looksAhead x1 m2 (fun m5 => L_X10_sets x1 (2 : Int32) (m5 76 12) m5 (fun m6 => L_X10_sets x1 (3 : Int32) (m6 76 13) m6 (fun m7 => (∀ v8 : Int32, v8 = x6 + (1 : Int32) → X26 (v8, m7))))))))))) z.1 z.2) (x6, mem)
set_option maxRecDepth 4000 in
theorem gB_X10_overBy_26 {sx : Nat × (Nat → Int32)} {rf : RFt} {Q : Int32 → MMt → Prop} (hrf : RFok rf) (x1 : Int32) (x2 : Int32) (x4 : Int32) (x5 : Int32) (x6 : Int32) (mem : MMt) (h : B_X10_overBy_26 x1 x2 x4 x5 x6 mem Q) : G sx yX10_overBy cX10_overBy 7 (some .int) 6 NX NX (QQi (RFok) Q) NX rf mem 26 [some (.ref 76), some (.int x1), some (.int x2), none, some (.int x4), some (.int x5), some (.int x6)] [] := by
  obtain ⟨I, ⟨n, h0⟩, hI⟩ := h
  have key : ∀ (n : Nat) (rf : RFt) (x6 : Int32) (mem : MMt), RFok rf → I n (x6, mem) → G sx yX10_overBy cX10_overBy 7 (some .int) 6 NX NX (QQi (RFok) Q) NX rf mem 26 [some (.ref 76), some (.int x1), some (.int x2), none, some (.int x4), some (.int x5), some (.int x6)] [] := by
    intro n
    induction n using Nat.strongRecOn with
    | _ n ih =>
    intro rf x6 mem hrf h0
    have hX26 : ∀ (rf : RFt) (x6 : Int32) (mem : MMt), RFok rf → (fun s' => ∃ m, m < n ∧ I m s') (x6, mem) → G sx yX10_overBy cX10_overBy 7 (some .int) 6 NX NX (QQi (RFok) Q) NX rf mem 26 [some (.ref 76), some (.int x1), some (.int x2), none, some (.int x4), some (.int x5), some (.int x6)] [] := fun rf x6 mem hrf ⟨m, hm, hi⟩ => ih m hm rf x6 mem hrf hi
    have h := hI n _ h0
    clear ih h0
    try dsimp only at h
    refine G_iload (i := 6) pX10_overBy_26 rfl ?_
    refine G_bipush pX10_overBy_28 bi_100 ?_
    refine G_icmp_gt pX10_overBy_30 (fun c1 => ?_) (fun c1 => ?_)
    · have h := h.1 c1
      refine G_wk (L2 := [some (.ref 76), some (.int x1), none, none, some (.int x4), some (.int x5), some (.int x6)]) ⟨Or.inr rfl, Or.inr rfl, Or.inl rfl, Or.inr rfl, Or.inr rfl, Or.inr rfl, Or.inr rfl, trivial⟩ ?_
      exact gB_X10_overBy_77 hrf x1 x4 x5 x6 _ h
    · have h := h.2 c1
      refine G_aload_n (i := 0) pX10_overBy_33 rfl rfl ?_
      refine G_iload_n (i := 1) pX10_overBy_34 rfl rfl ?_
      refine G_iconst pX10_overBy_35 ic_2 ?_
      refine G_callV2i (b := 76) (ci := 10) (N := 29) pX10_overBy_36 (g_X10_of x1 (2 : Int32) hrf _ h) mV_X10_of ml_RX10_61 (by decide) ⟨Nat.le_refl _, Nat.le_refl _, Nat.le_refl _⟩ (Nat.le_of_ble_eq_true rfl) ltk_76 shk_76 rfl ?_
      intro r3 rf m2 hrf h hr3
      refine G_bipush pX10_overBy_39 bi_40 ?_
      refine G_iload_n (i := 2) pX10_overBy_41 rfl rfl ?_
      refine G_imul pX10_overBy_42 ?_
      refine G_icmp_eq pX10_overBy_43 (fun c4 => ?_) (fun c4 => ?_)
      · have h := h.1 c4
        refine G_wk (L2 := [some (.ref 76), some (.int x1), none, none, some (.int x4), some (.int x5), some (.int x6)]) ⟨Or.inr rfl, Or.inr rfl, Or.inl rfl, Or.inr rfl, Or.inr rfl, Or.inr rfl, Or.inr rfl, trivial⟩ ?_
        exact gB_X10_overBy_77 hrf x1 x4 x5 x6 _ h
      · have h := h.2 c4
        refine G_aload_n (i := 0) pX10_overBy_46 rfl rfl ?_
        refine G_iload_n (i := 1) pX10_overBy_47 rfl rfl ?_
        refine G_callV1v (b := 76) (ci := 10) (N := 29) pX10_overBy_48 (g_X10_looksAhead x1 hrf _ h) mV_X10_looksAhead ml_RX10_201 (by decide) ⟨Nat.le_refl _, Nat.le_refl _, Nat.le_refl _⟩ (Nat.le_of_ble_eq_true rfl) ltk_76 shk_76 rfl ?_
        intro rf m5 hrf h
        refine G_aload_n (i := 0) pX10_overBy_51 rfl rfl ?_
        refine G_iload_n (i := 1) pX10_overBy_52 rfl rfl ?_
        refine G_iconst pX10_overBy_53 ic_2 ?_
        refine G_aload_n (i := 0) pX10_overBy_54 rfl rfl ?_
        refine G_getI (ci := 10) (j := 12) (N := 29) pX10_overBy_55 fl_RX10_195 rfl ltk_76 shk_76 (by decide) rfl ?_
        refine G_callV3v (b := 76) (ci := 10) (N := 29) pX10_overBy_58 (g_X10_sets x1 (2 : Int32) (m5 76 12) hrf _ h) mV_X10_sets ml_RX10_83 (by decide) ⟨Nat.le_refl _, Nat.le_refl _, Nat.le_refl _⟩ (Nat.le_of_ble_eq_true rfl) ltk_76 shk_76 rfl ?_
        intro rf m6 hrf h
        refine G_aload_n (i := 0) pX10_overBy_61 rfl rfl ?_
        refine G_iload_n (i := 1) pX10_overBy_62 rfl rfl ?_
        refine G_iconst pX10_overBy_63 ic_3 ?_
        refine G_aload_n (i := 0) pX10_overBy_64 rfl rfl ?_
        refine G_getI (ci := 10) (j := 13) (N := 29) pX10_overBy_65 fl_RX10_198 rfl ltk_76 shk_76 (by decide) rfl ?_
        refine G_callV3v (b := 76) (ci := 10) (N := 29) pX10_overBy_68 (g_X10_sets x1 (3 : Int32) (m6 76 13) hrf _ h) mV_X10_sets ml_RX10_83 (by decide) ⟨Nat.le_refl _, Nat.le_refl _, Nat.le_refl _⟩ (Nat.le_of_ble_eq_true rfl) ltk_76 shk_76 rfl ?_
        intro rf m7 hrf h
        obtain ⟨v8, e8⟩ : ∃ z : Int32, z = x6 + (1 : Int32) := ⟨_, rfl⟩
        have h := h v8 e8
        refine G_iincW (L' := [some (.ref 76), some (.int x1), some (.int x2), none, some (.int x4), some (.int x5), some (.int v8)]) pX10_overBy_71 rfl ic_1 e8.symm rfl ?_
        refine G_goto pX10_overBy_74 ?_
        exact hX26 _ _ _ hrf h
  exact key n rf _ _ hrf h0
def L_X10_overBy (a1 : Int32) (a2 : Int32) (a3 : Int32) (mem : MMt) (Q : Int32 → MMt → Prop) : Prop := L_X10_of a1 (2 : Int32) mem (fun r2 m1 => L_X10_of a1 (3 : Int32) m1 (fun r4 m3 => L_X10_pushed a1 a3 m3 (fun r6 m5 => B_X10_overBy_26 a1 a2 r2 r4 (0 : Int32) m5 Q)))
set_option maxRecDepth 4000 in
theorem g_X10_overBy {sx : Nat × (Nat → Int32)} {rf : RFt} {Q : Int32 → MMt → Prop} (a1 : Int32) (a2 : Int32) (a3 : Int32) (hrf : RFok rf) (mem : MMt) (h : L_X10_overBy a1 a2 a3 mem Q) : Ct sx yX10_overBy cX10_overBy 7 (some .int) 6 [.ref 76, .int a1, .int a2, .int a3] NX NX rf mem (QQi (RFok) Q) := by
  refine Ct_of [some (.ref 76), some (.int a1), some (.int a2), some (.int a3), none, none, none] (by decide +kernel) (by simp [Lof, Value.category]) rfl ?_
  unfold L_X10_overBy at h
  refine G_aload_n (i := 0) pX10_overBy_0 rfl rfl ?_
  refine G_iload_n (i := 1) pX10_overBy_1 rfl rfl ?_
  refine G_iconst pX10_overBy_2 ic_2 ?_
  refine G_callV2i (b := 76) (ci := 10) (N := 29) pX10_overBy_3 (g_X10_of a1 (2 : Int32) hrf _ h) mV_X10_of ml_RX10_61 (by decide) ⟨Nat.le_refl _, Nat.le_refl _, Nat.le_refl _⟩ (Nat.le_of_ble_eq_true rfl) ltk_76 shk_76 rfl ?_
  intro r2 rf m1 hrf h hr2
  refine G_istore (i := 4) (L' := [some (.ref 76), some (.int a1), some (.int a2), some (.int a3), some (.int r2), none, none]) pX10_overBy_6 rfl ?_
  refine G_aload_n (i := 0) pX10_overBy_8 rfl rfl ?_
  refine G_iload_n (i := 1) pX10_overBy_9 rfl rfl ?_
  refine G_iconst pX10_overBy_10 ic_3 ?_
  refine G_callV2i (b := 76) (ci := 10) (N := 29) pX10_overBy_11 (g_X10_of a1 (3 : Int32) hrf _ h) mV_X10_of ml_RX10_61 (by decide) ⟨Nat.le_refl _, Nat.le_refl _, Nat.le_refl _⟩ (Nat.le_of_ble_eq_true rfl) ltk_76 shk_76 rfl ?_
  intro r4 rf m3 hrf h hr4
  refine G_istore (i := 5) (L' := [some (.ref 76), some (.int a1), some (.int a2), some (.int a3), some (.int r2), some (.int r4), none]) pX10_overBy_14 rfl ?_
  refine G_aload_n (i := 0) pX10_overBy_16 rfl rfl ?_
  refine G_iload_n (i := 1) pX10_overBy_17 rfl rfl ?_
  refine G_iload_n (i := 3) pX10_overBy_18 rfl rfl ?_
  refine G_callV2i (b := 76) (ci := 10) (N := 29) pX10_overBy_19 (g_X10_pushed a1 a3 hrf _ h) mV_X10_pushed ml_RX10_119 (by decide) ⟨Nat.le_refl _, Nat.le_refl _, Nat.le_refl _⟩ (Nat.le_of_ble_eq_true rfl) ltk_76 shk_76 rfl ?_
  intro r6 rf m5 hrf h hr6
  refine G_pop pX10_overBy_22 rfl ?_
  refine G_iconst pX10_overBy_23 ic_0 ?_
  refine G_istore (i := 6) (L' := [some (.ref 76), some (.int a1), some (.int a2), some (.int a3), some (.int r2), some (.int r4), some (.int (0 : Int32))]) pX10_overBy_24 rfl ?_
  refine G_wk (L2 := [some (.ref 76), some (.int a1), some (.int a2), none, some (.int r2), some (.int r4), some (.int (0 : Int32))]) ⟨Or.inr rfl, Or.inr rfl, Or.inr rfl, Or.inl rfl, Or.inr rfl, Or.inr rfl, Or.inr rfl, trivial⟩ ?_
  exact gB_X10_overBy_26 hrf a1 a2 r2 r4 (0 : Int32) _ h
def L_X10_over (a1 : Int32) (a2 : Int32) (a3 : Int32) (mem : MMt) (Q : Int32 → MMt → Prop) : Prop := L_X10_isGood a1 mem (fun r2 m1 => ((r2 = 0 → L_X10_error (1 : Int32) m1 (fun r5 m4 => Q r5 m4)) ∧ (¬ r2 = 0 → L_X10_isSide a2 m1 (fun r7 m6 => ((r7 = 0 → L_X10_error (1 : Int32) m6 (fun r10 m9 => Q r10 m9)) ∧ (¬ r7 = 0 → L_X10_isPush a3 m6 (fun r12 m11 => ((¬ r12 = 0 → L_X10_overBy a1 a2 a3 m11 (fun r15 m14 => ((0 ≤ r15 → Q r15 m14) ∧ (¬ 0 ≤ r15 → L_X10_error (2 : Int32) m14 (fun r18 m17 => Q r18 m17))))) ∧ (r12 = 0 → L_X10_error (1 : Int32) m11 (fun r20 m19 => Q r20 m19))))))))))
set_option maxRecDepth 4000 in
theorem g_X10_over {sx : Nat × (Nat → Int32)} {rf : RFt} {Q : Int32 → MMt → Prop} (a1 : Int32) (a2 : Int32) (a3 : Int32) (hrf : RFok rf) (mem : MMt) (h : L_X10_over a1 a2 a3 mem Q) : Ct sx yX10_over cX10_over 5 (some .int) 7 [.ref 76, .int a1, .int a2, .int a3] NX NX rf mem (QQi (RFok) Q) := by
  refine Ct_of [some (.ref 76), some (.int a1), some (.int a2), some (.int a3), none] (by decide +kernel) (by simp [Lof, Value.category]) rfl ?_
  unfold L_X10_over at h
  refine G_aload_n (i := 0) pX10_over_0 rfl rfl ?_
  refine G_iload_n (i := 1) pX10_over_1 rfl rfl ?_
  refine G_callV1i (b := 76) (ci := 10) (N := 29) pX10_over_2 (g_X10_isGood a1 hrf _ h) mV_X10_isGood ml_RX10_87 (by decide) ⟨Nat.le_refl _, Nat.le_refl _, Nat.le_refl _⟩ (Nat.le_of_ble_eq_true rfl) ltk_76 shk_76 rfl ?_
  intro r2 rf m1 hrf h hr2
  refine G_if_eq pX10_over_5 (fun c3 => ?_) (fun c3 => ?_)
  · have h := h.1 c3
    refine G_aload_n (i := 0) pX10_over_22 rfl rfl ?_
    refine G_iconst pX10_over_23 ic_1 ?_
    refine G_callV1i (b := 76) (ci := 10) (N := 29) pX10_over_24 (g_X10_error (1 : Int32) hrf _ h) mV_X10_error ml_RX10_79 (by decide) ⟨Nat.le_refl _, Nat.le_refl _, Nat.le_refl _⟩ (Nat.le_of_ble_eq_true rfl) ltk_76 shk_76 rfl ?_
    intro r5 rf m4 hrf h hr5
    exact G_ireturn (len := 1) pX10_over_27 ⟨hrf, _, rfl, h⟩ ⟨_, rfl, rfl⟩
  · have h := h.2 c3
    refine G_iload_n (i := 2) pX10_over_8 rfl rfl ?_
    refine G_callS1i pX10_over_9 (g_X10_isSide a2 hrf _ h) mS_X10_isSide ml_RX10_126 (by decide) ⟨Nat.le_refl _, Nat.le_refl _, Nat.le_refl _⟩ (Nat.le_of_ble_eq_true rfl) ?_
    intro r7 rf m6 hrf h hr7
    refine G_if_eq pX10_over_12 (fun c8 => ?_) (fun c8 => ?_)
    · have h := h.1 c8
      refine G_aload_n (i := 0) pX10_over_22 rfl rfl ?_
      refine G_iconst pX10_over_23 ic_1 ?_
      refine G_callV1i (b := 76) (ci := 10) (N := 29) pX10_over_24 (g_X10_error (1 : Int32) hrf _ h) mV_X10_error ml_RX10_79 (by decide) ⟨Nat.le_refl _, Nat.le_refl _, Nat.le_refl _⟩ (Nat.le_of_ble_eq_true rfl) ltk_76 shk_76 rfl ?_
      intro r10 rf m9 hrf h hr10
      exact G_ireturn (len := 1) pX10_over_27 ⟨hrf, _, rfl, h⟩ ⟨_, rfl, rfl⟩
    · have h := h.2 c8
      refine G_iload_n (i := 3) pX10_over_15 rfl rfl ?_
      refine G_callS1i pX10_over_16 (g_X10_isPush a3 hrf _ h) mS_X10_isPush ml_RX10_116 (by decide) ⟨Nat.le_refl _, Nat.le_refl _, Nat.le_refl _⟩ (Nat.le_of_ble_eq_true rfl) ?_
      intro r12 rf m11 hrf h hr12
      refine G_if_ne pX10_over_19 (fun c13 => ?_) (fun c13 => ?_)
      · have h := h.1 c13
        refine G_aload_n (i := 0) pX10_over_28 rfl rfl ?_
        refine G_iload_n (i := 1) pX10_over_29 rfl rfl ?_
        refine G_iload_n (i := 2) pX10_over_30 rfl rfl ?_
        refine G_iload_n (i := 3) pX10_over_31 rfl rfl ?_
        refine G_callV3i (b := 76) (ci := 10) (N := 29) pX10_over_32 (g_X10_overBy a1 a2 a3 hrf _ h) mV_X10_overBy ml_RX10_240 (by decide) ⟨Nat.le_refl _, Nat.le_refl _, Nat.le_refl _⟩ (Nat.le_of_ble_eq_true rfl) ltk_76 shk_76 rfl ?_
        intro r15 rf m14 hrf h hr15
        refine G_istore (i := 4) (L' := [some (.ref 76), some (.int a1), some (.int a2), some (.int a3), some (.int r15)]) pX10_over_35 rfl ?_
        refine G_iload (i := 4) pX10_over_37 rfl ?_
        refine G_if_ge pX10_over_39 (fun c16 => ?_) (fun c16 => ?_)
        · have h := h.1 c16
          refine G_iload (i := 4) pX10_over_50 rfl ?_
          exact G_ireturn (len := 1) pX10_over_52 ⟨hrf, _, rfl, h⟩ ⟨_, rfl, rfl⟩
        · have h := h.2 c16
          refine G_aload_n (i := 0) pX10_over_42 rfl rfl ?_
          refine G_iconst pX10_over_43 ic_2 ?_
          refine G_callV1i (b := 76) (ci := 10) (N := 29) pX10_over_44 (g_X10_error (2 : Int32) hrf _ h) mV_X10_error ml_RX10_79 (by decide) ⟨Nat.le_refl _, Nat.le_refl _, Nat.le_refl _⟩ (Nat.le_of_ble_eq_true rfl) ltk_76 shk_76 rfl ?_
          intro r18 rf m17 hrf h hr18
          refine G_goto pX10_over_47 ?_
          exact G_ireturn (len := 1) pX10_over_52 ⟨hrf, _, rfl, h⟩ ⟨_, rfl, rfl⟩
      · have h := h.2 c13
        refine G_aload_n (i := 0) pX10_over_22 rfl rfl ?_
        refine G_iconst pX10_over_23 ic_1 ?_
        refine G_callV1i (b := 76) (ci := 10) (N := 29) pX10_over_24 (g_X10_error (1 : Int32) hrf _ h) mV_X10_error ml_RX10_79 (by decide) ⟨Nat.le_refl _, Nat.le_refl _, Nat.le_refl _⟩ (Nat.le_of_ble_eq_true rfl) ltk_76 shk_76 rfl ?_
        intro r20 rf m19 hrf h hr20
        exact G_ireturn (len := 1) pX10_over_27 ⟨hrf, _, rfl, h⟩ ⟨_, rfl, rfl⟩
def L_X10_pushOf (a1 : Int32) (mem : MMt) (Q : Int32 → MMt → Prop) : Prop := ((¬ (a1 - a1 / (2 : Int32) * (2 : Int32)) = (1 : Int32) → Q (a1 / (2 : Int32)) mem) ∧ ((a1 - a1 / (2 : Int32) * (2 : Int32)) = (1 : Int32) → Q ((-(a1 + (1 : Int32))) / (2 : Int32)) mem))
set_option maxRecDepth 4000 in
theorem g_X10_pushOf {sx : Nat × (Nat → Int32)} {M : RFt → Prop} {rf : RFt} {Q : Int32 → MMt → Prop} (a1 : Int32) (hrf : M rf) (mem : MMt) (h : L_X10_pushOf a1 mem Q) : Ct sx yX10_pushOf cX10_pushOf 1 (some .int) 1 [.int a1] NX NX rf mem (QQi (M) Q) := by
  refine Ct_of [some (.int a1)] (by decide +kernel) (by simp [Lof, Value.category]) rfl ?_
  unfold L_X10_pushOf at h
  refine G_iload_n (i := 0) pX10_pushOf_0 rfl rfl ?_
  refine G_iconst pX10_pushOf_1 ic_2 ?_
  refine G_irem pX10_pushOf_2 (by decide) ?_
  refine G_iconst pX10_pushOf_3 ic_1 ?_
  refine G_icmp_ne pX10_pushOf_4 (fun c1 => ?_) (fun c1 => ?_)
  · have h := h.1 c1
    refine G_iload_n (i := 0) pX10_pushOf_16 rfl rfl ?_
    refine G_iconst pX10_pushOf_17 ic_2 ?_
    refine G_idiv pX10_pushOf_18 (by decide) ?_
    exact G_ireturn (len := 1) pX10_pushOf_19 ⟨hrf, _, rfl, h⟩ ⟨_, rfl, rfl⟩
  · have h := h.2 c1
    refine G_iload_n (i := 0) pX10_pushOf_7 rfl rfl ?_
    refine G_iconst pX10_pushOf_8 ic_1 ?_
    refine G_iadd pX10_pushOf_9 ?_
    refine G_ineg pX10_pushOf_10 ?_
    refine G_iconst pX10_pushOf_11 ic_2 ?_
    refine G_idiv pX10_pushOf_12 (by decide) ?_
    refine G_goto pX10_pushOf_13 ?_
    exact G_ireturn (len := 1) pX10_pushOf_19 ⟨hrf, _, rfl, h⟩ ⟨_, rfl, rfl⟩
def B_X10_soonest_77 (X40 : Int32 × Int32 × Int32 × MMt → Prop) (x1 : Int32) (x2 : Int32) (x3 : Int32) (x6 : Int32) (x7 : Int32) (mem : MMt) (Q : Int32 → MMt → Prop) : Prop := L_X10_pushOf x6 mem (fun r2 m1 => (∀ v3 : Int32, v3 = x6 + (1 : Int32) → X40 (x7, r2, v3, m1)))
set_option maxRecDepth 4000 in
theorem gB_X10_soonest_77 {sx : Nat × (Nat → Int32)} {X40 : Int32 × Int32 × Int32 × MMt → Prop} {rf : RFt} {Q : Int32 → MMt → Prop} (hrf : RFok rf) (x1 : Int32) (x2 : Int32) (x3 : Int32) (x6 : Int32) (x7 : Int32) (hX40 : ∀ (rf : RFt) (x4 : Int32) (x5 : Int32) (x6 : Int32) (mem : MMt), RFok rf → X40 (x4, x5, x6, mem) → G sx yX10_soonest cX10_soonest 8 (some .int) 7 NX NX (QQi (RFok) Q) NX rf mem 40 [some (.ref 76), some (.int x1), some (.int x2), some (.int x3), some (.int x4), some (.int x5), some (.int x6), none] []) (mem : MMt) (h : B_X10_soonest_77 X40 x1 x2 x3 x6 x7 mem Q) : G sx yX10_soonest cX10_soonest 8 (some .int) 7 NX NX (QQi (RFok) Q) NX rf mem 77 [some (.ref 76), some (.int x1), some (.int x2), some (.int x3), none, none, some (.int x6), some (.int x7)] [] := by
  unfold B_X10_soonest_77 at h
  refine G_iload (i := 7) pX10_soonest_77 rfl ?_
  refine G_istore (i := 4) (L' := [some (.ref 76), some (.int x1), some (.int x2), some (.int x3), some (.int x7), none, some (.int x6), some (.int x7)]) pX10_soonest_79 rfl ?_
  refine G_iload (i := 6) pX10_soonest_81 rfl ?_
  refine G_callS1i pX10_soonest_83 (g_X10_pushOf x6 hrf _ h) mS_X10_pushOf ml_RX10_243 (by decide) ⟨Nat.le_refl _, Nat.le_refl _, Nat.le_refl _⟩ (Nat.le_of_ble_eq_true rfl) ?_
  intro r2 rf m1 hrf h hr2
  refine G_istore (i := 5) (L' := [some (.ref 76), some (.int x1), some (.int x2), some (.int x3), some (.int x7), some (.int r2), some (.int x6), some (.int x7)]) pX10_soonest_86 rfl ?_
  obtain ⟨v3, e3⟩ : ∃ z : Int32, z = x6 + (1 : Int32) := ⟨_, rfl⟩
  have h := h v3 e3
  refine G_iincW (L' := [some (.ref 76), some (.int x1), some (.int x2), some (.int x3), some (.int x7), some (.int r2), some (.int v3), some (.int x7)]) pX10_soonest_88 rfl ic_1 e3.symm rfl ?_
  refine G_goto pX10_soonest_91 ?_
  refine G_wk (L2 := [some (.ref 76), some (.int x1), some (.int x2), some (.int x3), some (.int x7), some (.int r2), some (.int v3), none]) ⟨Or.inr rfl, Or.inr rfl, Or.inr rfl, Or.inr rfl, Or.inr rfl, Or.inr rfl, Or.inr rfl, Or.inl rfl, trivial⟩ ?_
  exact hX40 _ _ _ _ _ hrf h
def B_X10_soonest_40 (x1 : Int32) (x2 : Int32) (x3 : Int32) (x4 : Int32) (x5 : Int32) (x6 : Int32) (mem : MMt) (Q : Int32 → MMt → Prop) : Prop := LOOP (σ := Int32 × Int32 × Int32 × MMt) (fun X40 z => (fun (x4 : Int32) (x5 : Int32) (x6 : Int32) (mem : MMt) => (((19 : Int32) ≤ x6 → ((0 ≤ x4 → ((¬ x3 = 0 → Q x4 mem) ∧ (x3 = 0 → Q x5 mem))) ∧ (¬ 0 ≤ x4 → L_X10_error (2 : Int32) mem (fun r5 m4 => Q r5 m4)))) ∧ (¬ (19 : Int32) ≤ x6 → L_X10_pushOf x6 mem (fun r7 m6 => L_X10_overBy x1 x2 r7 m6 (fun r9 m8 => ((r9 < 0 → (∀ v11 : Int32, v11 = x6 + (1 : Int32) → X40 (x4, x5, v11, m8))) ∧ (¬ r9 < 0 → ((x4 < 0 → B_X10_soonest_77 X40 x1 x2 x3 x6 r9 m8 Q) ∧ (¬ x4 < 0 → ((x4 ≤ r9 → (∀ v14 : Int32, v14 = x6 + (1 : Int32) → X40 (x4, x5, v14, m8))) ∧ (¬ x4 ≤ r9 → B_X10_soonest_77 X40 x1 x2 x3 x6 r9 m8 Q))))))))))) z.1 z.2.1 z.2.2.1 z.2.2.2) (x4, x5, x6, mem)
set_option maxRecDepth 4000 in
theorem gB_X10_soonest_40 {sx : Nat × (Nat → Int32)} {rf : RFt} {Q : Int32 → MMt → Prop} (hrf : RFok rf) (x1 : Int32) (x2 : Int32) (x3 : Int32) (x4 : Int32) (x5 : Int32) (x6 : Int32) (mem : MMt) (h : B_X10_soonest_40 x1 x2 x3 x4 x5 x6 mem Q) : G sx yX10_soonest cX10_soonest 8 (some .int) 7 NX NX (QQi (RFok) Q) NX rf mem 40 [some (.ref 76), some (.int x1), some (.int x2), some (.int x3), some (.int x4), some (.int x5), some (.int x6), none] [] := by
  obtain ⟨I, ⟨n, h0⟩, hI⟩ := h
  have key : ∀ (n : Nat) (rf : RFt) (x4 : Int32) (x5 : Int32) (x6 : Int32) (mem : MMt), RFok rf → I n (x4, x5, x6, mem) → G sx yX10_soonest cX10_soonest 8 (some .int) 7 NX NX (QQi (RFok) Q) NX rf mem 40 [some (.ref 76), some (.int x1), some (.int x2), some (.int x3), some (.int x4), some (.int x5), some (.int x6), none] [] := by
    intro n
    induction n using Nat.strongRecOn with
    | _ n ih =>
    intro rf x4 x5 x6 mem hrf h0
    have hX40 : ∀ (rf : RFt) (x4 : Int32) (x5 : Int32) (x6 : Int32) (mem : MMt), RFok rf → (fun s' => ∃ m, m < n ∧ I m s') (x4, x5, x6, mem) → G sx yX10_soonest cX10_soonest 8 (some .int) 7 NX NX (QQi (RFok) Q) NX rf mem 40 [some (.ref 76), some (.int x1), some (.int x2), some (.int x3), some (.int x4), some (.int x5), some (.int x6), none] [] := fun rf x4 x5 x6 mem hrf ⟨m, hm, hi⟩ => ih m hm rf x4 x5 x6 mem hrf hi
    have h := hI n _ h0
    clear ih h0
    try dsimp only at h
    refine G_iload (i := 6) pX10_soonest_40 rfl ?_
    refine G_bipush pX10_soonest_42 bi_19 ?_
    refine G_icmp_ge pX10_soonest_44 (fun c1 => ?_) (fun c1 => ?_)
    · have h := h.1 c1
      refine G_iload (i := 4) pX10_soonest_94 rfl ?_
      refine G_if_ge pX10_soonest_96 (fun c2 => ?_) (fun c2 => ?_)
      · have h := h.1 c2
        refine G_iload_n (i := 3) pX10_soonest_107 rfl rfl ?_
        refine G_if_ne pX10_soonest_108 (fun c3 => ?_) (fun c3 => ?_)
        · have h := h.1 c3
          refine G_iload (i := 4) pX10_soonest_116 rfl ?_
          exact G_ireturn (len := 1) pX10_soonest_118 ⟨hrf, _, rfl, h⟩ ⟨_, rfl, rfl⟩
        · have h := h.2 c3
          refine G_iload (i := 5) pX10_soonest_111 rfl ?_
          refine G_goto pX10_soonest_113 ?_
          exact G_ireturn (len := 1) pX10_soonest_118 ⟨hrf, _, rfl, h⟩ ⟨_, rfl, rfl⟩
      · have h := h.2 c2
        refine G_aload_n (i := 0) pX10_soonest_99 rfl rfl ?_
        refine G_iconst pX10_soonest_100 ic_2 ?_
        refine G_callV1i (b := 76) (ci := 10) (N := 29) pX10_soonest_101 (g_X10_error (2 : Int32) hrf _ h) mV_X10_error ml_RX10_79 (by decide) ⟨Nat.le_refl _, Nat.le_refl _, Nat.le_refl _⟩ (Nat.le_of_ble_eq_true rfl) ltk_76 shk_76 rfl ?_
        intro r5 rf m4 hrf h hr5
        refine G_goto pX10_soonest_104 ?_
        exact G_ireturn (len := 1) pX10_soonest_118 ⟨hrf, _, rfl, h⟩ ⟨_, rfl, rfl⟩
    · have h := h.2 c1
      refine G_aload_n (i := 0) pX10_soonest_47 rfl rfl ?_
      refine G_iload_n (i := 1) pX10_soonest_48 rfl rfl ?_
      refine G_iload_n (i := 2) pX10_soonest_49 rfl rfl ?_
      refine G_iload (i := 6) pX10_soonest_50 rfl ?_
      refine G_callS1i pX10_soonest_52 (g_X10_pushOf x6 hrf _ h) mS_X10_pushOf ml_RX10_243 (by decide) ⟨Nat.le_refl _, Nat.le_refl _, Nat.le_refl _⟩ (Nat.le_of_ble_eq_true rfl) ?_
      intro r7 rf m6 hrf h hr7
      refine G_callV3i (b := 76) (ci := 10) (N := 29) pX10_soonest_55 (g_X10_overBy x1 x2 r7 hrf _ h) mV_X10_overBy ml_RX10_240 (by decide) ⟨Nat.le_refl _, Nat.le_refl _, Nat.le_refl _⟩ (Nat.le_of_ble_eq_true rfl) ltk_76 shk_76 rfl ?_
      intro r9 rf m8 hrf h hr9
      refine G_istore (i := 7) (L' := [some (.ref 76), some (.int x1), some (.int x2), some (.int x3), some (.int x4), some (.int x5), some (.int x6), some (.int r9)]) pX10_soonest_58 rfl ?_
      refine G_iload (i := 7) pX10_soonest_60 rfl ?_
      refine G_if_lt pX10_soonest_62 (fun c10 => ?_) (fun c10 => ?_)
      · have h := h.1 c10
        obtain ⟨v11, e11⟩ : ∃ z : Int32, z = x6 + (1 : Int32) := ⟨_, rfl⟩
        have h := h v11 e11
        refine G_iincW (L' := [some (.ref 76), some (.int x1), some (.int x2), some (.int x3), some (.int x4), some (.int x5), some (.int v11), some (.int r9)]) pX10_soonest_88 rfl ic_1 e11.symm rfl ?_
        refine G_goto pX10_soonest_91 ?_
        refine G_wk (L2 := [some (.ref 76), some (.int x1), some (.int x2), some (.int x3), some (.int x4), some (.int x5), some (.int v11), none]) ⟨Or.inr rfl, Or.inr rfl, Or.inr rfl, Or.inr rfl, Or.inr rfl, Or.inr rfl, Or.inr rfl, Or.inl rfl, trivial⟩ ?_
        exact hX40 _ _ _ _ _ hrf h
      · have h := h.2 c10
        refine G_iload (i := 4) pX10_soonest_65 rfl ?_
        refine G_if_lt pX10_soonest_67 (fun c12 => ?_) (fun c12 => ?_)
        · have h := h.1 c12
          refine G_wk (L2 := [some (.ref 76), some (.int x1), some (.int x2), some (.int x3), none, none, some (.int x6), some (.int r9)]) ⟨Or.inr rfl, Or.inr rfl, Or.inr rfl, Or.inr rfl, Or.inl rfl, Or.inl rfl, Or.inr rfl, Or.inr rfl, trivial⟩ ?_
          exact gB_X10_soonest_77 hrf x1 x2 x3 x6 r9 hX40 _ h
        · have h := h.2 c12
          refine G_iload (i := 7) pX10_soonest_70 rfl ?_
          refine G_iload (i := 4) pX10_soonest_72 rfl ?_
          refine G_icmp_ge pX10_soonest_74 (fun c13 => ?_) (fun c13 => ?_)
          · have h := h.1 c13
            obtain ⟨v14, e14⟩ : ∃ z : Int32, z = x6 + (1 : Int32) := ⟨_, rfl⟩
            have h := h v14 e14
            refine G_iincW (L' := [some (.ref 76), some (.int x1), some (.int x2), some (.int x3), some (.int x4), some (.int x5), some (.int v14), some (.int r9)]) pX10_soonest_88 rfl ic_1 e14.symm rfl ?_
            refine G_goto pX10_soonest_91 ?_
            refine G_wk (L2 := [some (.ref 76), some (.int x1), some (.int x2), some (.int x3), some (.int x4), some (.int x5), some (.int v14), none]) ⟨Or.inr rfl, Or.inr rfl, Or.inr rfl, Or.inr rfl, Or.inr rfl, Or.inr rfl, Or.inr rfl, Or.inl rfl, trivial⟩ ?_
            exact hX40 _ _ _ _ _ hrf h
          · have h := h.2 c13
            refine G_wk (L2 := [some (.ref 76), some (.int x1), some (.int x2), some (.int x3), none, none, some (.int x6), some (.int r9)]) ⟨Or.inr rfl, Or.inr rfl, Or.inr rfl, Or.inr rfl, Or.inl rfl, Or.inl rfl, Or.inr rfl, Or.inr rfl, trivial⟩ ?_
            exact gB_X10_soonest_77 hrf x1 x2 x3 x6 r9 hX40 _ h
  exact key n rf _ _ _ _ hrf h0
def L_X10_soonest (a1 : Int32) (a2 : Int32) (a3 : Int32) (mem : MMt) (Q : Int32 → MMt → Prop) : Prop := L_X10_isGood a1 mem (fun r2 m1 => ((r2 = 0 → L_X10_error (1 : Int32) m1 (fun r5 m4 => Q r5 m4)) ∧ (¬ r2 = 0 → L_X10_isSide a2 m1 (fun r7 m6 => ((r7 = 0 → L_X10_error (1 : Int32) m6 (fun r10 m9 => Q r10 m9)) ∧ (¬ r7 = 0 → L_X10_isIn a3.toInt64 (0 : Int64) (1 : Int64) m6 (fun r12 m11 => ((¬ r12 = 0 → B_X10_soonest_40 a1 a2 a3 (-1 : Int32) (0 : Int32) (0 : Int32) m11 Q) ∧ (r12 = 0 → L_X10_error (1 : Int32) m11 (fun r15 m14 => Q r15 m14))))))))))
set_option maxRecDepth 4000 in
theorem g_X10_soonest {sx : Nat × (Nat → Int32)} {rf : RFt} {Q : Int32 → MMt → Prop} (a1 : Int32) (a2 : Int32) (a3 : Int32) (hrf : RFok rf) (mem : MMt) (h : L_X10_soonest a1 a2 a3 mem Q) : Ct sx yX10_soonest cX10_soonest 8 (some .int) 7 [.ref 76, .int a1, .int a2, .int a3] NX NX rf mem (QQi (RFok) Q) := by
  refine Ct_of [some (.ref 76), some (.int a1), some (.int a2), some (.int a3), none, none, none, none] (by decide +kernel) (by simp [Lof, Value.category]) rfl ?_
  unfold L_X10_soonest at h
  refine G_aload_n (i := 0) pX10_soonest_0 rfl rfl ?_
  refine G_iload_n (i := 1) pX10_soonest_1 rfl rfl ?_
  refine G_callV1i (b := 76) (ci := 10) (N := 29) pX10_soonest_2 (g_X10_isGood a1 hrf _ h) mV_X10_isGood ml_RX10_87 (by decide) ⟨Nat.le_refl _, Nat.le_refl _, Nat.le_refl _⟩ (Nat.le_of_ble_eq_true rfl) ltk_76 shk_76 rfl ?_
  intro r2 rf m1 hrf h hr2
  refine G_if_eq pX10_soonest_5 (fun c3 => ?_) (fun c3 => ?_)
  · have h := h.1 c3
    refine G_aload_n (i := 0) pX10_soonest_25 rfl rfl ?_
    refine G_iconst pX10_soonest_26 ic_1 ?_
    refine G_callV1i (b := 76) (ci := 10) (N := 29) pX10_soonest_27 (g_X10_error (1 : Int32) hrf _ h) mV_X10_error ml_RX10_79 (by decide) ⟨Nat.le_refl _, Nat.le_refl _, Nat.le_refl _⟩ (Nat.le_of_ble_eq_true rfl) ltk_76 shk_76 rfl ?_
    intro r5 rf m4 hrf h hr5
    exact G_ireturn (len := 1) pX10_soonest_30 ⟨hrf, _, rfl, h⟩ ⟨_, rfl, rfl⟩
  · have h := h.2 c3
    refine G_iload_n (i := 2) pX10_soonest_8 rfl rfl ?_
    refine G_callS1i pX10_soonest_9 (g_X10_isSide a2 hrf _ h) mS_X10_isSide ml_RX10_126 (by decide) ⟨Nat.le_refl _, Nat.le_refl _, Nat.le_refl _⟩ (Nat.le_of_ble_eq_true rfl) ?_
    intro r7 rf m6 hrf h hr7
    refine G_if_eq pX10_soonest_12 (fun c8 => ?_) (fun c8 => ?_)
    · have h := h.1 c8
      refine G_aload_n (i := 0) pX10_soonest_25 rfl rfl ?_
      refine G_iconst pX10_soonest_26 ic_1 ?_
      refine G_callV1i (b := 76) (ci := 10) (N := 29) pX10_soonest_27 (g_X10_error (1 : Int32) hrf _ h) mV_X10_error ml_RX10_79 (by decide) ⟨Nat.le_refl _, Nat.le_refl _, Nat.le_refl _⟩ (Nat.le_of_ble_eq_true rfl) ltk_76 shk_76 rfl ?_
      intro r10 rf m9 hrf h hr10
      exact G_ireturn (len := 1) pX10_soonest_30 ⟨hrf, _, rfl, h⟩ ⟨_, rfl, rfl⟩
    · have h := h.2 c8
      refine G_iload_n (i := 3) pX10_soonest_15 rfl rfl ?_
      refine G_i2l pX10_soonest_16 ?_
      refine G_lconst pX10_soonest_17 lc_0 ?_
      refine G_lconst pX10_soonest_18 lc_1 ?_
      refine G_callS3i pX10_soonest_19 (g_X10_isIn a3.toInt64 (0 : Int64) (1 : Int64) hrf _ h) mS_X10_isIn ml_RX10_53 (by decide) ⟨Nat.le_refl _, Nat.le_refl _, Nat.le_refl _⟩ (Nat.le_of_ble_eq_true rfl) ?_
      intro r12 rf m11 hrf h hr12
      refine G_if_ne pX10_soonest_22 (fun c13 => ?_) (fun c13 => ?_)
      · have h := h.1 c13
        refine G_iconst pX10_soonest_31 ic_m1 ?_
        refine G_istore (i := 4) (L' := [some (.ref 76), some (.int a1), some (.int a2), some (.int a3), some (.int (-1 : Int32)), none, none, none]) pX10_soonest_32 rfl ?_
        refine G_iconst pX10_soonest_34 ic_0 ?_
        refine G_istore (i := 5) (L' := [some (.ref 76), some (.int a1), some (.int a2), some (.int a3), some (.int (-1 : Int32)), some (.int (0 : Int32)), none, none]) pX10_soonest_35 rfl ?_
        refine G_iconst pX10_soonest_37 ic_0 ?_
        refine G_istore (i := 6) (L' := [some (.ref 76), some (.int a1), some (.int a2), some (.int a3), some (.int (-1 : Int32)), some (.int (0 : Int32)), some (.int (0 : Int32)), none]) pX10_soonest_38 rfl ?_
        exact gB_X10_soonest_40 hrf a1 a2 a3 (-1 : Int32) (0 : Int32) (0 : Int32) _ h
      · have h := h.2 c13
        refine G_aload_n (i := 0) pX10_soonest_25 rfl rfl ?_
        refine G_iconst pX10_soonest_26 ic_1 ?_
        refine G_callV1i (b := 76) (ci := 10) (N := 29) pX10_soonest_27 (g_X10_error (1 : Int32) hrf _ h) mV_X10_error ml_RX10_79 (by decide) ⟨Nat.le_refl _, Nat.le_refl _, Nat.le_refl _⟩ (Nat.le_of_ble_eq_true rfl) ltk_76 shk_76 rfl ?_
        intro r15 rf m14 hrf h hr15
        exact G_ireturn (len := 1) pX10_soonest_30 ⟨hrf, _, rfl, h⟩ ⟨_, rfl, rfl⟩
def B_X10_least_23 (x1 : Int32) (x2 : Int32) (x3 : Int32) (mem : MMt) (Q : Int32 → MMt → Prop) : Prop := LOOP (σ := Int32 × MMt) (fun X23 z => (fun (x3 : Int32) (mem : MMt) => (((19 : Int32) ≤ x3 → L_X10_error (2 : Int32) mem (fun r3 m2 => Q r3 m2)) ∧ (¬ (19 : Int32) ≤ x3 → L_X10_pushOf x3 mem (fun r5 m4 => L_X10_overBy x1 x2 r5 m4 (fun r7 m6 => ((r7 < 0 → (∀ v9 : Int32, v9 = x3 + (1 : Int32) → X23 (v9, m6))) ∧ (¬ r7 < 0 → L_X10_pushOf x3 m6 (fun r11 m10 => Q r11 m10)))))))) z.1 z.2) (x3, mem)
set_option maxRecDepth 4000 in
theorem gB_X10_least_23 {sx : Nat × (Nat → Int32)} {rf : RFt} {Q : Int32 → MMt → Prop} (hrf : RFok rf) (x1 : Int32) (x2 : Int32) (x3 : Int32) (mem : MMt) (h : B_X10_least_23 x1 x2 x3 mem Q) : G sx yX10_least cX10_least 4 (some .int) 7 NX NX (QQi (RFok) Q) NX rf mem 23 [some (.ref 76), some (.int x1), some (.int x2), some (.int x3)] [] := by
  obtain ⟨I, ⟨n, h0⟩, hI⟩ := h
  have key : ∀ (n : Nat) (rf : RFt) (x3 : Int32) (mem : MMt), RFok rf → I n (x3, mem) → G sx yX10_least cX10_least 4 (some .int) 7 NX NX (QQi (RFok) Q) NX rf mem 23 [some (.ref 76), some (.int x1), some (.int x2), some (.int x3)] [] := by
    intro n
    induction n using Nat.strongRecOn with
    | _ n ih =>
    intro rf x3 mem hrf h0
    have hX23 : ∀ (rf : RFt) (x3 : Int32) (mem : MMt), RFok rf → (fun s' => ∃ m, m < n ∧ I m s') (x3, mem) → G sx yX10_least cX10_least 4 (some .int) 7 NX NX (QQi (RFok) Q) NX rf mem 23 [some (.ref 76), some (.int x1), some (.int x2), some (.int x3)] [] := fun rf x3 mem hrf ⟨m, hm, hi⟩ => ih m hm rf x3 mem hrf hi
    have h := hI n _ h0
    clear ih h0
    try dsimp only at h
    refine G_iload_n (i := 3) pX10_least_23 rfl rfl ?_
    refine G_bipush pX10_least_24 bi_19 ?_
    refine G_icmp_ge pX10_least_26 (fun c1 => ?_) (fun c1 => ?_)
    · have h := h.1 c1
      refine G_aload_n (i := 0) pX10_least_53 rfl rfl ?_
      refine G_iconst pX10_least_54 ic_2 ?_
      refine G_callV1i (b := 76) (ci := 10) (N := 29) pX10_least_55 (g_X10_error (2 : Int32) hrf _ h) mV_X10_error ml_RX10_79 (by decide) ⟨Nat.le_refl _, Nat.le_refl _, Nat.le_refl _⟩ (Nat.le_of_ble_eq_true rfl) ltk_76 shk_76 rfl ?_
      intro r3 rf m2 hrf h hr3
      exact G_ireturn (len := 1) pX10_least_58 ⟨hrf, _, rfl, h⟩ ⟨_, rfl, rfl⟩
    · have h := h.2 c1
      refine G_aload_n (i := 0) pX10_least_29 rfl rfl ?_
      refine G_iload_n (i := 1) pX10_least_30 rfl rfl ?_
      refine G_iload_n (i := 2) pX10_least_31 rfl rfl ?_
      refine G_iload_n (i := 3) pX10_least_32 rfl rfl ?_
      refine G_callS1i pX10_least_33 (g_X10_pushOf x3 hrf _ h) mS_X10_pushOf ml_RX10_243 (by decide) ⟨Nat.le_refl _, Nat.le_refl _, Nat.le_refl _⟩ (Nat.le_of_ble_eq_true rfl) ?_
      intro r5 rf m4 hrf h hr5
      refine G_callV3i (b := 76) (ci := 10) (N := 29) pX10_least_36 (g_X10_overBy x1 x2 r5 hrf _ h) mV_X10_overBy ml_RX10_240 (by decide) ⟨Nat.le_refl _, Nat.le_refl _, Nat.le_refl _⟩ (Nat.le_of_ble_eq_true rfl) ltk_76 shk_76 rfl ?_
      intro r7 rf m6 hrf h hr7
      refine G_if_lt pX10_least_39 (fun c8 => ?_) (fun c8 => ?_)
      · have h := h.1 c8
        obtain ⟨v9, e9⟩ : ∃ z : Int32, z = x3 + (1 : Int32) := ⟨_, rfl⟩
        have h := h v9 e9
        refine G_iincW (L' := [some (.ref 76), some (.int x1), some (.int x2), some (.int v9)]) pX10_least_47 rfl ic_1 e9.symm rfl ?_
        refine G_goto pX10_least_50 ?_
        exact hX23 _ _ _ hrf h
      · have h := h.2 c8
        refine G_iload_n (i := 3) pX10_least_42 rfl rfl ?_
        refine G_callS1i pX10_least_43 (g_X10_pushOf x3 hrf _ h) mS_X10_pushOf ml_RX10_243 (by decide) ⟨Nat.le_refl _, Nat.le_refl _, Nat.le_refl _⟩ (Nat.le_of_ble_eq_true rfl) ?_
        intro r11 rf m10 hrf h hr11
        exact G_ireturn (len := 1) pX10_least_46 ⟨hrf, _, rfl, h⟩ ⟨_, rfl, rfl⟩
  exact key n rf _ _ hrf h0
def L_X10_least (a1 : Int32) (a2 : Int32) (mem : MMt) (Q : Int32 → MMt → Prop) : Prop := L_X10_isGood a1 mem (fun r2 m1 => ((r2 = 0 → L_X10_error (1 : Int32) m1 (fun r5 m4 => Q r5 m4)) ∧ (¬ r2 = 0 → L_X10_isSide a2 m1 (fun r7 m6 => ((¬ r7 = 0 → B_X10_least_23 a1 a2 (0 : Int32) m6 Q) ∧ (r7 = 0 → L_X10_error (1 : Int32) m6 (fun r10 m9 => Q r10 m9)))))))
set_option maxRecDepth 4000 in
theorem g_X10_least {sx : Nat × (Nat → Int32)} {rf : RFt} {Q : Int32 → MMt → Prop} (a1 : Int32) (a2 : Int32) (hrf : RFok rf) (mem : MMt) (h : L_X10_least a1 a2 mem Q) : Ct sx yX10_least cX10_least 4 (some .int) 7 [.ref 76, .int a1, .int a2] NX NX rf mem (QQi (RFok) Q) := by
  refine Ct_of [some (.ref 76), some (.int a1), some (.int a2), none] (by decide +kernel) (by simp [Lof, Value.category]) rfl ?_
  unfold L_X10_least at h
  refine G_aload_n (i := 0) pX10_least_0 rfl rfl ?_
  refine G_iload_n (i := 1) pX10_least_1 rfl rfl ?_
  refine G_callV1i (b := 76) (ci := 10) (N := 29) pX10_least_2 (g_X10_isGood a1 hrf _ h) mV_X10_isGood ml_RX10_87 (by decide) ⟨Nat.le_refl _, Nat.le_refl _, Nat.le_refl _⟩ (Nat.le_of_ble_eq_true rfl) ltk_76 shk_76 rfl ?_
  intro r2 rf m1 hrf h hr2
  refine G_if_eq pX10_least_5 (fun c3 => ?_) (fun c3 => ?_)
  · have h := h.1 c3
    refine G_aload_n (i := 0) pX10_least_15 rfl rfl ?_
    refine G_iconst pX10_least_16 ic_1 ?_
    refine G_callV1i (b := 76) (ci := 10) (N := 29) pX10_least_17 (g_X10_error (1 : Int32) hrf _ h) mV_X10_error ml_RX10_79 (by decide) ⟨Nat.le_refl _, Nat.le_refl _, Nat.le_refl _⟩ (Nat.le_of_ble_eq_true rfl) ltk_76 shk_76 rfl ?_
    intro r5 rf m4 hrf h hr5
    exact G_ireturn (len := 1) pX10_least_20 ⟨hrf, _, rfl, h⟩ ⟨_, rfl, rfl⟩
  · have h := h.2 c3
    refine G_iload_n (i := 2) pX10_least_8 rfl rfl ?_
    refine G_callS1i pX10_least_9 (g_X10_isSide a2 hrf _ h) mS_X10_isSide ml_RX10_126 (by decide) ⟨Nat.le_refl _, Nat.le_refl _, Nat.le_refl _⟩ (Nat.le_of_ble_eq_true rfl) ?_
    intro r7 rf m6 hrf h hr7
    refine G_if_ne pX10_least_12 (fun c8 => ?_) (fun c8 => ?_)
    · have h := h.1 c8
      refine G_iconst pX10_least_21 ic_0 ?_
      refine G_istore_n (i := 3) (L' := [some (.ref 76), some (.int a1), some (.int a2), some (.int (0 : Int32))]) pX10_least_22 rfl rfl ?_
      exact gB_X10_least_23 hrf a1 a2 (0 : Int32) _ h
    · have h := h.2 c8
      refine G_aload_n (i := 0) pX10_least_15 rfl rfl ?_
      refine G_iconst pX10_least_16 ic_1 ?_
      refine G_callV1i (b := 76) (ci := 10) (N := 29) pX10_least_17 (g_X10_error (1 : Int32) hrf _ h) mV_X10_error ml_RX10_79 (by decide) ⟨Nat.le_refl _, Nat.le_refl _, Nat.le_refl _⟩ (Nat.le_of_ble_eq_true rfl) ltk_76 shk_76 rfl ?_
      intro r10 rf m9 hrf h hr10
      exact G_ireturn (len := 1) pX10_least_20 ⟨hrf, _, rfl, h⟩ ⟨_, rfl, rfl⟩
def B_X10_pairs_178 (R_X10_pairs : Int32 → Int32 → Int32 → Int32 → MMt → (MMt → Prop) → Prop) (x1 : Int32) (x2 : Int32) (x3 : Int32) (x4 : Int32) (mem : MMt) (Q : MMt → Prop) : Prop := (vp_in x1 8 ∧ ∀ m1 : MMt, m1 = up2 mem 84 x1.toNatClampNeg (-1 : Int32) → R_X10_pairs (x1 + (1 : Int32)) x2 x3 x4 m1 (fun m3 => Q m3))
set_option maxRecDepth 4000 in
theorem gB_X10_pairs_178 {sx : Nat × (Nat → Int32)} {R_X10_pairs : Int32 → Int32 → Int32 → Int32 → MMt → (MMt → Prop) → Prop} {rf : RFt} {Q : MMt → Prop} {d0 : Nat} (hd0 : 2 ≤ d0) (hR_X10_pairs : ∀ (rf : RFt) (a1 : Int32) (a2 : Int32) (a3 : Int32) (a4 : Int32) (mem : MMt) (Q : MMt → Prop), RFok rf → R_X10_pairs a1 a2 a3 a4 mem Q → Ct sx yX10_pairs cX10_pairs 6 none d0 [.ref 76, .int a1, .int a2, .int a3, .int a4] NX NX rf mem (QQv (RFok) Q)) (hrf : RFok rf) (x1 : Int32) (x2 : Int32) (x3 : Int32) (x4 : Int32) (mem : MMt) (h : B_X10_pairs_178 R_X10_pairs x1 x2 x3 x4 mem Q) : G sx yX10_pairs cX10_pairs 6 none (d0 + 1) NX NX (QQv (RFok) Q) NX rf mem 178 [some (.ref 76), some (.int x1), some (.int x2), some (.int x3), some (.int x4), none] [] := by
  unfold B_X10_pairs_178 at h
  refine G_aload_n (i := 0) pX10_pairs_178 rfl rfl ?_
  refine G_getR (ci := 10) (j := 16) (N := 29) pX10_pairs_179 fl_RX10_31 rfl ltk_76 shk_76 (by decide) rfl (hrf.lit 76 16 rfl) ?_
  refine G_iload_n (i := 1) pX10_pairs_182 rfl rfl ?_
  refine G_iconst pX10_pairs_183 ic_m1 ?_
  obtain ⟨hi2, h⟩ := h
  obtain ⟨m1, em1⟩ : ∃ z : MMt, z = up2 mem 84 x1.toNatClampNeg (-1 : Int32) := ⟨_, rfl⟩
  have h := h m1 em1
  refine G_iastW pX10_pairs_184 ltk_84 shk_84 hi2 em1.symm ?_
  refine G_aload_n (i := 0) pX10_pairs_185 rfl rfl ?_
  refine G_iload_n (i := 1) pX10_pairs_186 rfl rfl ?_
  refine G_iconst pX10_pairs_187 ic_1 ?_
  refine G_iadd pX10_pairs_188 ?_
  refine G_iload_n (i := 2) pX10_pairs_189 rfl rfl ?_
  refine G_iload_n (i := 3) pX10_pairs_190 rfl rfl ?_
  refine G_iload (i := 4) pX10_pairs_191 rfl ?_
  refine G_callV4v (b := 76) (ci := 10) (N := 29) pX10_pairs_193 (hR_X10_pairs _ (x1 + (1 : Int32)) x2 x3 x4 _ _ hrf h) mV_X10_pairs ml_RX10_255 (Nat.le_refl _) ⟨Nat.le_refl _, Nat.le_refl _, Nat.le_refl _⟩ (Nat.le_of_ble_eq_true rfl) ltk_76 shk_76 rfl ?_
  intro rf m3 hrf h
  exact G_return (len := 1) pX10_pairs_196 ⟨hrf, rfl, h⟩ rfl
def B_X10_pairs_88 (R_X10_pairs : Int32 → Int32 → Int32 → Int32 → MMt → (MMt → Prop) → Prop) (x1 : Int32) (x2 : Int32) (x3 : Int32) (x4 : Int32) (x5 : Int32) (mem : MMt) (Q : MMt → Prop) : Prop := LOOP (σ := Int32 × MMt) (fun X88 z => (fun (x5 : Int32) (mem : MMt) => (((mem 77 6) ≤ x5 → B_X10_pairs_178 R_X10_pairs x1 x2 x3 x4 mem Q) ∧ (¬ (mem 77 6) ≤ x5 → L_X10_of x1 (2 : Int32) mem (fun r3 m2 => ((¬ r3 = 0 → B_X10_pairs_178 R_X10_pairs x1 x2 x3 x4 m2 Q) ∧ (r3 = 0 → L_X10_of x5 (2 : Int32) m2 (fun r6 m5 => ((¬ r6 = (40 : Int32) → (∀ v8 : Int32, v8 = x5 + (1 : Int32) → X88 (v8, m5))) ∧ (r6 = (40 : Int32) → ((¬ ((x2 >>> (x5 &&& 31)) &&& (1 : Int32)) = 0 → (∀ v10 : Int32, v10 = x5 + (1 : Int32) → X88 (v10, m5))) ∧ (((x2 >>> (x5 &&& 31)) &&& (1 : Int32)) = 0 → (vp_in x1 8 ∧ ∀ m11 : MMt, m11 = up2 m5 84 x1.toNatClampNeg x5 → L_X10_loadOf x1 m11 (fun r14 m13 => L_X10_loadOf x5 m13 (fun r16 m15 => L_X10_size (r14 - r16) m15 (fun r18 m17 => R_X10_pairs (x1 + (1 : Int32)) (x2 ||| ((1 : Int32) <<< (x5 &&& 31))) (x3 + (1 : Int32)) (x4 + r18) m17 (fun m19 => (∀ v20 : Int32, v20 = x5 + (1 : Int32) → X88 (v20, m19)))))))))))))))))) z.1 z.2) (x5, mem)
set_option maxRecDepth 4000 in
theorem gB_X10_pairs_88 {sx : Nat × (Nat → Int32)} {R_X10_pairs : Int32 → Int32 → Int32 → Int32 → MMt → (MMt → Prop) → Prop} {rf : RFt} {Q : MMt → Prop} {d0 : Nat} (hd0 : 2 ≤ d0) (hR_X10_pairs : ∀ (rf : RFt) (a1 : Int32) (a2 : Int32) (a3 : Int32) (a4 : Int32) (mem : MMt) (Q : MMt → Prop), RFok rf → R_X10_pairs a1 a2 a3 a4 mem Q → Ct sx yX10_pairs cX10_pairs 6 none d0 [.ref 76, .int a1, .int a2, .int a3, .int a4] NX NX rf mem (QQv (RFok) Q)) (hrf : RFok rf) (x1 : Int32) (x2 : Int32) (x3 : Int32) (x4 : Int32) (x5 : Int32) (mem : MMt) (h : B_X10_pairs_88 R_X10_pairs x1 x2 x3 x4 x5 mem Q) : G sx yX10_pairs cX10_pairs 6 none (d0 + 1) NX NX (QQv (RFok) Q) NX rf mem 88 [some (.ref 76), some (.int x1), some (.int x2), some (.int x3), some (.int x4), some (.int x5)] [] := by
  obtain ⟨I, ⟨n, h0⟩, hI⟩ := h
  have key : ∀ (n : Nat) (rf : RFt) (x5 : Int32) (mem : MMt), RFok rf → I n (x5, mem) → G sx yX10_pairs cX10_pairs 6 none (d0 + 1) NX NX (QQv (RFok) Q) NX rf mem 88 [some (.ref 76), some (.int x1), some (.int x2), some (.int x3), some (.int x4), some (.int x5)] [] := by
    intro n
    induction n using Nat.strongRecOn with
    | _ n ih =>
    intro rf x5 mem hrf h0
    have hX88 : ∀ (rf : RFt) (x5 : Int32) (mem : MMt), RFok rf → (fun s' => ∃ m, m < n ∧ I m s') (x5, mem) → G sx yX10_pairs cX10_pairs 6 none (d0 + 1) NX NX (QQv (RFok) Q) NX rf mem 88 [some (.ref 76), some (.int x1), some (.int x2), some (.int x3), some (.int x4), some (.int x5)] [] := fun rf x5 mem hrf ⟨m, hm, hi⟩ => ih m hm rf x5 mem hrf hi
    have h := hI n _ h0
    clear ih h0
    try dsimp only at h
    refine G_iload (i := 5) pX10_pairs_88 rfl ?_
    refine G_aload_n (i := 0) pX10_pairs_90 rfl rfl ?_
    refine G_getR (ci := 10) (j := 0) (N := 29) pX10_pairs_91 fl_RX10_9 rfl ltk_76 shk_76 (by decide) rfl (hrf.lit 76 0 rfl) ?_
    refine G_bipush pX10_pairs_94 bi_6 ?_
    refine G_ialdL (j := 6) pX10_pairs_96 ltk_77 shk_77 (vpl (by decide)) (by decide) ?_
    refine G_icmp_ge pX10_pairs_97 (fun c1 => ?_) (fun c1 => ?_)
    · have h := h.1 c1
      refine G_wk (L2 := [some (.ref 76), some (.int x1), some (.int x2), some (.int x3), some (.int x4), none]) ⟨Or.inr rfl, Or.inr rfl, Or.inr rfl, Or.inr rfl, Or.inr rfl, Or.inl rfl, trivial⟩ ?_
      exact gB_X10_pairs_178 hd0 hR_X10_pairs hrf x1 x2 x3 x4 _ h
    · have h := h.2 c1
      refine G_aload_n (i := 0) pX10_pairs_100 rfl rfl ?_
      refine G_iload_n (i := 1) pX10_pairs_101 rfl rfl ?_
      refine G_iconst pX10_pairs_102 ic_2 ?_
      refine G_callV2i (b := 76) (ci := 10) (N := 29) pX10_pairs_103 (g_X10_of x1 (2 : Int32) hrf _ h) mV_X10_of ml_RX10_61 (by omega) ⟨Nat.le_refl _, Nat.le_refl _, Nat.le_refl _⟩ (Nat.le_of_ble_eq_true rfl) ltk_76 shk_76 rfl ?_
      intro r3 rf m2 hrf h hr3
      refine G_if_ne pX10_pairs_106 (fun c4 => ?_) (fun c4 => ?_)
      · have h := h.1 c4
        refine G_wk (L2 := [some (.ref 76), some (.int x1), some (.int x2), some (.int x3), some (.int x4), none]) ⟨Or.inr rfl, Or.inr rfl, Or.inr rfl, Or.inr rfl, Or.inr rfl, Or.inl rfl, trivial⟩ ?_
        exact gB_X10_pairs_178 hd0 hR_X10_pairs hrf x1 x2 x3 x4 _ h
      · have h := h.2 c4
        refine G_aload_n (i := 0) pX10_pairs_109 rfl rfl ?_
        refine G_iload (i := 5) pX10_pairs_110 rfl ?_
        refine G_iconst pX10_pairs_112 ic_2 ?_
        refine G_callV2i (b := 76) (ci := 10) (N := 29) pX10_pairs_113 (g_X10_of x5 (2 : Int32) hrf _ h) mV_X10_of ml_RX10_61 (by omega) ⟨Nat.le_refl _, Nat.le_refl _, Nat.le_refl _⟩ (Nat.le_of_ble_eq_true rfl) ltk_76 shk_76 rfl ?_
        intro r6 rf m5 hrf h hr6
        refine G_bipush pX10_pairs_116 bi_40 ?_
        refine G_icmp_ne pX10_pairs_118 (fun c7 => ?_) (fun c7 => ?_)
        · have h := h.1 c7
          obtain ⟨v8, e8⟩ : ∃ z : Int32, z = x5 + (1 : Int32) := ⟨_, rfl⟩
          have h := h v8 e8
          refine G_iincW (L' := [some (.ref 76), some (.int x1), some (.int x2), some (.int x3), some (.int x4), some (.int v8)]) pX10_pairs_172 rfl ic_1 e8.symm rfl ?_
          refine G_goto pX10_pairs_175 ?_
          exact hX88 _ _ _ hrf h
        · have h := h.2 c7
          refine G_iload_n (i := 2) pX10_pairs_121 rfl rfl ?_
          refine G_iload (i := 5) pX10_pairs_122 rfl ?_
          refine G_ishr pX10_pairs_124 ?_
          refine G_iconst pX10_pairs_125 ic_1 ?_
          refine G_iand pX10_pairs_126 ?_
          refine G_if_ne pX10_pairs_127 (fun c9 => ?_) (fun c9 => ?_)
          · have h := h.1 c9
            obtain ⟨v10, e10⟩ : ∃ z : Int32, z = x5 + (1 : Int32) := ⟨_, rfl⟩
            have h := h v10 e10
            refine G_iincW (L' := [some (.ref 76), some (.int x1), some (.int x2), some (.int x3), some (.int x4), some (.int v10)]) pX10_pairs_172 rfl ic_1 e10.symm rfl ?_
            refine G_goto pX10_pairs_175 ?_
            exact hX88 _ _ _ hrf h
          · have h := h.2 c9
            refine G_aload_n (i := 0) pX10_pairs_130 rfl rfl ?_
            refine G_getR (ci := 10) (j := 16) (N := 29) pX10_pairs_131 fl_RX10_31 rfl ltk_76 shk_76 (by decide) rfl (hrf.lit 76 16 rfl) ?_
            refine G_iload_n (i := 1) pX10_pairs_134 rfl rfl ?_
            refine G_iload (i := 5) pX10_pairs_135 rfl ?_
            obtain ⟨hi12, h⟩ := h
            obtain ⟨m11, em11⟩ : ∃ z : MMt, z = up2 m5 84 x1.toNatClampNeg x5 := ⟨_, rfl⟩
            have h := h m11 em11
            refine G_iastW pX10_pairs_137 ltk_84 shk_84 hi12 em11.symm ?_
            refine G_aload_n (i := 0) pX10_pairs_138 rfl rfl ?_
            refine G_iload_n (i := 1) pX10_pairs_139 rfl rfl ?_
            refine G_iconst pX10_pairs_140 ic_1 ?_
            refine G_iadd pX10_pairs_141 ?_
            refine G_iload_n (i := 2) pX10_pairs_142 rfl rfl ?_
            refine G_iconst pX10_pairs_143 ic_1 ?_
            refine G_iload (i := 5) pX10_pairs_144 rfl ?_
            refine G_ishl pX10_pairs_146 ?_
            refine G_ior pX10_pairs_147 ?_
            refine G_iload_n (i := 3) pX10_pairs_148 rfl rfl ?_
            refine G_iconst pX10_pairs_149 ic_1 ?_
            refine G_iadd pX10_pairs_150 ?_
            refine G_iload (i := 4) pX10_pairs_151 rfl ?_
            refine G_aload_n (i := 0) pX10_pairs_153 rfl rfl ?_
            refine G_iload_n (i := 1) pX10_pairs_154 rfl rfl ?_
            refine G_callV1i (b := 76) (ci := 10) (N := 29) pX10_pairs_155 (g_X10_loadOf x1 hrf _ h) mV_X10_loadOf ml_RX10_91 (by omega) ⟨Nat.le_refl _, Nat.le_refl _, Nat.le_refl _⟩ (Nat.le_of_ble_eq_true rfl) ltk_76 shk_76 rfl ?_
            intro r14 rf m13 hrf h hr14
            refine G_aload_n (i := 0) pX10_pairs_158 rfl rfl ?_
            refine G_iload (i := 5) pX10_pairs_159 rfl ?_
            refine G_callV1i (b := 76) (ci := 10) (N := 29) pX10_pairs_161 (g_X10_loadOf x5 hrf _ h) mV_X10_loadOf ml_RX10_91 (by omega) ⟨Nat.le_refl _, Nat.le_refl _, Nat.le_refl _⟩ (Nat.le_of_ble_eq_true rfl) ltk_76 shk_76 rfl ?_
            intro r16 rf m15 hrf h hr16
            refine G_isub pX10_pairs_164 ?_
            refine G_callS1i pX10_pairs_165 (g_X10_size (r14 - r16) hrf _ h) mS_X10_size ml_RX10_252 (by omega) ⟨Nat.le_refl _, Nat.le_refl _, Nat.le_refl _⟩ (Nat.le_of_ble_eq_true rfl) ?_
            intro r18 rf m17 hrf h hr18
            refine G_iadd pX10_pairs_168 ?_
            refine G_callV4v (b := 76) (ci := 10) (N := 29) pX10_pairs_169 (hR_X10_pairs _ (x1 + (1 : Int32)) (x2 ||| ((1 : Int32) <<< (x5 &&& 31))) (x3 + (1 : Int32)) (x4 + r18) _ _ hrf h) mV_X10_pairs ml_RX10_255 (Nat.le_refl _) ⟨Nat.le_refl _, Nat.le_refl _, Nat.le_refl _⟩ (Nat.le_of_ble_eq_true rfl) ltk_76 shk_76 rfl ?_
            intro rf m19 hrf h
            obtain ⟨v20, e20⟩ : ∃ z : Int32, z = x5 + (1 : Int32) := ⟨_, rfl⟩
            have h := h v20 e20
            refine G_iincW (L' := [some (.ref 76), some (.int x1), some (.int x2), some (.int x3), some (.int x4), some (.int v20)]) pX10_pairs_172 rfl ic_1 e20.symm rfl ?_
            refine G_goto pX10_pairs_175 ?_
            exact hX88 _ _ _ hrf h
  exact key n rf _ _ hrf h0
def B_X10_pairs_50 (R_X10_pairs : Int32 → Int32 → Int32 → Int32 → MMt → (MMt → Prop) → Prop) (x5 : Int32) (mem : MMt) (Q : MMt → Prop) : Prop := LOOP (σ := Int32 × MMt) (fun X50 z => (fun (x5 : Int32) (mem : MMt) => (((8 : Int32) ≤ x5 → Q mem) ∧ (¬ (8 : Int32) ≤ x5 → (vp_in x5 8 ∧ (vp_in x5 8 ∧ ∀ m3 : MMt, m3 = up2 mem 85 x5.toNatClampNeg (mem 84 x5.toNatClampNeg) → (∀ v5 : Int32, v5 = x5 + (1 : Int32) → X50 (v5, m3))))))) z.1 z.2) (x5, mem)
set_option maxRecDepth 4000 in
theorem gB_X10_pairs_50 {sx : Nat × (Nat → Int32)} {R_X10_pairs : Int32 → Int32 → Int32 → Int32 → MMt → (MMt → Prop) → Prop} {rf : RFt} {Q : MMt → Prop} {d0 : Nat} (hd0 : 2 ≤ d0) (hR_X10_pairs : ∀ (rf : RFt) (a1 : Int32) (a2 : Int32) (a3 : Int32) (a4 : Int32) (mem : MMt) (Q : MMt → Prop), RFok rf → R_X10_pairs a1 a2 a3 a4 mem Q → Ct sx yX10_pairs cX10_pairs 6 none d0 [.ref 76, .int a1, .int a2, .int a3, .int a4] NX NX rf mem (QQv (RFok) Q)) (hrf : RFok rf) (x5 : Int32) (mem : MMt) (h : B_X10_pairs_50 R_X10_pairs x5 mem Q) : G sx yX10_pairs cX10_pairs 6 none (d0 + 1) NX NX (QQv (RFok) Q) NX rf mem 50 [some (.ref 76), none, none, none, none, some (.int x5)] [] := by
  obtain ⟨I, ⟨n, h0⟩, hI⟩ := h
  have key : ∀ (n : Nat) (rf : RFt) (x5 : Int32) (mem : MMt), RFok rf → I n (x5, mem) → G sx yX10_pairs cX10_pairs 6 none (d0 + 1) NX NX (QQv (RFok) Q) NX rf mem 50 [some (.ref 76), none, none, none, none, some (.int x5)] [] := by
    intro n
    induction n using Nat.strongRecOn with
    | _ n ih =>
    intro rf x5 mem hrf h0
    have hX50 : ∀ (rf : RFt) (x5 : Int32) (mem : MMt), RFok rf → (fun s' => ∃ m, m < n ∧ I m s') (x5, mem) → G sx yX10_pairs cX10_pairs 6 none (d0 + 1) NX NX (QQv (RFok) Q) NX rf mem 50 [some (.ref 76), none, none, none, none, some (.int x5)] [] := fun rf x5 mem hrf ⟨m, hm, hi⟩ => ih m hm rf x5 mem hrf hi
    have h := hI n _ h0
    clear ih h0
    try dsimp only at h
    refine G_iload (i := 5) pX10_pairs_50 rfl ?_
    refine G_bipush pX10_pairs_52 bi_8 ?_
    refine G_icmp_ge pX10_pairs_54 (fun c1 => ?_) (fun c1 => ?_)
    · have h := h.1 c1
      exact G_return (len := 1) pX10_pairs_77 ⟨hrf, rfl, h⟩ rfl
    · have h := h.2 c1
      refine G_aload_n (i := 0) pX10_pairs_57 rfl rfl ?_
      refine G_getR (ci := 10) (j := 17) (N := 29) pX10_pairs_58 fl_RX10_34 rfl ltk_76 shk_76 (by decide) rfl (hrf.lit 76 17 rfl) ?_
      refine G_iload (i := 5) pX10_pairs_61 rfl ?_
      refine G_aload_n (i := 0) pX10_pairs_63 rfl rfl ?_
      refine G_getR (ci := 10) (j := 16) (N := 29) pX10_pairs_64 fl_RX10_31 rfl ltk_76 shk_76 (by decide) rfl (hrf.lit 76 16 rfl) ?_
      refine G_iload (i := 5) pX10_pairs_67 rfl ?_
      obtain ⟨hi2, h⟩ := h
      refine G_iald pX10_pairs_69 ltk_84 shk_84 hi2 ?_
      obtain ⟨hi4, h⟩ := h
      obtain ⟨m3, em3⟩ : ∃ z : MMt, z = up2 mem 85 x5.toNatClampNeg (mem 84 x5.toNatClampNeg) := ⟨_, rfl⟩
      have h := h m3 em3
      refine G_iastW pX10_pairs_70 ltk_85 shk_85 hi4 em3.symm ?_
      obtain ⟨v5, e5⟩ : ∃ z : Int32, z = x5 + (1 : Int32) := ⟨_, rfl⟩
      have h := h v5 e5
      refine G_iincW (L' := [some (.ref 76), none, none, none, none, some (.int v5)]) pX10_pairs_71 rfl ic_1 e5.symm rfl ?_
      refine G_goto pX10_pairs_74 ?_
      exact hX50 _ _ _ hrf h
  exact key n rf _ _ hrf h0
def B_X10_pairs_36 (R_X10_pairs : Int32 → Int32 → Int32 → Int32 → MMt → (MMt → Prop) → Prop) (x3 : Int32) (x4 : Int32) (mem : MMt) (Q : MMt → Prop) : Prop := (∀ m1 : MMt, m1 = up2 mem 76 18 x3 → (∀ m2 : MMt, m2 = up2 m1 76 19 x4 → B_X10_pairs_50 R_X10_pairs (0 : Int32) m2 Q))
set_option maxRecDepth 4000 in
theorem gB_X10_pairs_36 {sx : Nat × (Nat → Int32)} {R_X10_pairs : Int32 → Int32 → Int32 → Int32 → MMt → (MMt → Prop) → Prop} {rf : RFt} {Q : MMt → Prop} {d0 : Nat} (hd0 : 2 ≤ d0) (hR_X10_pairs : ∀ (rf : RFt) (a1 : Int32) (a2 : Int32) (a3 : Int32) (a4 : Int32) (mem : MMt) (Q : MMt → Prop), RFok rf → R_X10_pairs a1 a2 a3 a4 mem Q → Ct sx yX10_pairs cX10_pairs 6 none d0 [.ref 76, .int a1, .int a2, .int a3, .int a4] NX NX rf mem (QQv (RFok) Q)) (hrf : RFok rf) (x3 : Int32) (x4 : Int32) (mem : MMt) (h : B_X10_pairs_36 R_X10_pairs x3 x4 mem Q) : G sx yX10_pairs cX10_pairs 6 none (d0 + 1) NX NX (QQv (RFok) Q) NX rf mem 36 [some (.ref 76), none, none, some (.int x3), some (.int x4), none] [] := by
  unfold B_X10_pairs_36 at h
  refine G_aload_n (i := 0) pX10_pairs_36 rfl rfl ?_
  refine G_iload_n (i := 3) pX10_pairs_37 rfl rfl ?_
  obtain ⟨m1, em1⟩ : ∃ z : MMt, z = up2 mem 76 18 x3 := ⟨_, rfl⟩
  have h := h m1 em1
  refine G_putIW (ci := 10) (j := 18) (N := 29) pX10_pairs_38 fw_RX10_246 rfl ltk_76 shk_76 (by decide) rfl (fun _ => ⟨rfl, rfl⟩) em1.symm ?_
  refine G_aload_n (i := 0) pX10_pairs_41 rfl rfl ?_
  refine G_iload (i := 4) pX10_pairs_42 rfl ?_
  obtain ⟨m2, em2⟩ : ∃ z : MMt, z = up2 m1 76 19 x4 := ⟨_, rfl⟩
  have h := h m2 em2
  refine G_putIW (ci := 10) (j := 19) (N := 29) pX10_pairs_44 fw_RX10_249 rfl ltk_76 shk_76 (by decide) rfl (fun _ => ⟨rfl, rfl⟩) em2.symm ?_
  refine G_iconst pX10_pairs_47 ic_0 ?_
  refine G_istore (i := 5) (L' := [some (.ref 76), none, none, some (.int x3), some (.int x4), some (.int (0 : Int32))]) pX10_pairs_48 rfl ?_
  refine G_wk (L2 := [some (.ref 76), none, none, none, none, some (.int (0 : Int32))]) ⟨Or.inr rfl, Or.inr rfl, Or.inr rfl, Or.inl rfl, Or.inl rfl, Or.inr rfl, trivial⟩ ?_
  exact gB_X10_pairs_50 hd0 hR_X10_pairs hrf (0 : Int32) _ h
def L_X10_pairs (R_X10_pairs : Int32 → Int32 → Int32 → Int32 → MMt → (MMt → Prop) → Prop) (a1 : Int32) (a2 : Int32) (a3 : Int32) (a4 : Int32) (mem : MMt) (Q : MMt → Prop) : Prop := ((¬ a1 = (mem 77 6) → (vp_in a1 8 ∧ ∀ m2 : MMt, m2 = up2 mem 84 a1.toNatClampNeg (-1 : Int32) → B_X10_pairs_88 R_X10_pairs a1 a2 a3 a4 (0 : Int32) m2 Q)) ∧ (a1 = (mem 77 6) → (((mem 76 18) < a3 → B_X10_pairs_36 R_X10_pairs a3 a4 mem Q) ∧ (¬ (mem 76 18) < a3 → ((¬ a3 = (mem 76 18) → Q mem) ∧ (a3 = (mem 76 18) → (((mem 76 19) ≤ a4 → Q mem) ∧ (¬ (mem 76 19) ≤ a4 → B_X10_pairs_36 R_X10_pairs a3 a4 mem Q))))))))
set_option maxRecDepth 4000 in
theorem g_X10_pairs {sx : Nat × (Nat → Int32)} {R_X10_pairs : Int32 → Int32 → Int32 → Int32 → MMt → (MMt → Prop) → Prop} {rf : RFt} {Q : MMt → Prop} {d0 : Nat} (hd0 : 2 ≤ d0) (hR_X10_pairs : ∀ (rf : RFt) (a1 : Int32) (a2 : Int32) (a3 : Int32) (a4 : Int32) (mem : MMt) (Q : MMt → Prop), RFok rf → R_X10_pairs a1 a2 a3 a4 mem Q → Ct sx yX10_pairs cX10_pairs 6 none d0 [.ref 76, .int a1, .int a2, .int a3, .int a4] NX NX rf mem (QQv (RFok) Q)) (a1 : Int32) (a2 : Int32) (a3 : Int32) (a4 : Int32) (hrf : RFok rf) (mem : MMt) (h : L_X10_pairs R_X10_pairs a1 a2 a3 a4 mem Q) : Ct sx yX10_pairs cX10_pairs 6 none (d0 + 1) [.ref 76, .int a1, .int a2, .int a3, .int a4] NX NX rf mem (QQv (RFok) Q) := by
  refine Ct_of [some (.ref 76), some (.int a1), some (.int a2), some (.int a3), some (.int a4), none] (by decide +kernel) (by simp [Lof, Value.category]) rfl ?_
  unfold L_X10_pairs at h
  refine G_iload_n (i := 1) pX10_pairs_0 rfl rfl ?_
  refine G_aload_n (i := 0) pX10_pairs_1 rfl rfl ?_
  refine G_getR (ci := 10) (j := 0) (N := 29) pX10_pairs_2 fl_RX10_9 rfl ltk_76 shk_76 (by decide) rfl (hrf.lit 76 0 rfl) ?_
  refine G_bipush pX10_pairs_5 bi_6 ?_
  refine G_ialdL (j := 6) pX10_pairs_7 ltk_77 shk_77 (vpl (by decide)) (by decide) ?_
  refine G_icmp_ne pX10_pairs_8 (fun c1 => ?_) (fun c1 => ?_)
  · have h := h.1 c1
    refine G_aload_n (i := 0) pX10_pairs_78 rfl rfl ?_
    refine G_getR (ci := 10) (j := 16) (N := 29) pX10_pairs_79 fl_RX10_31 rfl ltk_76 shk_76 (by decide) rfl (hrf.lit 76 16 rfl) ?_
    refine G_iload_n (i := 1) pX10_pairs_82 rfl rfl ?_
    refine G_iconst pX10_pairs_83 ic_m1 ?_
    obtain ⟨hi3, h⟩ := h
    obtain ⟨m2, em2⟩ : ∃ z : MMt, z = up2 mem 84 a1.toNatClampNeg (-1 : Int32) := ⟨_, rfl⟩
    have h := h m2 em2
    refine G_iastW pX10_pairs_84 ltk_84 shk_84 hi3 em2.symm ?_
    refine G_iconst pX10_pairs_85 ic_0 ?_
    refine G_istore (i := 5) (L' := [some (.ref 76), some (.int a1), some (.int a2), some (.int a3), some (.int a4), some (.int (0 : Int32))]) pX10_pairs_86 rfl ?_
    exact gB_X10_pairs_88 hd0 hR_X10_pairs hrf a1 a2 a3 a4 (0 : Int32) _ h
  · have h := h.2 c1
    refine G_iload_n (i := 3) pX10_pairs_11 rfl rfl ?_
    refine G_aload_n (i := 0) pX10_pairs_12 rfl rfl ?_
    refine G_getI (ci := 10) (j := 18) (N := 29) pX10_pairs_13 fl_RX10_246 rfl ltk_76 shk_76 (by decide) rfl ?_
    refine G_icmp_gt pX10_pairs_16 (fun c4 => ?_) (fun c4 => ?_)
    · have h := h.1 c4
      refine G_wk (L2 := [some (.ref 76), none, none, some (.int a3), some (.int a4), none]) ⟨Or.inr rfl, Or.inl rfl, Or.inl rfl, Or.inr rfl, Or.inr rfl, Or.inr rfl, trivial⟩ ?_
      exact gB_X10_pairs_36 hd0 hR_X10_pairs hrf a3 a4 _ h
    · have h := h.2 c4
      refine G_iload_n (i := 3) pX10_pairs_19 rfl rfl ?_
      refine G_aload_n (i := 0) pX10_pairs_20 rfl rfl ?_
      refine G_getI (ci := 10) (j := 18) (N := 29) pX10_pairs_21 fl_RX10_246 rfl ltk_76 shk_76 (by decide) rfl ?_
      refine G_icmp_ne pX10_pairs_24 (fun c5 => ?_) (fun c5 => ?_)
      · have h := h.1 c5
        exact G_return (len := 1) pX10_pairs_77 ⟨hrf, rfl, h⟩ rfl
      · have h := h.2 c5
        refine G_iload (i := 4) pX10_pairs_27 rfl ?_
        refine G_aload_n (i := 0) pX10_pairs_29 rfl rfl ?_
        refine G_getI (ci := 10) (j := 19) (N := 29) pX10_pairs_30 fl_RX10_249 rfl ltk_76 shk_76 (by decide) rfl ?_
        refine G_icmp_ge pX10_pairs_33 (fun c6 => ?_) (fun c6 => ?_)
        · have h := h.1 c6
          exact G_return (len := 1) pX10_pairs_77 ⟨hrf, rfl, h⟩ rfl
        · have h := h.2 c6
          refine G_wk (L2 := [some (.ref 76), none, none, some (.int a3), some (.int a4), none]) ⟨Or.inr rfl, Or.inl rfl, Or.inl rfl, Or.inr rfl, Or.inr rfl, Or.inr rfl, trivial⟩ ?_
          exact gB_X10_pairs_36 hd0 hR_X10_pairs hrf a3 a4 _ h
def WW_X10_pairs (n : Nat) : (Int32 → Int32 → Int32 → Int32 → MMt → (MMt → Prop) → Prop) := Nat.rec (motive := fun _ => (Int32 → Int32 → Int32 → Int32 → MMt → (MMt → Prop) → Prop)) (fun _ _ _ _ _ _ => False) (fun _ ih => L_X10_pairs ih) n
def W_X10_pairs (n : Nat) : Int32 → Int32 → Int32 → Int32 → MMt → (MMt → Prop) → Prop := WW_X10_pairs n
theorem W_X10_pairs_s (n : Nat) : W_X10_pairs (n + 1) = L_X10_pairs (W_X10_pairs n) := rfl
theorem gWW_X10_pairs {sx : Nat × (Nat → Int32)} (n : Nat) : (∀ (rf : RFt) (a1 : Int32) (a2 : Int32) (a3 : Int32) (a4 : Int32) (mem : MMt) (Q : MMt → Prop), RFok rf → W_X10_pairs n a1 a2 a3 a4 mem Q → Ct sx yX10_pairs cX10_pairs 6 none (2 + n) [.ref 76, .int a1, .int a2, .int a3, .int a4] NX NX rf mem (QQv (RFok) Q)) := by
  induction n with
  | zero => exact (fun rf a1 a2 a3 a4 mem Q hrf h => h.elim)
  | succ n ih =>
    exact (fun rf a1 a2 a3 a4 mem Q hrf h => g_X10_pairs (d0 := 2 + n) (by omega) (ih) a1 a2 a3 a4 hrf mem h)
theorem gW_X10_pairs {sx : Nat × (Nat → Int32)} (n : Nat) {rf : RFt} {Q : MMt → Prop} (a1 : Int32) (a2 : Int32) (a3 : Int32) (a4 : Int32) (hrf : RFok rf) (mem : MMt) (h : W_X10_pairs n a1 a2 a3 a4 mem Q) : Ct sx yX10_pairs cX10_pairs 6 none (2 + n) [.ref 76, .int a1, .int a2, .int a3, .int a4] NX NX rf mem (QQv (RFok) Q) := (gWW_X10_pairs n) rf a1 a2 a3 a4 mem Q hrf h
def B_X10_mateOf_2 (x1 : Int32) (x2 : Int32) (mem : MMt) (Q : Int32 → MMt → Prop) : Prop := LOOP (σ := Int32 × MMt) (fun X2 z => (fun (x2 : Int32) (mem : MMt) => (((mem 77 6) ≤ x2 → (vp_in x1 8 ∧ Q (mem 85 x1.toNatClampNeg) mem)) ∧ (¬ (mem 77 6) ≤ x2 → (vp_in x2 8 ∧ ((¬ (mem 85 x2.toNatClampNeg) = x1 → (∀ v5 : Int32, v5 = x2 + (1 : Int32) → X2 (v5, mem))) ∧ ((mem 85 x2.toNatClampNeg) = x1 → Q x2 mem)))))) z.1 z.2) (x2, mem)
set_option maxRecDepth 4000 in
theorem gB_X10_mateOf_2 {sx : Nat × (Nat → Int32)} {rf : RFt} {Q : Int32 → MMt → Prop} (hrf : RFok rf) (x1 : Int32) (x2 : Int32) (mem : MMt) (h : B_X10_mateOf_2 x1 x2 mem Q) : G sx yX10_mateOf cX10_mateOf 3 (some .int) 1 NX NX (QQi (RFok) Q) NX rf mem 2 [some (.ref 76), some (.int x1), some (.int x2)] [] := by
  obtain ⟨I, ⟨n, h0⟩, hI⟩ := h
  have key : ∀ (n : Nat) (rf : RFt) (x2 : Int32) (mem : MMt), RFok rf → I n (x2, mem) → G sx yX10_mateOf cX10_mateOf 3 (some .int) 1 NX NX (QQi (RFok) Q) NX rf mem 2 [some (.ref 76), some (.int x1), some (.int x2)] [] := by
    intro n
    induction n using Nat.strongRecOn with
    | _ n ih =>
    intro rf x2 mem hrf h0
    have hX2 : ∀ (rf : RFt) (x2 : Int32) (mem : MMt), RFok rf → (fun s' => ∃ m, m < n ∧ I m s') (x2, mem) → G sx yX10_mateOf cX10_mateOf 3 (some .int) 1 NX NX (QQi (RFok) Q) NX rf mem 2 [some (.ref 76), some (.int x1), some (.int x2)] [] := fun rf x2 mem hrf ⟨m, hm, hi⟩ => ih m hm rf x2 mem hrf hi
    have h := hI n _ h0
    clear ih h0
    try dsimp only at h
    refine G_iload_n (i := 2) pX10_mateOf_2 rfl rfl ?_
    refine G_aload_n (i := 0) pX10_mateOf_3 rfl rfl ?_
    refine G_getR (ci := 10) (j := 0) (N := 29) pX10_mateOf_4 fl_RX10_9 rfl ltk_76 shk_76 (by decide) rfl (hrf.lit 76 0 rfl) ?_
    refine G_bipush pX10_mateOf_7 bi_6 ?_
    refine G_ialdL (j := 6) pX10_mateOf_9 ltk_77 shk_77 (vpl (by decide)) (by decide) ?_
    refine G_icmp_ge pX10_mateOf_10 (fun c1 => ?_) (fun c1 => ?_)
    · have h := h.1 c1
      refine G_aload_n (i := 0) pX10_mateOf_31 rfl rfl ?_
      refine G_getR (ci := 10) (j := 17) (N := 29) pX10_mateOf_32 fl_RX10_34 rfl ltk_76 shk_76 (by decide) rfl (hrf.lit 76 17 rfl) ?_
      refine G_iload_n (i := 1) pX10_mateOf_35 rfl rfl ?_
      obtain ⟨hi2, h⟩ := h
      refine G_iald pX10_mateOf_36 ltk_85 shk_85 hi2 ?_
      exact G_ireturn (len := 1) pX10_mateOf_37 ⟨hrf, _, rfl, h⟩ ⟨_, rfl, rfl⟩
    · have h := h.2 c1
      refine G_aload_n (i := 0) pX10_mateOf_13 rfl rfl ?_
      refine G_getR (ci := 10) (j := 17) (N := 29) pX10_mateOf_14 fl_RX10_34 rfl ltk_76 shk_76 (by decide) rfl (hrf.lit 76 17 rfl) ?_
      refine G_iload_n (i := 2) pX10_mateOf_17 rfl rfl ?_
      obtain ⟨hi3, h⟩ := h
      refine G_iald pX10_mateOf_18 ltk_85 shk_85 hi3 ?_
      refine G_iload_n (i := 1) pX10_mateOf_19 rfl rfl ?_
      refine G_icmp_ne pX10_mateOf_20 (fun c4 => ?_) (fun c4 => ?_)
      · have h := h.1 c4
        obtain ⟨v5, e5⟩ : ∃ z : Int32, z = x2 + (1 : Int32) := ⟨_, rfl⟩
        have h := h v5 e5
        refine G_iincW (L' := [some (.ref 76), some (.int x1), some (.int v5)]) pX10_mateOf_25 rfl ic_1 e5.symm rfl ?_
        refine G_goto pX10_mateOf_28 ?_
        exact hX2 _ _ _ hrf h
      · have h := h.2 c4
        refine G_iload_n (i := 2) pX10_mateOf_23 rfl rfl ?_
        exact G_ireturn (len := 1) pX10_mateOf_24 ⟨hrf, _, rfl, h⟩ ⟨_, rfl, rfl⟩
  exact key n rf _ _ hrf h0
def L_X10_mateOf (a1 : Int32) (mem : MMt) (Q : Int32 → MMt → Prop) : Prop := B_X10_mateOf_2 a1 (0 : Int32) mem Q
set_option maxRecDepth 4000 in
theorem g_X10_mateOf {sx : Nat × (Nat → Int32)} {rf : RFt} {Q : Int32 → MMt → Prop} (a1 : Int32) (hrf : RFok rf) (mem : MMt) (h : L_X10_mateOf a1 mem Q) : Ct sx yX10_mateOf cX10_mateOf 3 (some .int) 1 [.ref 76, .int a1] NX NX rf mem (QQi (RFok) Q) := by
  refine Ct_of [some (.ref 76), some (.int a1), none] (by decide +kernel) (by simp [Lof, Value.category]) rfl ?_
  unfold L_X10_mateOf at h
  refine G_iconst pX10_mateOf_0 ic_0 ?_
  refine G_istore_n (i := 2) (L' := [some (.ref 76), some (.int a1), some (.int (0 : Int32))]) pX10_mateOf_1 rfl rfl ?_
  exact gB_X10_mateOf_2 hrf a1 (0 : Int32) _ h
def L_X10_lifts (a1 : Int32) (mem : MMt) (Q : Int32 → MMt → Prop) : Prop := L_X10_isIn a1.toInt64 (-2 : Int64) (((mem 77 6) - (1 : Int32)).toInt64) mem (fun r2 m1 => ((¬ r2 = 0 → (∀ m4 : MMt, m4 = up2 m1 76 18 (-1 : Int32) → (∀ m5 : MMt, m5 = up2 m4 76 19 (0 : Int32) → W_X10_pairs 20 (0 : Int32) (0 : Int32) (0 : Int32) (0 : Int32) m5 (fun m6 => ((¬ a1 = (-2 : Int32) → ((¬ a1 = (-1 : Int32) → L_X10_mateOf a1 m6 (fun r10 m9 => Q r10 m9)) ∧ (a1 = (-1 : Int32) → Q (m6 76 19) m6))) ∧ (a1 = (-2 : Int32) → Q (m6 76 18) m6)))))) ∧ (r2 = 0 → L_X10_error (1 : Int32) m1 (fun r12 m11 => Q r12 m11))))
set_option maxRecDepth 4000 in
theorem g_X10_lifts {sx : Nat × (Nat → Int32)} {rf : RFt} {Q : Int32 → MMt → Prop} (a1 : Int32) (hrf : RFok rf) (mem : MMt) (h : L_X10_lifts a1 mem Q) : Ct sx yX10_lifts cX10_lifts 2 (some .int) 24 [.ref 76, .int a1] NX NX rf mem (QQi (RFok) Q) := by
  refine Ct_of [some (.ref 76), some (.int a1)] (by decide +kernel) (by simp [Lof, Value.category]) rfl ?_
  unfold L_X10_lifts at h
  refine G_iload_n (i := 1) pX10_lifts_0 rfl rfl ?_
  refine G_i2l pX10_lifts_1 ?_
  refine G_ldc2 pX10_lifts_2 rfl wcl_RX10_259 ?_
  refine G_aload_n (i := 0) pX10_lifts_5 rfl rfl ?_
  refine G_getR (ci := 10) (j := 0) (N := 29) pX10_lifts_6 fl_RX10_9 rfl ltk_76 shk_76 (by decide) rfl (hrf.lit 76 0 rfl) ?_
  refine G_bipush pX10_lifts_9 bi_6 ?_
  refine G_ialdL (j := 6) pX10_lifts_11 ltk_77 shk_77 (vpl (by decide)) (by decide) ?_
  refine G_iconst pX10_lifts_12 ic_1 ?_
  refine G_isub pX10_lifts_13 ?_
  refine G_i2l pX10_lifts_14 ?_
  refine G_callS3i pX10_lifts_15 (g_X10_isIn a1.toInt64 (-2 : Int64) (((mem 77 6) - (1 : Int32)).toInt64) hrf _ h) mS_X10_isIn ml_RX10_53 (by decide) ⟨Nat.le_refl _, Nat.le_refl _, Nat.le_refl _⟩ (Nat.le_of_ble_eq_true rfl) ?_
  intro r2 rf m1 hrf h hr2
  refine G_if_ne pX10_lifts_18 (fun c3 => ?_) (fun c3 => ?_)
  · have h := h.1 c3
    refine G_aload_n (i := 0) pX10_lifts_27 rfl rfl ?_
    refine G_iconst pX10_lifts_28 ic_m1 ?_
    obtain ⟨m4, em4⟩ : ∃ z : MMt, z = up2 m1 76 18 (-1 : Int32) := ⟨_, rfl⟩
    have h := h m4 em4
    refine G_putIW (ci := 10) (j := 18) (N := 29) pX10_lifts_29 fw_RX10_246 rfl ltk_76 shk_76 (by decide) rfl (fun _ => ⟨rfl, rfl⟩) em4.symm ?_
    refine G_aload_n (i := 0) pX10_lifts_32 rfl rfl ?_
    refine G_iconst pX10_lifts_33 ic_0 ?_
    obtain ⟨m5, em5⟩ : ∃ z : MMt, z = up2 m4 76 19 (0 : Int32) := ⟨_, rfl⟩
    have h := h m5 em5
    refine G_putIW (ci := 10) (j := 19) (N := 29) pX10_lifts_34 fw_RX10_249 rfl ltk_76 shk_76 (by decide) rfl (fun _ => ⟨rfl, rfl⟩) em5.symm ?_
    refine G_aload_n (i := 0) pX10_lifts_37 rfl rfl ?_
    refine G_iconst pX10_lifts_38 ic_0 ?_
    refine G_iconst pX10_lifts_39 ic_0 ?_
    refine G_iconst pX10_lifts_40 ic_0 ?_
    refine G_iconst pX10_lifts_41 ic_0 ?_
    refine G_callV4v (b := 76) (ci := 10) (N := 29) pX10_lifts_42 (gW_X10_pairs 20 (0 : Int32) (0 : Int32) (0 : Int32) (0 : Int32) hrf _ h) mV_X10_pairs ml_RX10_255 (by decide) ⟨Nat.le_refl _, Nat.le_refl _, Nat.le_refl _⟩ (Nat.le_of_ble_eq_true rfl) ltk_76 shk_76 rfl ?_
    intro rf m6 hrf h
    refine G_iload_n (i := 1) pX10_lifts_45 rfl rfl ?_
    refine G_bipush pX10_lifts_46 bi_m2 ?_
    refine G_icmp_ne pX10_lifts_48 (fun c7 => ?_) (fun c7 => ?_)
    · have h := h.1 c7
      refine G_iload_n (i := 1) pX10_lifts_58 rfl rfl ?_
      refine G_iconst pX10_lifts_59 ic_m1 ?_
      refine G_icmp_ne pX10_lifts_60 (fun c8 => ?_) (fun c8 => ?_)
      · have h := h.1 c8
        refine G_aload_n (i := 0) pX10_lifts_70 rfl rfl ?_
        refine G_iload_n (i := 1) pX10_lifts_71 rfl rfl ?_
        refine G_callV1i (b := 76) (ci := 10) (N := 29) pX10_lifts_72 (g_X10_mateOf a1 hrf _ h) mV_X10_mateOf ml_RX10_261 (by decide) ⟨Nat.le_refl _, Nat.le_refl _, Nat.le_refl _⟩ (Nat.le_of_ble_eq_true rfl) ltk_76 shk_76 rfl ?_
        intro r10 rf m9 hrf h hr10
        exact G_ireturn (len := 1) pX10_lifts_75 ⟨hrf, _, rfl, h⟩ ⟨_, rfl, rfl⟩
      · have h := h.2 c8
        refine G_aload_n (i := 0) pX10_lifts_63 rfl rfl ?_
        refine G_getI (ci := 10) (j := 19) (N := 29) pX10_lifts_64 fl_RX10_249 rfl ltk_76 shk_76 (by decide) rfl ?_
        refine G_goto pX10_lifts_67 ?_
        exact G_ireturn (len := 1) pX10_lifts_75 ⟨hrf, _, rfl, h⟩ ⟨_, rfl, rfl⟩
    · have h := h.2 c7
      refine G_aload_n (i := 0) pX10_lifts_51 rfl rfl ?_
      refine G_getI (ci := 10) (j := 18) (N := 29) pX10_lifts_52 fl_RX10_246 rfl ltk_76 shk_76 (by decide) rfl ?_
      refine G_goto pX10_lifts_55 ?_
      exact G_ireturn (len := 1) pX10_lifts_75 ⟨hrf, _, rfl, h⟩ ⟨_, rfl, rfl⟩
  · have h := h.2 c3
    refine G_aload_n (i := 0) pX10_lifts_21 rfl rfl ?_
    refine G_iconst pX10_lifts_22 ic_1 ?_
    refine G_callV1i (b := 76) (ci := 10) (N := 29) pX10_lifts_23 (g_X10_error (1 : Int32) hrf _ h) mV_X10_error ml_RX10_79 (by decide) ⟨Nat.le_refl _, Nat.le_refl _, Nat.le_refl _⟩ (Nat.le_of_ble_eq_true rfl) ltk_76 shk_76 rfl ?_
    intro r12 rf m11 hrf h hr12
    exact G_ireturn (len := 1) pX10_lifts_26 ⟨hrf, _, rfl, h⟩ ⟨_, rfl, rfl⟩
def L_X10_isSheet (a1 : Int32) (mem : MMt) (Q : Int32 → MMt → Prop) : Prop := L_X10_isIn a1.toInt64 (0 : Int64) (3 : Int64) mem (fun r2 m1 => Q r2 m1)
set_option maxRecDepth 4000 in
theorem g_X10_isSheet {sx : Nat × (Nat → Int32)} {M : RFt → Prop} {rf : RFt} {Q : Int32 → MMt → Prop} (a1 : Int32) (hrf : M rf) (mem : MMt) (h : L_X10_isSheet a1 mem Q) : Ct sx yX10_isSheet cX10_isSheet 1 (some .boolean) 2 [.int a1] NX NX rf mem (QQi (M) Q) := by
  refine Ct_of [some (.int a1)] (by decide +kernel) (by simp [Lof, Value.category]) rfl ?_
  unfold L_X10_isSheet at h
  refine G_iload_n (i := 0) pX10_isSheet_0 rfl rfl ?_
  refine G_i2l pX10_isSheet_1 ?_
  refine G_lconst pX10_isSheet_2 lc_0 ?_
  refine G_ldc2 pX10_isSheet_3 rfl wcl_RX10_264 ?_
  refine G_callS3i pX10_isSheet_6 (g_X10_isIn a1.toInt64 (0 : Int64) (3 : Int64) hrf _ h) mS_X10_isIn ml_RX10_53 (by decide) ⟨Nat.le_refl _, Nat.le_refl _, Nat.le_refl _⟩ (Nat.le_of_ble_eq_true rfl) ?_
  intro r2 rf m1 hrf h hr2
  exact G_ireturn (len := 1) pX10_isSheet_9 ⟨hrf, _, rfl, h⟩ hr2
def B_X10_goesSo_94 (x1 : Int32) (x3 : Int32) (x4 : Int32) (x5 : Int32) (mem : MMt) (Q : Int32 → MMt → Prop) : Prop := L_X10_sets x1 (2 : Int32) x3 mem (fun m1 => L_X10_sets x1 (3 : Int32) x4 m1 (fun m2 => (BZ x5 ∧ Q x5 m2)))
set_option maxRecDepth 4000 in
theorem gB_X10_goesSo_94 {sx : Nat × (Nat → Int32)} {rf : RFt} {Q : Int32 → MMt → Prop} (hrf : RFok rf) (x1 : Int32) (x3 : Int32) (x4 : Int32) (x5 : Int32) (mem : MMt) (h : B_X10_goesSo_94 x1 x3 x4 x5 mem Q) : G sx yX10_goesSo cX10_goesSo 7 (some .boolean) 6 NX NX (QQi (RFok) Q) NX rf mem 94 [some (.ref 76), some (.int x1), none, some (.int x3), some (.int x4), some (.int x5), none] [] := by
  unfold B_X10_goesSo_94 at h
  refine G_aload_n (i := 0) pX10_goesSo_94 rfl rfl ?_
  refine G_iload_n (i := 1) pX10_goesSo_95 rfl rfl ?_
  refine G_iconst pX10_goesSo_96 ic_2 ?_
  refine G_iload_n (i := 3) pX10_goesSo_97 rfl rfl ?_
  refine G_callV3v (b := 76) (ci := 10) (N := 29) pX10_goesSo_98 (g_X10_sets x1 (2 : Int32) x3 hrf _ h) mV_X10_sets ml_RX10_83 (by decide) ⟨Nat.le_refl _, Nat.le_refl _, Nat.le_refl _⟩ (Nat.le_of_ble_eq_true rfl) ltk_76 shk_76 rfl ?_
  intro rf m1 hrf h
  refine G_aload_n (i := 0) pX10_goesSo_101 rfl rfl ?_
  refine G_iload_n (i := 1) pX10_goesSo_102 rfl rfl ?_
  refine G_iconst pX10_goesSo_103 ic_3 ?_
  refine G_iload (i := 4) pX10_goesSo_104 rfl ?_
  refine G_callV3v (b := 76) (ci := 10) (N := 29) pX10_goesSo_106 (g_X10_sets x1 (3 : Int32) x4 hrf _ h) mV_X10_sets ml_RX10_83 (by decide) ⟨Nat.le_refl _, Nat.le_refl _, Nat.le_refl _⟩ (Nat.le_of_ble_eq_true rfl) ltk_76 shk_76 rfl ?_
  intro rf m2 hrf h
  refine G_iload (i := 5) pX10_goesSo_109 rfl ?_
  exact G_ireturn (len := 1) pX10_goesSo_111 ⟨hrf, _, rfl, h.2⟩ h.1.rt
def B_X10_goesSo_86 (X21 : Int32 × Int32 × MMt → Prop) (x1 : Int32) (x2 : Int32) (x3 : Int32) (x4 : Int32) (x6 : Int32) (s0 : Int32) (mem : MMt) (Q : Int32 → MMt → Prop) : Prop := (∀ v1 : Int32, v1 = x6 + (1 : Int32) → X21 (s0, v1, mem))
set_option maxRecDepth 4000 in
theorem gB_X10_goesSo_86 {sx : Nat × (Nat → Int32)} {X21 : Int32 × Int32 × MMt → Prop} {rf : RFt} {Q : Int32 → MMt → Prop} (hrf : RFok rf) (x1 : Int32) (x2 : Int32) (x3 : Int32) (x4 : Int32) (x6 : Int32) (s0 : Int32) (hX21 : ∀ (rf : RFt) (x5 : Int32) (x6 : Int32) (mem : MMt), RFok rf → X21 (x5, x6, mem) → G sx yX10_goesSo cX10_goesSo 7 (some .boolean) 6 NX NX (QQi (RFok) Q) NX rf mem 21 [some (.ref 76), some (.int x1), some (.int x2), some (.int x3), some (.int x4), some (.int x5), some (.int x6)] []) (mem : MMt) (h : B_X10_goesSo_86 X21 x1 x2 x3 x4 x6 s0 mem Q) : G sx yX10_goesSo cX10_goesSo 7 (some .boolean) 6 NX NX (QQi (RFok) Q) NX rf mem 86 [some (.ref 76), some (.int x1), some (.int x2), some (.int x3), some (.int x4), none, some (.int x6)] [.int s0] := by
  unfold B_X10_goesSo_86 at h
  refine G_istore (i := 5) (L' := [some (.ref 76), some (.int x1), some (.int x2), some (.int x3), some (.int x4), some (.int s0), some (.int x6)]) pX10_goesSo_86 rfl ?_
  obtain ⟨v1, e1⟩ : ∃ z : Int32, z = x6 + (1 : Int32) := ⟨_, rfl⟩
  have h := h v1 e1
  refine G_iincW (L' := [some (.ref 76), some (.int x1), some (.int x2), some (.int x3), some (.int x4), some (.int s0), some (.int v1)]) pX10_goesSo_88 rfl ic_1 e1.symm rfl ?_
  refine G_goto pX10_goesSo_91 ?_
  exact hX21 _ _ _ _ hrf h
def B_X10_goesSo_21 (x1 : Int32) (x2 : Int32) (x3 : Int32) (x4 : Int32) (x5 : Int32) (x6 : Int32) (mem : MMt) (Q : Int32 → MMt → Prop) : Prop := LOOP (σ := Int32 × Int32 × MMt) (fun X21 z => (fun (x5 : Int32) (x6 : Int32) (mem : MMt) => (vp_in x2 4 ∧ (((mem 87 x2.toNatClampNeg) ≤ x6 → B_X10_goesSo_94 x1 x3 x4 x5 mem Q) ∧ (¬ (mem 87 x2.toNatClampNeg) ≤ x6 → ((x5 = 0 → B_X10_goesSo_94 x1 x3 x4 x5 mem Q) ∧ (¬ x5 = 0 → L_X10_looksAhead x1 mem (fun m4 => L_X10_sets x1 (2 : Int32) (m4 76 12) m4 (fun m5 => L_X10_sets x1 (3 : Int32) (m5 76 13) m5 (fun m6 => (vp_in (((40 : Int32) * x2) + x6) 160 ∧ ((¬ (m6 88 (((40 : Int32) * x2) + x6).toNatClampNeg) = (m6 76 12) → B_X10_goesSo_86 X21 x1 x2 x3 x4 x6 (0 : Int32) m6 Q) ∧ ((m6 88 (((40 : Int32) * x2) + x6).toNatClampNeg) = (m6 76 12) → B_X10_goesSo_86 X21 x1 x2 x3 x4 x6 (1 : Int32) m6 Q)))))))))))) z.1 z.2.1 z.2.2) (x5, x6, mem)
set_option maxRecDepth 4000 in
theorem gB_X10_goesSo_21 {sx : Nat × (Nat → Int32)} {rf : RFt} {Q : Int32 → MMt → Prop} (hrf : RFok rf) (x1 : Int32) (x2 : Int32) (x3 : Int32) (x4 : Int32) (x5 : Int32) (x6 : Int32) (mem : MMt) (h : B_X10_goesSo_21 x1 x2 x3 x4 x5 x6 mem Q) : G sx yX10_goesSo cX10_goesSo 7 (some .boolean) 6 NX NX (QQi (RFok) Q) NX rf mem 21 [some (.ref 76), some (.int x1), some (.int x2), some (.int x3), some (.int x4), some (.int x5), some (.int x6)] [] := by
  obtain ⟨I, ⟨n, h0⟩, hI⟩ := h
  have key : ∀ (n : Nat) (rf : RFt) (x5 : Int32) (x6 : Int32) (mem : MMt), RFok rf → I n (x5, x6, mem) → G sx yX10_goesSo cX10_goesSo 7 (some .boolean) 6 NX NX (QQi (RFok) Q) NX rf mem 21 [some (.ref 76), some (.int x1), some (.int x2), some (.int x3), some (.int x4), some (.int x5), some (.int x6)] [] := by
    intro n
    induction n using Nat.strongRecOn with
    | _ n ih =>
    intro rf x5 x6 mem hrf h0
    have hX21 : ∀ (rf : RFt) (x5 : Int32) (x6 : Int32) (mem : MMt), RFok rf → (fun s' => ∃ m, m < n ∧ I m s') (x5, x6, mem) → G sx yX10_goesSo cX10_goesSo 7 (some .boolean) 6 NX NX (QQi (RFok) Q) NX rf mem 21 [some (.ref 76), some (.int x1), some (.int x2), some (.int x3), some (.int x4), some (.int x5), some (.int x6)] [] := fun rf x5 x6 mem hrf ⟨m, hm, hi⟩ => ih m hm rf x5 x6 mem hrf hi
    have h := hI n _ h0
    clear ih h0
    try dsimp only at h
    refine G_iload (i := 6) pX10_goesSo_21 rfl ?_
    refine G_aload_n (i := 0) pX10_goesSo_23 rfl rfl ?_
    refine G_getR (ci := 10) (j := 21) (N := 29) pX10_goesSo_24 fl_RX10_40 rfl ltk_76 shk_76 (by decide) rfl (hrf.lit 76 21 rfl) ?_
    refine G_iload_n (i := 2) pX10_goesSo_27 rfl rfl ?_
    obtain ⟨hi1, h⟩ := h
    refine G_iald pX10_goesSo_28 ltk_87 shk_87 hi1 ?_
    refine G_icmp_ge pX10_goesSo_29 (fun c2 => ?_) (fun c2 => ?_)
    · have h := h.1 c2
      refine G_wk (L2 := [some (.ref 76), some (.int x1), none, some (.int x3), some (.int x4), some (.int x5), none]) ⟨Or.inr rfl, Or.inr rfl, Or.inl rfl, Or.inr rfl, Or.inr rfl, Or.inr rfl, Or.inl rfl, trivial⟩ ?_
      exact gB_X10_goesSo_94 hrf x1 x3 x4 x5 _ h
    · have h := h.2 c2
      refine G_iload (i := 5) pX10_goesSo_32 rfl ?_
      refine G_if_eq pX10_goesSo_34 (fun c3 => ?_) (fun c3 => ?_)
      · have h := h.1 c3
        refine G_wk (L2 := [some (.ref 76), some (.int x1), none, some (.int x3), some (.int x4), some (.int x5), none]) ⟨Or.inr rfl, Or.inr rfl, Or.inl rfl, Or.inr rfl, Or.inr rfl, Or.inr rfl, Or.inl rfl, trivial⟩ ?_
        exact gB_X10_goesSo_94 hrf x1 x3 x4 x5 _ h
      · have h := h.2 c3
        refine G_aload_n (i := 0) pX10_goesSo_37 rfl rfl ?_
        refine G_iload_n (i := 1) pX10_goesSo_38 rfl rfl ?_
        refine G_callV1v (b := 76) (ci := 10) (N := 29) pX10_goesSo_39 (g_X10_looksAhead x1 hrf _ h) mV_X10_looksAhead ml_RX10_201 (by decide) ⟨Nat.le_refl _, Nat.le_refl _, Nat.le_refl _⟩ (Nat.le_of_ble_eq_true rfl) ltk_76 shk_76 rfl ?_
        intro rf m4 hrf h
        refine G_aload_n (i := 0) pX10_goesSo_42 rfl rfl ?_
        refine G_iload_n (i := 1) pX10_goesSo_43 rfl rfl ?_
        refine G_iconst pX10_goesSo_44 ic_2 ?_
        refine G_aload_n (i := 0) pX10_goesSo_45 rfl rfl ?_
        refine G_getI (ci := 10) (j := 12) (N := 29) pX10_goesSo_46 fl_RX10_195 rfl ltk_76 shk_76 (by decide) rfl ?_
        refine G_callV3v (b := 76) (ci := 10) (N := 29) pX10_goesSo_49 (g_X10_sets x1 (2 : Int32) (m4 76 12) hrf _ h) mV_X10_sets ml_RX10_83 (by decide) ⟨Nat.le_refl _, Nat.le_refl _, Nat.le_refl _⟩ (Nat.le_of_ble_eq_true rfl) ltk_76 shk_76 rfl ?_
        intro rf m5 hrf h
        refine G_aload_n (i := 0) pX10_goesSo_52 rfl rfl ?_
        refine G_iload_n (i := 1) pX10_goesSo_53 rfl rfl ?_
        refine G_iconst pX10_goesSo_54 ic_3 ?_
        refine G_aload_n (i := 0) pX10_goesSo_55 rfl rfl ?_
        refine G_getI (ci := 10) (j := 13) (N := 29) pX10_goesSo_56 fl_RX10_198 rfl ltk_76 shk_76 (by decide) rfl ?_
        refine G_callV3v (b := 76) (ci := 10) (N := 29) pX10_goesSo_59 (g_X10_sets x1 (3 : Int32) (m5 76 13) hrf _ h) mV_X10_sets ml_RX10_83 (by decide) ⟨Nat.le_refl _, Nat.le_refl _, Nat.le_refl _⟩ (Nat.le_of_ble_eq_true rfl) ltk_76 shk_76 rfl ?_
        intro rf m6 hrf h
        refine G_aload_n (i := 0) pX10_goesSo_62 rfl rfl ?_
        refine G_getR (ci := 10) (j := 22) (N := 29) pX10_goesSo_63 fl_RX10_43 rfl ltk_76 shk_76 (by decide) rfl (hrf.lit 76 22 rfl) ?_
        refine G_bipush pX10_goesSo_66 bi_40 ?_
        refine G_iload_n (i := 2) pX10_goesSo_68 rfl rfl ?_
        refine G_imul pX10_goesSo_69 ?_
        refine G_iload (i := 6) pX10_goesSo_70 rfl ?_
        refine G_iadd pX10_goesSo_72 ?_
        obtain ⟨hi7, h⟩ := h
        refine G_iald pX10_goesSo_73 ltk_88 shk_88 hi7 ?_
        refine G_aload_n (i := 0) pX10_goesSo_74 rfl rfl ?_
        refine G_getI (ci := 10) (j := 12) (N := 29) pX10_goesSo_75 fl_RX10_195 rfl ltk_76 shk_76 (by decide) rfl ?_
        refine G_icmp_ne pX10_goesSo_78 (fun c8 => ?_) (fun c8 => ?_)
        · have h := h.1 c8
          refine G_iconst pX10_goesSo_85 ic_0 ?_
          refine G_wk (L2 := [some (.ref 76), some (.int x1), some (.int x2), some (.int x3), some (.int x4), none, some (.int x6)]) ⟨Or.inr rfl, Or.inr rfl, Or.inr rfl, Or.inr rfl, Or.inr rfl, Or.inl rfl, Or.inr rfl, trivial⟩ ?_
          exact gB_X10_goesSo_86 hrf x1 x2 x3 x4 x6 (0 : Int32) hX21 _ h
        · have h := h.2 c8
          refine G_iconst pX10_goesSo_81 ic_1 ?_
          refine G_goto pX10_goesSo_82 ?_
          refine G_wk (L2 := [some (.ref 76), some (.int x1), some (.int x2), some (.int x3), some (.int x4), none, some (.int x6)]) ⟨Or.inr rfl, Or.inr rfl, Or.inr rfl, Or.inr rfl, Or.inr rfl, Or.inl rfl, Or.inr rfl, trivial⟩ ?_
          exact gB_X10_goesSo_86 hrf x1 x2 x3 x4 x6 (1 : Int32) hX21 _ h
  exact key n rf _ _ _ hrf h0
def L_X10_goesSo (a1 : Int32) (a2 : Int32) (mem : MMt) (Q : Int32 → MMt → Prop) : Prop := L_X10_of a1 (2 : Int32) mem (fun r2 m1 => L_X10_of a1 (3 : Int32) m1 (fun r4 m3 => B_X10_goesSo_21 a1 a2 r2 r4 (1 : Int32) (0 : Int32) m3 Q))
set_option maxRecDepth 4000 in
theorem g_X10_goesSo {sx : Nat × (Nat → Int32)} {rf : RFt} {Q : Int32 → MMt → Prop} (a1 : Int32) (a2 : Int32) (hrf : RFok rf) (mem : MMt) (h : L_X10_goesSo a1 a2 mem Q) : Ct sx yX10_goesSo cX10_goesSo 7 (some .boolean) 6 [.ref 76, .int a1, .int a2] NX NX rf mem (QQi (RFok) Q) := by
  refine Ct_of [some (.ref 76), some (.int a1), some (.int a2), none, none, none, none] (by decide +kernel) (by simp [Lof, Value.category]) rfl ?_
  unfold L_X10_goesSo at h
  refine G_aload_n (i := 0) pX10_goesSo_0 rfl rfl ?_
  refine G_iload_n (i := 1) pX10_goesSo_1 rfl rfl ?_
  refine G_iconst pX10_goesSo_2 ic_2 ?_
  refine G_callV2i (b := 76) (ci := 10) (N := 29) pX10_goesSo_3 (g_X10_of a1 (2 : Int32) hrf _ h) mV_X10_of ml_RX10_61 (by decide) ⟨Nat.le_refl _, Nat.le_refl _, Nat.le_refl _⟩ (Nat.le_of_ble_eq_true rfl) ltk_76 shk_76 rfl ?_
  intro r2 rf m1 hrf h hr2
  refine G_istore_n (i := 3) (L' := [some (.ref 76), some (.int a1), some (.int a2), some (.int r2), none, none, none]) pX10_goesSo_6 rfl rfl ?_
  refine G_aload_n (i := 0) pX10_goesSo_7 rfl rfl ?_
  refine G_iload_n (i := 1) pX10_goesSo_8 rfl rfl ?_
  refine G_iconst pX10_goesSo_9 ic_3 ?_
  refine G_callV2i (b := 76) (ci := 10) (N := 29) pX10_goesSo_10 (g_X10_of a1 (3 : Int32) hrf _ h) mV_X10_of ml_RX10_61 (by decide) ⟨Nat.le_refl _, Nat.le_refl _, Nat.le_refl _⟩ (Nat.le_of_ble_eq_true rfl) ltk_76 shk_76 rfl ?_
  intro r4 rf m3 hrf h hr4
  refine G_istore (i := 4) (L' := [some (.ref 76), some (.int a1), some (.int a2), some (.int r2), some (.int r4), none, none]) pX10_goesSo_13 rfl ?_
  refine G_iconst pX10_goesSo_15 ic_1 ?_
  refine G_istore (i := 5) (L' := [some (.ref 76), some (.int a1), some (.int a2), some (.int r2), some (.int r4), some (.int (1 : Int32)), none]) pX10_goesSo_16 rfl ?_
  refine G_iconst pX10_goesSo_18 ic_0 ?_
  refine G_istore (i := 6) (L' := [some (.ref 76), some (.int a1), some (.int a2), some (.int r2), some (.int r4), some (.int (1 : Int32)), some (.int (0 : Int32))]) pX10_goesSo_19 rfl ?_
  exact gB_X10_goesSo_21 hrf a1 a2 r2 r4 (1 : Int32) (0 : Int32) _ h
def B_X10_rolled_64 (x1 : Int32) (x2 : Int32) (x3 : Int32) (x4 : Int32) (x5 : Int32) (x6 : Int32) (x7 : Int32) (mem : MMt) (Q : Int32 → MMt → Prop) : Prop := LOOP (σ := Int32 × Int32 × Int32 × MMt) (fun X64 z => (fun (x5 : Int32) (x6 : Int32) (x7 : Int32) (mem : MMt) => ((x7 < (-9 : Int32) → L_X10_sets x1 (3 : Int32) x4 mem (fun m2 => ((¬ x6 = 0 → ((¬ x3 = 0 → Q x6 m2) ∧ (x3 = 0 → Q x5 m2))) ∧ (x6 = 0 → L_X10_error (2 : Int32) m2 (fun r6 m5 => Q r6 m5))))) ∧ (¬ x7 < (-9 : Int32) → L_X10_sets x1 (3 : Int32) x7 mem (fun m7 => L_X10_goesSo x1 x2 m7 (fun r9 m8 => ((r9 = 0 → (∀ v11 : Int32, v11 = x7 + (-1 : Int32) → X64 (x5, x6, v11, m8))) ∧ (¬ r9 = 0 → (∀ v12 : Int32, v12 = x6 + (1 : Int32) → (∀ v13 : Int32, v13 = x7 + (-1 : Int32) → X64 (x7, v12, v13, m8)))))))))) z.1 z.2.1 z.2.2.1 z.2.2.2) (x5, x6, x7, mem)
set_option maxRecDepth 4000 in
theorem gB_X10_rolled_64 {sx : Nat × (Nat → Int32)} {rf : RFt} {Q : Int32 → MMt → Prop} (hrf : RFok rf) (x1 : Int32) (x2 : Int32) (x3 : Int32) (x4 : Int32) (x5 : Int32) (x6 : Int32) (x7 : Int32) (mem : MMt) (h : B_X10_rolled_64 x1 x2 x3 x4 x5 x6 x7 mem Q) : G sx yX10_rolled cX10_rolled 8 (some .int) 7 NX NX (QQi (RFok) Q) NX rf mem 64 [some (.ref 76), some (.int x1), some (.int x2), some (.int x3), some (.int x4), some (.int x5), some (.int x6), some (.int x7)] [] := by
  obtain ⟨I, ⟨n, h0⟩, hI⟩ := h
  have key : ∀ (n : Nat) (rf : RFt) (x5 : Int32) (x6 : Int32) (x7 : Int32) (mem : MMt), RFok rf → I n (x5, x6, x7, mem) → G sx yX10_rolled cX10_rolled 8 (some .int) 7 NX NX (QQi (RFok) Q) NX rf mem 64 [some (.ref 76), some (.int x1), some (.int x2), some (.int x3), some (.int x4), some (.int x5), some (.int x6), some (.int x7)] [] := by
    intro n
    induction n using Nat.strongRecOn with
    | _ n ih =>
    intro rf x5 x6 x7 mem hrf h0
    have hX64 : ∀ (rf : RFt) (x5 : Int32) (x6 : Int32) (x7 : Int32) (mem : MMt), RFok rf → (fun s' => ∃ m, m < n ∧ I m s') (x5, x6, x7, mem) → G sx yX10_rolled cX10_rolled 8 (some .int) 7 NX NX (QQi (RFok) Q) NX rf mem 64 [some (.ref 76), some (.int x1), some (.int x2), some (.int x3), some (.int x4), some (.int x5), some (.int x6), some (.int x7)] [] := fun rf x5 x6 x7 mem hrf ⟨m, hm, hi⟩ => ih m hm rf x5 x6 x7 mem hrf hi
    have h := hI n _ h0
    clear ih h0
    try dsimp only at h
    refine G_iload (i := 7) pX10_rolled_64 rfl ?_
    refine G_bipush pX10_rolled_66 bi_m9 ?_
    refine G_icmp_lt pX10_rolled_68 (fun c1 => ?_) (fun c1 => ?_)
    · have h := h.1 c1
      refine G_aload_n (i := 0) pX10_rolled_101 rfl rfl ?_
      refine G_iload_n (i := 1) pX10_rolled_102 rfl rfl ?_
      refine G_iconst pX10_rolled_103 ic_3 ?_
      refine G_iload (i := 4) pX10_rolled_104 rfl ?_
      refine G_callV3v (b := 76) (ci := 10) (N := 29) pX10_rolled_106 (g_X10_sets x1 (3 : Int32) x4 hrf _ h) mV_X10_sets ml_RX10_83 (by decide) ⟨Nat.le_refl _, Nat.le_refl _, Nat.le_refl _⟩ (Nat.le_of_ble_eq_true rfl) ltk_76 shk_76 rfl ?_
      intro rf m2 hrf h
      refine G_iload (i := 6) pX10_rolled_109 rfl ?_
      refine G_if_ne pX10_rolled_111 (fun c3 => ?_) (fun c3 => ?_)
      · have h := h.1 c3
        refine G_iload_n (i := 3) pX10_rolled_122 rfl rfl ?_
        refine G_if_ne pX10_rolled_123 (fun c4 => ?_) (fun c4 => ?_)
        · have h := h.1 c4
          refine G_iload (i := 6) pX10_rolled_131 rfl ?_
          exact G_ireturn (len := 1) pX10_rolled_133 ⟨hrf, _, rfl, h⟩ ⟨_, rfl, rfl⟩
        · have h := h.2 c4
          refine G_iload (i := 5) pX10_rolled_126 rfl ?_
          refine G_goto pX10_rolled_128 ?_
          exact G_ireturn (len := 1) pX10_rolled_133 ⟨hrf, _, rfl, h⟩ ⟨_, rfl, rfl⟩
      · have h := h.2 c3
        refine G_aload_n (i := 0) pX10_rolled_114 rfl rfl ?_
        refine G_iconst pX10_rolled_115 ic_2 ?_
        refine G_callV1i (b := 76) (ci := 10) (N := 29) pX10_rolled_116 (g_X10_error (2 : Int32) hrf _ h) mV_X10_error ml_RX10_79 (by decide) ⟨Nat.le_refl _, Nat.le_refl _, Nat.le_refl _⟩ (Nat.le_of_ble_eq_true rfl) ltk_76 shk_76 rfl ?_
        intro r6 rf m5 hrf h hr6
        refine G_goto pX10_rolled_119 ?_
        exact G_ireturn (len := 1) pX10_rolled_133 ⟨hrf, _, rfl, h⟩ ⟨_, rfl, rfl⟩
    · have h := h.2 c1
      refine G_aload_n (i := 0) pX10_rolled_71 rfl rfl ?_
      refine G_iload_n (i := 1) pX10_rolled_72 rfl rfl ?_
      refine G_iconst pX10_rolled_73 ic_3 ?_
      refine G_iload (i := 7) pX10_rolled_74 rfl ?_
      refine G_callV3v (b := 76) (ci := 10) (N := 29) pX10_rolled_76 (g_X10_sets x1 (3 : Int32) x7 hrf _ h) mV_X10_sets ml_RX10_83 (by decide) ⟨Nat.le_refl _, Nat.le_refl _, Nat.le_refl _⟩ (Nat.le_of_ble_eq_true rfl) ltk_76 shk_76 rfl ?_
      intro rf m7 hrf h
      refine G_aload_n (i := 0) pX10_rolled_79 rfl rfl ?_
      refine G_iload_n (i := 1) pX10_rolled_80 rfl rfl ?_
      refine G_iload_n (i := 2) pX10_rolled_81 rfl rfl ?_
      refine G_callV2i (b := 76) (ci := 10) (N := 29) pX10_rolled_82 (g_X10_goesSo x1 x2 hrf _ h) mV_X10_goesSo ml_RX10_269 (by decide) ⟨Nat.le_refl _, Nat.le_refl _, Nat.le_refl _⟩ (Nat.le_of_ble_eq_true rfl) ltk_76 shk_76 rfl ?_
      intro r9 rf m8 hrf h hr9
      refine G_if_eq pX10_rolled_85 (fun c10 => ?_) (fun c10 => ?_)
      · have h := h.1 c10
        obtain ⟨v11, e11⟩ : ∃ z : Int32, z = x7 + (-1 : Int32) := ⟨_, rfl⟩
        have h := h v11 e11
        refine G_iincW (L' := [some (.ref 76), some (.int x1), some (.int x2), some (.int x3), some (.int x4), some (.int x5), some (.int x6), some (.int v11)]) pX10_rolled_95 rfl ic_m1 e11.symm rfl ?_
        refine G_goto pX10_rolled_98 ?_
        exact hX64 _ _ _ _ _ hrf h
      · have h := h.2 c10
        refine G_iload (i := 7) pX10_rolled_88 rfl ?_
        refine G_istore (i := 5) (L' := [some (.ref 76), some (.int x1), some (.int x2), some (.int x3), some (.int x4), some (.int x7), some (.int x6), some (.int x7)]) pX10_rolled_90 rfl ?_
        obtain ⟨v12, e12⟩ : ∃ z : Int32, z = x6 + (1 : Int32) := ⟨_, rfl⟩
        have h := h v12 e12
        refine G_iincW (L' := [some (.ref 76), some (.int x1), some (.int x2), some (.int x3), some (.int x4), some (.int x7), some (.int v12), some (.int x7)]) pX10_rolled_92 rfl ic_1 e12.symm rfl ?_
        obtain ⟨v13, e13⟩ : ∃ z : Int32, z = x7 + (-1 : Int32) := ⟨_, rfl⟩
        have h := h v13 e13
        refine G_iincW (L' := [some (.ref 76), some (.int x1), some (.int x2), some (.int x3), some (.int x4), some (.int x7), some (.int v12), some (.int v13)]) pX10_rolled_95 rfl ic_m1 e13.symm rfl ?_
        refine G_goto pX10_rolled_98 ?_
        exact hX64 _ _ _ _ _ hrf h
  exact key n rf _ _ _ _ hrf h0
def L_X10_rolled (a1 : Int32) (a2 : Int32) (a3 : Int32) (mem : MMt) (Q : Int32 → MMt → Prop) : Prop := L_X10_isGood a1 mem (fun r2 m1 => ((r2 = 0 → L_X10_error (1 : Int32) m1 (fun r5 m4 => Q r5 m4)) ∧ (¬ r2 = 0 → L_X10_isSheet a2 m1 (fun r7 m6 => ((r7 = 0 → L_X10_error (1 : Int32) m6 (fun r10 m9 => Q r10 m9)) ∧ (¬ r7 = 0 → L_X10_isIn a3.toInt64 (0 : Int64) (1 : Int64) m6 (fun r12 m11 => ((¬ r12 = 0 → (vp_in a2 4 ∧ ((¬ (m11 86 a2.toNatClampNeg) = 0 → L_X10_of a1 (3 : Int32) m11 (fun r17 m16 => B_X10_rolled_64 a1 a2 a3 r17 (0 : Int32) (0 : Int32) (9 : Int32) m16 Q)) ∧ ((m11 86 a2.toNatClampNeg) = 0 → L_X10_error (2 : Int32) m11 (fun r19 m18 => Q r19 m18))))) ∧ (r12 = 0 → L_X10_error (1 : Int32) m11 (fun r21 m20 => Q r21 m20))))))))))
set_option maxRecDepth 4000 in
theorem g_X10_rolled {sx : Nat × (Nat → Int32)} {rf : RFt} {Q : Int32 → MMt → Prop} (a1 : Int32) (a2 : Int32) (a3 : Int32) (hrf : RFok rf) (mem : MMt) (h : L_X10_rolled a1 a2 a3 mem Q) : Ct sx yX10_rolled cX10_rolled 8 (some .int) 7 [.ref 76, .int a1, .int a2, .int a3] NX NX rf mem (QQi (RFok) Q) := by
  refine Ct_of [some (.ref 76), some (.int a1), some (.int a2), some (.int a3), none, none, none, none] (by decide +kernel) (by simp [Lof, Value.category]) rfl ?_
  unfold L_X10_rolled at h
  refine G_aload_n (i := 0) pX10_rolled_0 rfl rfl ?_
  refine G_iload_n (i := 1) pX10_rolled_1 rfl rfl ?_
  refine G_callV1i (b := 76) (ci := 10) (N := 29) pX10_rolled_2 (g_X10_isGood a1 hrf _ h) mV_X10_isGood ml_RX10_87 (by decide) ⟨Nat.le_refl _, Nat.le_refl _, Nat.le_refl _⟩ (Nat.le_of_ble_eq_true rfl) ltk_76 shk_76 rfl ?_
  intro r2 rf m1 hrf h hr2
  refine G_if_eq pX10_rolled_5 (fun c3 => ?_) (fun c3 => ?_)
  · have h := h.1 c3
    refine G_aload_n (i := 0) pX10_rolled_25 rfl rfl ?_
    refine G_iconst pX10_rolled_26 ic_1 ?_
    refine G_callV1i (b := 76) (ci := 10) (N := 29) pX10_rolled_27 (g_X10_error (1 : Int32) hrf _ h) mV_X10_error ml_RX10_79 (by decide) ⟨Nat.le_refl _, Nat.le_refl _, Nat.le_refl _⟩ (Nat.le_of_ble_eq_true rfl) ltk_76 shk_76 rfl ?_
    intro r5 rf m4 hrf h hr5
    exact G_ireturn (len := 1) pX10_rolled_30 ⟨hrf, _, rfl, h⟩ ⟨_, rfl, rfl⟩
  · have h := h.2 c3
    refine G_iload_n (i := 2) pX10_rolled_8 rfl rfl ?_
    refine G_callS1i pX10_rolled_9 (g_X10_isSheet a2 hrf _ h) mS_X10_isSheet ml_RX10_266 (by decide) ⟨Nat.le_refl _, Nat.le_refl _, Nat.le_refl _⟩ (Nat.le_of_ble_eq_true rfl) ?_
    intro r7 rf m6 hrf h hr7
    refine G_if_eq pX10_rolled_12 (fun c8 => ?_) (fun c8 => ?_)
    · have h := h.1 c8
      refine G_aload_n (i := 0) pX10_rolled_25 rfl rfl ?_
      refine G_iconst pX10_rolled_26 ic_1 ?_
      refine G_callV1i (b := 76) (ci := 10) (N := 29) pX10_rolled_27 (g_X10_error (1 : Int32) hrf _ h) mV_X10_error ml_RX10_79 (by decide) ⟨Nat.le_refl _, Nat.le_refl _, Nat.le_refl _⟩ (Nat.le_of_ble_eq_true rfl) ltk_76 shk_76 rfl ?_
      intro r10 rf m9 hrf h hr10
      exact G_ireturn (len := 1) pX10_rolled_30 ⟨hrf, _, rfl, h⟩ ⟨_, rfl, rfl⟩
    · have h := h.2 c8
      refine G_iload_n (i := 3) pX10_rolled_15 rfl rfl ?_
      refine G_i2l pX10_rolled_16 ?_
      refine G_lconst pX10_rolled_17 lc_0 ?_
      refine G_lconst pX10_rolled_18 lc_1 ?_
      refine G_callS3i pX10_rolled_19 (g_X10_isIn a3.toInt64 (0 : Int64) (1 : Int64) hrf _ h) mS_X10_isIn ml_RX10_53 (by decide) ⟨Nat.le_refl _, Nat.le_refl _, Nat.le_refl _⟩ (Nat.le_of_ble_eq_true rfl) ?_
      intro r12 rf m11 hrf h hr12
      refine G_if_ne pX10_rolled_22 (fun c13 => ?_) (fun c13 => ?_)
      · have h := h.1 c13
        refine G_aload_n (i := 0) pX10_rolled_31 rfl rfl ?_
        refine G_getR (ci := 10) (j := 20) (N := 29) pX10_rolled_32 fl_RX10_37 rfl ltk_76 shk_76 (by decide) rfl (hrf.lit 76 20 rfl) ?_
        refine G_iload_n (i := 2) pX10_rolled_35 rfl rfl ?_
        obtain ⟨hi14, h⟩ := h
        refine G_iald pX10_rolled_36 ltk_86 shk_86 hi14 ?_
        refine G_if_ne pX10_rolled_37 (fun c15 => ?_) (fun c15 => ?_)
        · have h := h.1 c15
          refine G_aload_n (i := 0) pX10_rolled_46 rfl rfl ?_
          refine G_iload_n (i := 1) pX10_rolled_47 rfl rfl ?_
          refine G_iconst pX10_rolled_48 ic_3 ?_
          refine G_callV2i (b := 76) (ci := 10) (N := 29) pX10_rolled_49 (g_X10_of a1 (3 : Int32) hrf _ h) mV_X10_of ml_RX10_61 (by decide) ⟨Nat.le_refl _, Nat.le_refl _, Nat.le_refl _⟩ (Nat.le_of_ble_eq_true rfl) ltk_76 shk_76 rfl ?_
          intro r17 rf m16 hrf h hr17
          refine G_istore (i := 4) (L' := [some (.ref 76), some (.int a1), some (.int a2), some (.int a3), some (.int r17), none, none, none]) pX10_rolled_52 rfl ?_
          refine G_iconst pX10_rolled_54 ic_0 ?_
          refine G_istore (i := 5) (L' := [some (.ref 76), some (.int a1), some (.int a2), some (.int a3), some (.int r17), some (.int (0 : Int32)), none, none]) pX10_rolled_55 rfl ?_
          refine G_iconst pX10_rolled_57 ic_0 ?_
          refine G_istore (i := 6) (L' := [some (.ref 76), some (.int a1), some (.int a2), some (.int a3), some (.int r17), some (.int (0 : Int32)), some (.int (0 : Int32)), none]) pX10_rolled_58 rfl ?_
          refine G_bipush pX10_rolled_60 bi_9 ?_
          refine G_istore (i := 7) (L' := [some (.ref 76), some (.int a1), some (.int a2), some (.int a3), some (.int r17), some (.int (0 : Int32)), some (.int (0 : Int32)), some (.int (9 : Int32))]) pX10_rolled_62 rfl ?_
          exact gB_X10_rolled_64 hrf a1 a2 a3 r17 (0 : Int32) (0 : Int32) (9 : Int32) _ h
        · have h := h.2 c15
          refine G_aload_n (i := 0) pX10_rolled_40 rfl rfl ?_
          refine G_iconst pX10_rolled_41 ic_2 ?_
          refine G_callV1i (b := 76) (ci := 10) (N := 29) pX10_rolled_42 (g_X10_error (2 : Int32) hrf _ h) mV_X10_error ml_RX10_79 (by decide) ⟨Nat.le_refl _, Nat.le_refl _, Nat.le_refl _⟩ (Nat.le_of_ble_eq_true rfl) ltk_76 shk_76 rfl ?_
          intro r19 rf m18 hrf h hr19
          exact G_ireturn (len := 1) pX10_rolled_45 ⟨hrf, _, rfl, h⟩ ⟨_, rfl, rfl⟩
      · have h := h.2 c13
        refine G_aload_n (i := 0) pX10_rolled_25 rfl rfl ?_
        refine G_iconst pX10_rolled_26 ic_1 ?_
        refine G_callV1i (b := 76) (ci := 10) (N := 29) pX10_rolled_27 (g_X10_error (1 : Int32) hrf _ h) mV_X10_error ml_RX10_79 (by decide) ⟨Nat.le_refl _, Nat.le_refl _, Nat.le_refl _⟩ (Nat.le_of_ble_eq_true rfl) ltk_76 shk_76 rfl ?_
        intro r21 rf m20 hrf h hr21
        exact G_ireturn (len := 1) pX10_rolled_30 ⟨hrf, _, rfl, h⟩ ⟨_, rfl, rfl⟩
def B_X10_whose_79 (X50 : Int32 × Int32 × MMt → Prop) (x1 : Int32) (x2 : Int32) (x3 : Int32) (x5 : Int32) (s0 : Int32) (mem : MMt) (Q : Int32 → MMt → Prop) : Prop := (∀ v1 : Int32, v1 = x5 + (-1 : Int32) → X50 (s0, v1, mem))
set_option maxRecDepth 4000 in
theorem gB_X10_whose_79 {sx : Nat × (Nat → Int32)} {X50 : Int32 × Int32 × MMt → Prop} {rf : RFt} {Q : Int32 → MMt → Prop} (hrf : RFok rf) (x1 : Int32) (x2 : Int32) (x3 : Int32) (x5 : Int32) (s0 : Int32) (hX50 : ∀ (rf : RFt) (x4 : Int32) (x5 : Int32) (mem : MMt), RFok rf → X50 (x4, x5, mem) → G sx yX10_whose cX10_whose 6 (some .int) 7 NX NX (QQi (RFok) Q) NX rf mem 50 [some (.ref 76), some (.int x1), some (.int x2), some (.int x3), some (.int x4), some (.int x5)] []) (mem : MMt) (h : B_X10_whose_79 X50 x1 x2 x3 x5 s0 mem Q) : G sx yX10_whose cX10_whose 6 (some .int) 7 NX NX (QQi (RFok) Q) NX rf mem 79 [some (.ref 76), some (.int x1), some (.int x2), some (.int x3), none, some (.int x5)] [.int s0] := by
  unfold B_X10_whose_79 at h
  refine G_istore (i := 4) (L' := [some (.ref 76), some (.int x1), some (.int x2), some (.int x3), some (.int s0), some (.int x5)]) pX10_whose_79 rfl ?_
  obtain ⟨v1, e1⟩ : ∃ z : Int32, z = x5 + (-1 : Int32) := ⟨_, rfl⟩
  have h := h v1 e1
  refine G_iincW (L' := [some (.ref 76), some (.int x1), some (.int x2), some (.int x3), some (.int s0), some (.int v1)]) pX10_whose_81 rfl ic_m1 e1.symm rfl ?_
  refine G_goto pX10_whose_84 ?_
  exact hX50 _ _ _ _ hrf h
def B_X10_whose_50 (x1 : Int32) (x2 : Int32) (x3 : Int32) (x4 : Int32) (x5 : Int32) (mem : MMt) (Q : Int32 → MMt → Prop) : Prop := LOOP (σ := Int32 × Int32 × MMt) (fun X50 z => (fun (x4 : Int32) (x5 : Int32) (mem : MMt) => ((x5 < 0 → L_X10_sets x1 (0 : Int32) x3 mem (fun m2 => ((0 ≤ x4 → Q x4 m2) ∧ (¬ 0 ≤ x4 → L_X10_error (2 : Int32) m2 (fun r5 m4 => Q r5 m4))))) ∧ (¬ x5 < 0 → L_X10_sets x1 (0 : Int32) x5 mem (fun m6 => L_X10_goesSo x1 x2 m6 (fun r8 m7 => ((r8 = 0 → B_X10_whose_79 X50 x1 x2 x3 x5 x4 m7 Q) ∧ (¬ r8 = 0 → B_X10_whose_79 X50 x1 x2 x3 x5 x5 m7 Q))))))) z.1 z.2.1 z.2.2) (x4, x5, mem)
set_option maxRecDepth 4000 in
theorem gB_X10_whose_50 {sx : Nat × (Nat → Int32)} {rf : RFt} {Q : Int32 → MMt → Prop} (hrf : RFok rf) (x1 : Int32) (x2 : Int32) (x3 : Int32) (x4 : Int32) (x5 : Int32) (mem : MMt) (h : B_X10_whose_50 x1 x2 x3 x4 x5 mem Q) : G sx yX10_whose cX10_whose 6 (some .int) 7 NX NX (QQi (RFok) Q) NX rf mem 50 [some (.ref 76), some (.int x1), some (.int x2), some (.int x3), some (.int x4), some (.int x5)] [] := by
  obtain ⟨I, ⟨n, h0⟩, hI⟩ := h
  have key : ∀ (n : Nat) (rf : RFt) (x4 : Int32) (x5 : Int32) (mem : MMt), RFok rf → I n (x4, x5, mem) → G sx yX10_whose cX10_whose 6 (some .int) 7 NX NX (QQi (RFok) Q) NX rf mem 50 [some (.ref 76), some (.int x1), some (.int x2), some (.int x3), some (.int x4), some (.int x5)] [] := by
    intro n
    induction n using Nat.strongRecOn with
    | _ n ih =>
    intro rf x4 x5 mem hrf h0
    have hX50 : ∀ (rf : RFt) (x4 : Int32) (x5 : Int32) (mem : MMt), RFok rf → (fun s' => ∃ m, m < n ∧ I m s') (x4, x5, mem) → G sx yX10_whose cX10_whose 6 (some .int) 7 NX NX (QQi (RFok) Q) NX rf mem 50 [some (.ref 76), some (.int x1), some (.int x2), some (.int x3), some (.int x4), some (.int x5)] [] := fun rf x4 x5 mem hrf ⟨m, hm, hi⟩ => ih m hm rf x4 x5 mem hrf hi
    have h := hI n _ h0
    clear ih h0
    try dsimp only at h
    refine G_iload (i := 5) pX10_whose_50 rfl ?_
    refine G_if_lt pX10_whose_52 (fun c1 => ?_) (fun c1 => ?_)
    · have h := h.1 c1
      refine G_aload_n (i := 0) pX10_whose_87 rfl rfl ?_
      refine G_iload_n (i := 1) pX10_whose_88 rfl rfl ?_
      refine G_iconst pX10_whose_89 ic_0 ?_
      refine G_iload_n (i := 3) pX10_whose_90 rfl rfl ?_
      refine G_callV3v (b := 76) (ci := 10) (N := 29) pX10_whose_91 (g_X10_sets x1 (0 : Int32) x3 hrf _ h) mV_X10_sets ml_RX10_83 (by decide) ⟨Nat.le_refl _, Nat.le_refl _, Nat.le_refl _⟩ (Nat.le_of_ble_eq_true rfl) ltk_76 shk_76 rfl ?_
      intro rf m2 hrf h
      refine G_iload (i := 4) pX10_whose_94 rfl ?_
      refine G_if_ge pX10_whose_96 (fun c3 => ?_) (fun c3 => ?_)
      · have h := h.1 c3
        refine G_iload (i := 4) pX10_whose_107 rfl ?_
        exact G_ireturn (len := 1) pX10_whose_109 ⟨hrf, _, rfl, h⟩ ⟨_, rfl, rfl⟩
      · have h := h.2 c3
        refine G_aload_n (i := 0) pX10_whose_99 rfl rfl ?_
        refine G_iconst pX10_whose_100 ic_2 ?_
        refine G_callV1i (b := 76) (ci := 10) (N := 29) pX10_whose_101 (g_X10_error (2 : Int32) hrf _ h) mV_X10_error ml_RX10_79 (by decide) ⟨Nat.le_refl _, Nat.le_refl _, Nat.le_refl _⟩ (Nat.le_of_ble_eq_true rfl) ltk_76 shk_76 rfl ?_
        intro r5 rf m4 hrf h hr5
        refine G_goto pX10_whose_104 ?_
        exact G_ireturn (len := 1) pX10_whose_109 ⟨hrf, _, rfl, h⟩ ⟨_, rfl, rfl⟩
    · have h := h.2 c1
      refine G_aload_n (i := 0) pX10_whose_55 rfl rfl ?_
      refine G_iload_n (i := 1) pX10_whose_56 rfl rfl ?_
      refine G_iconst pX10_whose_57 ic_0 ?_
      refine G_iload (i := 5) pX10_whose_58 rfl ?_
      refine G_callV3v (b := 76) (ci := 10) (N := 29) pX10_whose_60 (g_X10_sets x1 (0 : Int32) x5 hrf _ h) mV_X10_sets ml_RX10_83 (by decide) ⟨Nat.le_refl _, Nat.le_refl _, Nat.le_refl _⟩ (Nat.le_of_ble_eq_true rfl) ltk_76 shk_76 rfl ?_
      intro rf m6 hrf h
      refine G_aload_n (i := 0) pX10_whose_63 rfl rfl ?_
      refine G_iload_n (i := 1) pX10_whose_64 rfl rfl ?_
      refine G_iload_n (i := 2) pX10_whose_65 rfl rfl ?_
      refine G_callV2i (b := 76) (ci := 10) (N := 29) pX10_whose_66 (g_X10_goesSo x1 x2 hrf _ h) mV_X10_goesSo ml_RX10_269 (by decide) ⟨Nat.le_refl _, Nat.le_refl _, Nat.le_refl _⟩ (Nat.le_of_ble_eq_true rfl) ltk_76 shk_76 rfl ?_
      intro r8 rf m7 hrf h hr8
      refine G_if_eq pX10_whose_69 (fun c9 => ?_) (fun c9 => ?_)
      · have h := h.1 c9
        refine G_iload (i := 4) pX10_whose_77 rfl ?_
        refine G_wk (L2 := [some (.ref 76), some (.int x1), some (.int x2), some (.int x3), none, some (.int x5)]) ⟨Or.inr rfl, Or.inr rfl, Or.inr rfl, Or.inr rfl, Or.inl rfl, Or.inr rfl, trivial⟩ ?_
        exact gB_X10_whose_79 hrf x1 x2 x3 x5 x4 hX50 _ h
      · have h := h.2 c9
        refine G_iload (i := 5) pX10_whose_72 rfl ?_
        refine G_goto pX10_whose_74 ?_
        refine G_wk (L2 := [some (.ref 76), some (.int x1), some (.int x2), some (.int x3), none, some (.int x5)]) ⟨Or.inr rfl, Or.inr rfl, Or.inr rfl, Or.inr rfl, Or.inl rfl, Or.inr rfl, trivial⟩ ?_
        exact gB_X10_whose_79 hrf x1 x2 x3 x5 x5 hX50 _ h
  exact key n rf _ _ _ hrf h0
def L_X10_whose (a1 : Int32) (a2 : Int32) (mem : MMt) (Q : Int32 → MMt → Prop) : Prop := L_X10_isGood a1 mem (fun r2 m1 => ((r2 = 0 → L_X10_error (1 : Int32) m1 (fun r5 m4 => Q r5 m4)) ∧ (¬ r2 = 0 → L_X10_isSheet a2 m1 (fun r7 m6 => ((¬ r7 = 0 → (vp_in a2 4 ∧ ((¬ (m6 86 a2.toNatClampNeg) = 0 → L_X10_of a1 (0 : Int32) m6 (fun r12 m11 => B_X10_whose_50 a1 a2 r12 (-1 : Int32) (6 : Int32) m11 Q)) ∧ ((m6 86 a2.toNatClampNeg) = 0 → L_X10_error (2 : Int32) m6 (fun r14 m13 => Q r14 m13))))) ∧ (r7 = 0 → L_X10_error (1 : Int32) m6 (fun r16 m15 => Q r16 m15)))))))
set_option maxRecDepth 4000 in
theorem g_X10_whose {sx : Nat × (Nat → Int32)} {rf : RFt} {Q : Int32 → MMt → Prop} (a1 : Int32) (a2 : Int32) (hrf : RFok rf) (mem : MMt) (h : L_X10_whose a1 a2 mem Q) : Ct sx yX10_whose cX10_whose 6 (some .int) 7 [.ref 76, .int a1, .int a2] NX NX rf mem (QQi (RFok) Q) := by
  refine Ct_of [some (.ref 76), some (.int a1), some (.int a2), none, none, none] (by decide +kernel) (by simp [Lof, Value.category]) rfl ?_
  unfold L_X10_whose at h
  refine G_aload_n (i := 0) pX10_whose_0 rfl rfl ?_
  refine G_iload_n (i := 1) pX10_whose_1 rfl rfl ?_
  refine G_callV1i (b := 76) (ci := 10) (N := 29) pX10_whose_2 (g_X10_isGood a1 hrf _ h) mV_X10_isGood ml_RX10_87 (by decide) ⟨Nat.le_refl _, Nat.le_refl _, Nat.le_refl _⟩ (Nat.le_of_ble_eq_true rfl) ltk_76 shk_76 rfl ?_
  intro r2 rf m1 hrf h hr2
  refine G_if_eq pX10_whose_5 (fun c3 => ?_) (fun c3 => ?_)
  · have h := h.1 c3
    refine G_aload_n (i := 0) pX10_whose_15 rfl rfl ?_
    refine G_iconst pX10_whose_16 ic_1 ?_
    refine G_callV1i (b := 76) (ci := 10) (N := 29) pX10_whose_17 (g_X10_error (1 : Int32) hrf _ h) mV_X10_error ml_RX10_79 (by decide) ⟨Nat.le_refl _, Nat.le_refl _, Nat.le_refl _⟩ (Nat.le_of_ble_eq_true rfl) ltk_76 shk_76 rfl ?_
    intro r5 rf m4 hrf h hr5
    exact G_ireturn (len := 1) pX10_whose_20 ⟨hrf, _, rfl, h⟩ ⟨_, rfl, rfl⟩
  · have h := h.2 c3
    refine G_iload_n (i := 2) pX10_whose_8 rfl rfl ?_
    refine G_callS1i pX10_whose_9 (g_X10_isSheet a2 hrf _ h) mS_X10_isSheet ml_RX10_266 (by decide) ⟨Nat.le_refl _, Nat.le_refl _, Nat.le_refl _⟩ (Nat.le_of_ble_eq_true rfl) ?_
    intro r7 rf m6 hrf h hr7
    refine G_if_ne pX10_whose_12 (fun c8 => ?_) (fun c8 => ?_)
    · have h := h.1 c8
      refine G_aload_n (i := 0) pX10_whose_21 rfl rfl ?_
      refine G_getR (ci := 10) (j := 20) (N := 29) pX10_whose_22 fl_RX10_37 rfl ltk_76 shk_76 (by decide) rfl (hrf.lit 76 20 rfl) ?_
      refine G_iload_n (i := 2) pX10_whose_25 rfl rfl ?_
      obtain ⟨hi9, h⟩ := h
      refine G_iald pX10_whose_26 ltk_86 shk_86 hi9 ?_
      refine G_if_ne pX10_whose_27 (fun c10 => ?_) (fun c10 => ?_)
      · have h := h.1 c10
        refine G_aload_n (i := 0) pX10_whose_36 rfl rfl ?_
        refine G_iload_n (i := 1) pX10_whose_37 rfl rfl ?_
        refine G_iconst pX10_whose_38 ic_0 ?_
        refine G_callV2i (b := 76) (ci := 10) (N := 29) pX10_whose_39 (g_X10_of a1 (0 : Int32) hrf _ h) mV_X10_of ml_RX10_61 (by decide) ⟨Nat.le_refl _, Nat.le_refl _, Nat.le_refl _⟩ (Nat.le_of_ble_eq_true rfl) ltk_76 shk_76 rfl ?_
        intro r12 rf m11 hrf h hr12
        refine G_istore_n (i := 3) (L' := [some (.ref 76), some (.int a1), some (.int a2), some (.int r12), none, none]) pX10_whose_42 rfl rfl ?_
        refine G_iconst pX10_whose_43 ic_m1 ?_
        refine G_istore (i := 4) (L' := [some (.ref 76), some (.int a1), some (.int a2), some (.int r12), some (.int (-1 : Int32)), none]) pX10_whose_44 rfl ?_
        refine G_bipush pX10_whose_46 bi_6 ?_
        refine G_istore (i := 5) (L' := [some (.ref 76), some (.int a1), some (.int a2), some (.int r12), some (.int (-1 : Int32)), some (.int (6 : Int32))]) pX10_whose_48 rfl ?_
        exact gB_X10_whose_50 hrf a1 a2 r12 (-1 : Int32) (6 : Int32) _ h
      · have h := h.2 c10
        refine G_aload_n (i := 0) pX10_whose_30 rfl rfl ?_
        refine G_iconst pX10_whose_31 ic_2 ?_
        refine G_callV1i (b := 76) (ci := 10) (N := 29) pX10_whose_32 (g_X10_error (2 : Int32) hrf _ h) mV_X10_error ml_RX10_79 (by decide) ⟨Nat.le_refl _, Nat.le_refl _, Nat.le_refl _⟩ (Nat.le_of_ble_eq_true rfl) ltk_76 shk_76 rfl ?_
        intro r14 rf m13 hrf h hr14
        exact G_ireturn (len := 1) pX10_whose_35 ⟨hrf, _, rfl, h⟩ ⟨_, rfl, rfl⟩
    · have h := h.2 c8
      refine G_aload_n (i := 0) pX10_whose_15 rfl rfl ?_
      refine G_iconst pX10_whose_16 ic_1 ?_
      refine G_callV1i (b := 76) (ci := 10) (N := 29) pX10_whose_17 (g_X10_error (1 : Int32) hrf _ h) mV_X10_error ml_RX10_79 (by decide) ⟨Nat.le_refl _, Nat.le_refl _, Nat.le_refl _⟩ (Nat.le_of_ble_eq_true rfl) ltk_76 shk_76 rfl ?_
      intro r16 rf m15 hrf h hr16
      exact G_ireturn (len := 1) pX10_whose_20 ⟨hrf, _, rfl, h⟩ ⟨_, rfl, rfl⟩
def B_X10_manyOver_65 (R_X10_manyOver : Int32 → Int32 → Int32 → Int32 → MMt → (Int32 → MMt → Prop) → Prop) (X54 : Int32 × Int32 × MMt → Prop) (x1 : Int32) (x2 : Int32) (x3 : Int32) (x4 : Int32) (x5 : Int32) (x6 : Int32) (x7 : Int32) (x8 : Int32) (s0 : Int32) (s1 : Int32) (mem : MMt) (Q : Int32 → MMt → Prop) : Prop := ((s0 < s1 → Q x7 mem) ∧ (¬ s0 < s1 → L_X10_within (x6 + x8) (-9 : Int32) (9 : Int32) mem (fun r3 m2 => L_X10_sets x1 (3 : Int32) r3 m2 (fun m4 => L_X10_looksAhead x1 m4 (fun m5 => L_X10_sets x1 (2 : Int32) (m5 76 12) m5 (fun m6 => L_X10_sets x1 (3 : Int32) (m6 76 13) m6 (fun m7 => R_X10_manyOver x1 x2 (x3 - (1 : Int32)) (x4 - (1 : Int32)) m7 (fun r9 m8 => (∀ v10 : Int32, v10 = x7 + r9 → L_X10_sets x1 (2 : Int32) x5 m8 (fun m11 => L_X10_sets x1 (3 : Int32) x6 m11 (fun m12 => (∀ v13 : Int32, v13 = x8 + (1 : Int32) → X54 (v10, v13, m12)))))))))))))
set_option maxRecDepth 4000 in
theorem gB_X10_manyOver_65 {sx : Nat × (Nat → Int32)} {R_X10_manyOver : Int32 → Int32 → Int32 → Int32 → MMt → (Int32 → MMt → Prop) → Prop} {X54 : Int32 × Int32 × MMt → Prop} {rf : RFt} {Q : Int32 → MMt → Prop} {d0 : Nat} (hd0 : 5 ≤ d0) (hR_X10_manyOver : ∀ (rf : RFt) (a1 : Int32) (a2 : Int32) (a3 : Int32) (a4 : Int32) (mem : MMt) (Q : Int32 → MMt → Prop), RFok rf → R_X10_manyOver a1 a2 a3 a4 mem Q → Ct sx yX10_manyOver cX10_manyOver 9 (some .int) d0 [.ref 76, .int a1, .int a2, .int a3, .int a4] NX NX rf mem (QQi (RFok) Q)) (hrf : RFok rf) (x1 : Int32) (x2 : Int32) (x3 : Int32) (x4 : Int32) (x5 : Int32) (x6 : Int32) (x7 : Int32) (x8 : Int32) (s0 : Int32) (s1 : Int32) (hX54 : ∀ (rf : RFt) (x7 : Int32) (x8 : Int32) (mem : MMt), RFok rf → X54 (x7, x8, mem) → G sx yX10_manyOver cX10_manyOver 9 (some .int) (d0 + 1) NX NX (QQi (RFok) Q) NX rf mem 54 [some (.ref 76), some (.int x1), some (.int x2), some (.int x3), some (.int x4), some (.int x5), some (.int x6), some (.int x7), some (.int x8)] []) (mem : MMt) (h : B_X10_manyOver_65 R_X10_manyOver X54 x1 x2 x3 x4 x5 x6 x7 x8 s0 s1 mem Q) : G sx yX10_manyOver cX10_manyOver 9 (some .int) (d0 + 1) NX NX (QQi (RFok) Q) NX rf mem 65 [some (.ref 76), some (.int x1), some (.int x2), some (.int x3), some (.int x4), some (.int x5), some (.int x6), some (.int x7), some (.int x8)] [.int s0, .int s1] := by
  unfold B_X10_manyOver_65 at h
  refine G_icmp_gt pX10_manyOver_65 (fun c1 => ?_) (fun c1 => ?_)
  · have h := h.1 c1
    refine G_iload (i := 7) pX10_manyOver_151 rfl ?_
    exact G_ireturn (len := 1) pX10_manyOver_153 ⟨hrf, _, rfl, h⟩ ⟨_, rfl, rfl⟩
  · have h := h.2 c1
    refine G_aload_n (i := 0) pX10_manyOver_68 rfl rfl ?_
    refine G_iload_n (i := 1) pX10_manyOver_69 rfl rfl ?_
    refine G_iconst pX10_manyOver_70 ic_3 ?_
    refine G_iload (i := 6) pX10_manyOver_71 rfl ?_
    refine G_iload (i := 8) pX10_manyOver_73 rfl ?_
    refine G_iadd pX10_manyOver_75 ?_
    refine G_bipush pX10_manyOver_76 bi_m9 ?_
    refine G_bipush pX10_manyOver_78 bi_9 ?_
    refine G_callS3i pX10_manyOver_80 (g_X10_within (x6 + x8) (-9 : Int32) (9 : Int32) hrf _ h) mS_X10_within ml_RX10_112 (by omega) ⟨Nat.le_refl _, Nat.le_refl _, Nat.le_refl _⟩ (Nat.le_of_ble_eq_true rfl) ?_
    intro r3 rf m2 hrf h hr3
    refine G_callV3v (b := 76) (ci := 10) (N := 29) pX10_manyOver_83 (g_X10_sets x1 (3 : Int32) r3 hrf _ h) mV_X10_sets ml_RX10_83 (by omega) ⟨Nat.le_refl _, Nat.le_refl _, Nat.le_refl _⟩ (Nat.le_of_ble_eq_true rfl) ltk_76 shk_76 rfl ?_
    intro rf m4 hrf h
    refine G_aload_n (i := 0) pX10_manyOver_86 rfl rfl ?_
    refine G_iload_n (i := 1) pX10_manyOver_87 rfl rfl ?_
    refine G_callV1v (b := 76) (ci := 10) (N := 29) pX10_manyOver_88 (g_X10_looksAhead x1 hrf _ h) mV_X10_looksAhead ml_RX10_201 (by omega) ⟨Nat.le_refl _, Nat.le_refl _, Nat.le_refl _⟩ (Nat.le_of_ble_eq_true rfl) ltk_76 shk_76 rfl ?_
    intro rf m5 hrf h
    refine G_aload_n (i := 0) pX10_manyOver_91 rfl rfl ?_
    refine G_iload_n (i := 1) pX10_manyOver_92 rfl rfl ?_
    refine G_iconst pX10_manyOver_93 ic_2 ?_
    refine G_aload_n (i := 0) pX10_manyOver_94 rfl rfl ?_
    refine G_getI (ci := 10) (j := 12) (N := 29) pX10_manyOver_95 fl_RX10_195 rfl ltk_76 shk_76 (by decide) rfl ?_
    refine G_callV3v (b := 76) (ci := 10) (N := 29) pX10_manyOver_98 (g_X10_sets x1 (2 : Int32) (m5 76 12) hrf _ h) mV_X10_sets ml_RX10_83 (by omega) ⟨Nat.le_refl _, Nat.le_refl _, Nat.le_refl _⟩ (Nat.le_of_ble_eq_true rfl) ltk_76 shk_76 rfl ?_
    intro rf m6 hrf h
    refine G_aload_n (i := 0) pX10_manyOver_101 rfl rfl ?_
    refine G_iload_n (i := 1) pX10_manyOver_102 rfl rfl ?_
    refine G_iconst pX10_manyOver_103 ic_3 ?_
    refine G_aload_n (i := 0) pX10_manyOver_104 rfl rfl ?_
    refine G_getI (ci := 10) (j := 13) (N := 29) pX10_manyOver_105 fl_RX10_198 rfl ltk_76 shk_76 (by decide) rfl ?_
    refine G_callV3v (b := 76) (ci := 10) (N := 29) pX10_manyOver_108 (g_X10_sets x1 (3 : Int32) (m6 76 13) hrf _ h) mV_X10_sets ml_RX10_83 (by omega) ⟨Nat.le_refl _, Nat.le_refl _, Nat.le_refl _⟩ (Nat.le_of_ble_eq_true rfl) ltk_76 shk_76 rfl ?_
    intro rf m7 hrf h
    refine G_iload (i := 7) pX10_manyOver_111 rfl ?_
    refine G_aload_n (i := 0) pX10_manyOver_113 rfl rfl ?_
    refine G_iload_n (i := 1) pX10_manyOver_114 rfl rfl ?_
    refine G_iload_n (i := 2) pX10_manyOver_115 rfl rfl ?_
    refine G_iload_n (i := 3) pX10_manyOver_116 rfl rfl ?_
    refine G_iconst pX10_manyOver_117 ic_1 ?_
    refine G_isub pX10_manyOver_118 ?_
    refine G_iload (i := 4) pX10_manyOver_119 rfl ?_
    refine G_iconst pX10_manyOver_121 ic_1 ?_
    refine G_isub pX10_manyOver_122 ?_
    refine G_callV4i (b := 76) (ci := 10) (N := 29) pX10_manyOver_123 (hR_X10_manyOver _ x1 x2 (x3 - (1 : Int32)) (x4 - (1 : Int32)) _ _ hrf h) mV_X10_manyOver ml_RX10_272 (Nat.le_refl _) ⟨Nat.le_refl _, Nat.le_refl _, Nat.le_refl _⟩ (Nat.le_of_ble_eq_true rfl) ltk_76 shk_76 rfl ?_
    intro r9 rf m8 hrf h hr9
    refine G_iadd pX10_manyOver_126 ?_
    obtain ⟨v10, e10⟩ : ∃ z : Int32, z = x7 + r9 := ⟨_, rfl⟩
    have h := h v10 e10
    refine G_istoreW (L' := [some (.ref 76), some (.int x1), some (.int x2), some (.int x3), some (.int x4), some (.int x5), some (.int x6), some (.int v10), some (.int x8)]) pX10_manyOver_127 e10.symm rfl ?_
    refine G_aload_n (i := 0) pX10_manyOver_129 rfl rfl ?_
    refine G_iload_n (i := 1) pX10_manyOver_130 rfl rfl ?_
    refine G_iconst pX10_manyOver_131 ic_2 ?_
    refine G_iload (i := 5) pX10_manyOver_132 rfl ?_
    refine G_callV3v (b := 76) (ci := 10) (N := 29) pX10_manyOver_134 (g_X10_sets x1 (2 : Int32) x5 hrf _ h) mV_X10_sets ml_RX10_83 (by omega) ⟨Nat.le_refl _, Nat.le_refl _, Nat.le_refl _⟩ (Nat.le_of_ble_eq_true rfl) ltk_76 shk_76 rfl ?_
    intro rf m11 hrf h
    refine G_aload_n (i := 0) pX10_manyOver_137 rfl rfl ?_
    refine G_iload_n (i := 1) pX10_manyOver_138 rfl rfl ?_
    refine G_iconst pX10_manyOver_139 ic_3 ?_
    refine G_iload (i := 6) pX10_manyOver_140 rfl ?_
    refine G_callV3v (b := 76) (ci := 10) (N := 29) pX10_manyOver_142 (g_X10_sets x1 (3 : Int32) x6 hrf _ h) mV_X10_sets ml_RX10_83 (by omega) ⟨Nat.le_refl _, Nat.le_refl _, Nat.le_refl _⟩ (Nat.le_of_ble_eq_true rfl) ltk_76 shk_76 rfl ?_
    intro rf m12 hrf h
    obtain ⟨v13, e13⟩ : ∃ z : Int32, z = x8 + (1 : Int32) := ⟨_, rfl⟩
    have h := h v13 e13
    refine G_iincW (L' := [some (.ref 76), some (.int x1), some (.int x2), some (.int x3), some (.int x4), some (.int x5), some (.int x6), some (.int v10), some (.int v13)]) pX10_manyOver_145 rfl ic_1 e13.symm rfl ?_
    refine G_goto pX10_manyOver_148 ?_
    exact hX54 _ _ _ _ hrf h
def B_X10_manyOver_54 (R_X10_manyOver : Int32 → Int32 → Int32 → Int32 → MMt → (Int32 → MMt → Prop) → Prop) (x1 : Int32) (x2 : Int32) (x3 : Int32) (x4 : Int32) (x5 : Int32) (x6 : Int32) (x7 : Int32) (x8 : Int32) (mem : MMt) (Q : Int32 → MMt → Prop) : Prop := LOOP (σ := Int32 × Int32 × MMt) (fun X54 z => (fun (x7 : Int32) (x8 : Int32) (mem : MMt) => ((x3 ≤ 0 → B_X10_manyOver_65 R_X10_manyOver X54 x1 x2 x3 x4 x5 x6 x7 x8 (0 : Int32) x8 mem Q) ∧ (¬ x3 ≤ 0 → B_X10_manyOver_65 R_X10_manyOver X54 x1 x2 x3 x4 x5 x6 x7 x8 (1 : Int32) x8 mem Q))) z.1 z.2.1 z.2.2) (x7, x8, mem)
set_option maxRecDepth 4000 in
theorem gB_X10_manyOver_54 {sx : Nat × (Nat → Int32)} {R_X10_manyOver : Int32 → Int32 → Int32 → Int32 → MMt → (Int32 → MMt → Prop) → Prop} {rf : RFt} {Q : Int32 → MMt → Prop} {d0 : Nat} (hd0 : 5 ≤ d0) (hR_X10_manyOver : ∀ (rf : RFt) (a1 : Int32) (a2 : Int32) (a3 : Int32) (a4 : Int32) (mem : MMt) (Q : Int32 → MMt → Prop), RFok rf → R_X10_manyOver a1 a2 a3 a4 mem Q → Ct sx yX10_manyOver cX10_manyOver 9 (some .int) d0 [.ref 76, .int a1, .int a2, .int a3, .int a4] NX NX rf mem (QQi (RFok) Q)) (hrf : RFok rf) (x1 : Int32) (x2 : Int32) (x3 : Int32) (x4 : Int32) (x5 : Int32) (x6 : Int32) (x7 : Int32) (x8 : Int32) (mem : MMt) (h : B_X10_manyOver_54 R_X10_manyOver x1 x2 x3 x4 x5 x6 x7 x8 mem Q) : G sx yX10_manyOver cX10_manyOver 9 (some .int) (d0 + 1) NX NX (QQi (RFok) Q) NX rf mem 54 [some (.ref 76), some (.int x1), some (.int x2), some (.int x3), some (.int x4), some (.int x5), some (.int x6), some (.int x7), some (.int x8)] [] := by
  obtain ⟨I, ⟨n, h0⟩, hI⟩ := h
  have key : ∀ (n : Nat) (rf : RFt) (x7 : Int32) (x8 : Int32) (mem : MMt), RFok rf → I n (x7, x8, mem) → G sx yX10_manyOver cX10_manyOver 9 (some .int) (d0 + 1) NX NX (QQi (RFok) Q) NX rf mem 54 [some (.ref 76), some (.int x1), some (.int x2), some (.int x3), some (.int x4), some (.int x5), some (.int x6), some (.int x7), some (.int x8)] [] := by
    intro n
    induction n using Nat.strongRecOn with
    | _ n ih =>
    intro rf x7 x8 mem hrf h0
    have hX54 : ∀ (rf : RFt) (x7 : Int32) (x8 : Int32) (mem : MMt), RFok rf → (fun s' => ∃ m, m < n ∧ I m s') (x7, x8, mem) → G sx yX10_manyOver cX10_manyOver 9 (some .int) (d0 + 1) NX NX (QQi (RFok) Q) NX rf mem 54 [some (.ref 76), some (.int x1), some (.int x2), some (.int x3), some (.int x4), some (.int x5), some (.int x6), some (.int x7), some (.int x8)] [] := fun rf x7 x8 mem hrf ⟨m, hm, hi⟩ => ih m hm rf x7 x8 mem hrf hi
    have h := hI n _ h0
    clear ih h0
    try dsimp only at h
    refine G_iload (i := 8) pX10_manyOver_54 rfl ?_
    refine G_iload_n (i := 3) pX10_manyOver_56 rfl rfl ?_
    refine G_if_le pX10_manyOver_57 (fun c1 => ?_) (fun c1 => ?_)
    · have h := h.1 c1
      refine G_iconst pX10_manyOver_64 ic_0 ?_
      exact gB_X10_manyOver_65 hd0 hR_X10_manyOver hrf x1 x2 x3 x4 x5 x6 x7 x8 (0 : Int32) x8 hX54 _ h
    · have h := h.2 c1
      refine G_iconst pX10_manyOver_60 ic_1 ?_
      refine G_goto pX10_manyOver_61 ?_
      exact gB_X10_manyOver_65 hd0 hR_X10_manyOver hrf x1 x2 x3 x4 x5 x6 x7 x8 (1 : Int32) x8 hX54 _ h
  exact key n rf _ _ _ hrf h0
def L_X10_manyOver (R_X10_manyOver : Int32 → Int32 → Int32 → Int32 → MMt → (Int32 → MMt → Prop) → Prop) (a1 : Int32) (a2 : Int32) (a3 : Int32) (a4 : Int32) (mem : MMt) (Q : Int32 → MMt → Prop) : Prop := ((¬ a4 = 0 → L_X10_of a1 (2 : Int32) mem (fun r3 m2 => L_X10_of a1 (3 : Int32) m2 (fun r5 m4 => ((a3 ≤ 0 → B_X10_manyOver_54 R_X10_manyOver a1 a2 a3 a4 r3 r5 (0 : Int32) (0 : Int32) m4 Q) ∧ (¬ a3 ≤ 0 → B_X10_manyOver_54 R_X10_manyOver a1 a2 a3 a4 r3 r5 (0 : Int32) (-1 : Int32) m4 Q))))) ∧ (a4 = 0 → L_X10_of a1 (2 : Int32) mem (fun r8 m7 => ((¬ r8 = ((40 : Int32) * a2) → Q (0 : Int32) m7) ∧ (r8 = ((40 : Int32) * a2) → Q (1 : Int32) m7)))))
set_option maxRecDepth 4000 in
theorem g_X10_manyOver {sx : Nat × (Nat → Int32)} {R_X10_manyOver : Int32 → Int32 → Int32 → Int32 → MMt → (Int32 → MMt → Prop) → Prop} {rf : RFt} {Q : Int32 → MMt → Prop} {d0 : Nat} (hd0 : 5 ≤ d0) (hR_X10_manyOver : ∀ (rf : RFt) (a1 : Int32) (a2 : Int32) (a3 : Int32) (a4 : Int32) (mem : MMt) (Q : Int32 → MMt → Prop), RFok rf → R_X10_manyOver a1 a2 a3 a4 mem Q → Ct sx yX10_manyOver cX10_manyOver 9 (some .int) d0 [.ref 76, .int a1, .int a2, .int a3, .int a4] NX NX rf mem (QQi (RFok) Q)) (a1 : Int32) (a2 : Int32) (a3 : Int32) (a4 : Int32) (hrf : RFok rf) (mem : MMt) (h : L_X10_manyOver R_X10_manyOver a1 a2 a3 a4 mem Q) : Ct sx yX10_manyOver cX10_manyOver 9 (some .int) (d0 + 1) [.ref 76, .int a1, .int a2, .int a3, .int a4] NX NX rf mem (QQi (RFok) Q) := by
  refine Ct_of [some (.ref 76), some (.int a1), some (.int a2), some (.int a3), some (.int a4), none, none, none, none] (by decide +kernel) (by simp [Lof, Value.category]) rfl ?_
  unfold L_X10_manyOver at h
  refine G_iload (i := 4) pX10_manyOver_0 rfl ?_
  refine G_if_ne pX10_manyOver_2 (fun c1 => ?_) (fun c1 => ?_)
  · have h := h.1 c1
    refine G_aload_n (i := 0) pX10_manyOver_24 rfl rfl ?_
    refine G_iload_n (i := 1) pX10_manyOver_25 rfl rfl ?_
    refine G_iconst pX10_manyOver_26 ic_2 ?_
    refine G_callV2i (b := 76) (ci := 10) (N := 29) pX10_manyOver_27 (g_X10_of a1 (2 : Int32) hrf _ h) mV_X10_of ml_RX10_61 (by omega) ⟨Nat.le_refl _, Nat.le_refl _, Nat.le_refl _⟩ (Nat.le_of_ble_eq_true rfl) ltk_76 shk_76 rfl ?_
    intro r3 rf m2 hrf h hr3
    refine G_istore (i := 5) (L' := [some (.ref 76), some (.int a1), some (.int a2), some (.int a3), some (.int a4), some (.int r3), none, none, none]) pX10_manyOver_30 rfl ?_
    refine G_aload_n (i := 0) pX10_manyOver_32 rfl rfl ?_
    refine G_iload_n (i := 1) pX10_manyOver_33 rfl rfl ?_
    refine G_iconst pX10_manyOver_34 ic_3 ?_
    refine G_callV2i (b := 76) (ci := 10) (N := 29) pX10_manyOver_35 (g_X10_of a1 (3 : Int32) hrf _ h) mV_X10_of ml_RX10_61 (by omega) ⟨Nat.le_refl _, Nat.le_refl _, Nat.le_refl _⟩ (Nat.le_of_ble_eq_true rfl) ltk_76 shk_76 rfl ?_
    intro r5 rf m4 hrf h hr5
    refine G_istore (i := 6) (L' := [some (.ref 76), some (.int a1), some (.int a2), some (.int a3), some (.int a4), some (.int r3), some (.int r5), none, none]) pX10_manyOver_38 rfl ?_
    refine G_iconst pX10_manyOver_40 ic_0 ?_
    refine G_istore (i := 7) (L' := [some (.ref 76), some (.int a1), some (.int a2), some (.int a3), some (.int a4), some (.int r3), some (.int r5), some (.int (0 : Int32)), none]) pX10_manyOver_41 rfl ?_
    refine G_iload_n (i := 3) pX10_manyOver_43 rfl rfl ?_
    refine G_if_le pX10_manyOver_44 (fun c6 => ?_) (fun c6 => ?_)
    · have h := h.1 c6
      refine G_iconst pX10_manyOver_51 ic_0 ?_
      refine G_istore (i := 8) (L' := [some (.ref 76), some (.int a1), some (.int a2), some (.int a3), some (.int a4), some (.int r3), some (.int r5), some (.int (0 : Int32)), some (.int (0 : Int32))]) pX10_manyOver_52 rfl ?_
      exact gB_X10_manyOver_54 hd0 hR_X10_manyOver hrf a1 a2 a3 a4 r3 r5 (0 : Int32) (0 : Int32) _ h
    · have h := h.2 c6
      refine G_iconst pX10_manyOver_47 ic_m1 ?_
      refine G_goto pX10_manyOver_48 ?_
      refine G_istore (i := 8) (L' := [some (.ref 76), some (.int a1), some (.int a2), some (.int a3), some (.int a4), some (.int r3), some (.int r5), some (.int (0 : Int32)), some (.int (-1 : Int32))]) pX10_manyOver_52 rfl ?_
      exact gB_X10_manyOver_54 hd0 hR_X10_manyOver hrf a1 a2 a3 a4 r3 r5 (0 : Int32) (-1 : Int32) _ h
  · have h := h.2 c1
    refine G_aload_n (i := 0) pX10_manyOver_5 rfl rfl ?_
    refine G_iload_n (i := 1) pX10_manyOver_6 rfl rfl ?_
    refine G_iconst pX10_manyOver_7 ic_2 ?_
    refine G_callV2i (b := 76) (ci := 10) (N := 29) pX10_manyOver_8 (g_X10_of a1 (2 : Int32) hrf _ h) mV_X10_of ml_RX10_61 (by omega) ⟨Nat.le_refl _, Nat.le_refl _, Nat.le_refl _⟩ (Nat.le_of_ble_eq_true rfl) ltk_76 shk_76 rfl ?_
    intro r8 rf m7 hrf h hr8
    refine G_bipush pX10_manyOver_11 bi_40 ?_
    refine G_iload_n (i := 2) pX10_manyOver_13 rfl rfl ?_
    refine G_imul pX10_manyOver_14 ?_
    refine G_icmp_ne pX10_manyOver_15 (fun c9 => ?_) (fun c9 => ?_)
    · have h := h.1 c9
      refine G_iconst pX10_manyOver_22 ic_0 ?_
      exact G_ireturn (len := 1) pX10_manyOver_23 ⟨hrf, _, rfl, h⟩ ⟨_, rfl, rfl⟩
    · have h := h.2 c9
      refine G_iconst pX10_manyOver_18 ic_1 ?_
      refine G_goto pX10_manyOver_19 ?_
      exact G_ireturn (len := 1) pX10_manyOver_23 ⟨hrf, _, rfl, h⟩ ⟨_, rfl, rfl⟩
def WW_X10_manyOver (n : Nat) : (Int32 → Int32 → Int32 → Int32 → MMt → (Int32 → MMt → Prop) → Prop) := Nat.rec (motive := fun _ => (Int32 → Int32 → Int32 → Int32 → MMt → (Int32 → MMt → Prop) → Prop)) (fun _ _ _ _ _ _ => False) (fun _ ih => L_X10_manyOver ih) n
def W_X10_manyOver (n : Nat) : Int32 → Int32 → Int32 → Int32 → MMt → (Int32 → MMt → Prop) → Prop := WW_X10_manyOver n
theorem W_X10_manyOver_s (n : Nat) : W_X10_manyOver (n + 1) = L_X10_manyOver (W_X10_manyOver n) := rfl
theorem gWW_X10_manyOver {sx : Nat × (Nat → Int32)} (n : Nat) : (∀ (rf : RFt) (a1 : Int32) (a2 : Int32) (a3 : Int32) (a4 : Int32) (mem : MMt) (Q : Int32 → MMt → Prop), RFok rf → W_X10_manyOver n a1 a2 a3 a4 mem Q → Ct sx yX10_manyOver cX10_manyOver 9 (some .int) (5 + n) [.ref 76, .int a1, .int a2, .int a3, .int a4] NX NX rf mem (QQi (RFok) Q)) := by
  induction n with
  | zero => exact (fun rf a1 a2 a3 a4 mem Q hrf h => h.elim)
  | succ n ih =>
    exact (fun rf a1 a2 a3 a4 mem Q hrf h => g_X10_manyOver (d0 := 5 + n) (by omega) (ih) a1 a2 a3 a4 hrf mem h)
theorem gW_X10_manyOver {sx : Nat × (Nat → Int32)} (n : Nat) {rf : RFt} {Q : Int32 → MMt → Prop} (a1 : Int32) (a2 : Int32) (a3 : Int32) (a4 : Int32) (hrf : RFok rf) (mem : MMt) (h : W_X10_manyOver n a1 a2 a3 a4 mem Q) : Ct sx yX10_manyOver cX10_manyOver 9 (some .int) (5 + n) [.ref 76, .int a1, .int a2, .int a3, .int a4] NX NX rf mem (QQi (RFok) Q) := (gWW_X10_manyOver n) rf a1 a2 a3 a4 mem Q hrf h
def B_X10_odds_108 (x4 : Int32) (x5 : Int32) (x6 : Int32) (mem : MMt) (Q : Int32 → MMt → Prop) : Prop := ((¬ x4 = 0 → ((¬ x6 = 0 → Q x5 mem) ∧ (x6 = 0 → Q (1 : Int32) mem))) ∧ (x4 = 0 → Q x6 mem))
set_option maxRecDepth 4000 in
theorem gB_X10_odds_108 {sx : Nat × (Nat → Int32)} {rf : RFt} {Q : Int32 → MMt → Prop} (hrf : RFok rf) (x4 : Int32) (x5 : Int32) (x6 : Int32) (mem : MMt) (h : B_X10_odds_108 x4 x5 x6 mem Q) : G sx yX10_odds cX10_odds 7 (some .int) 67 NX NX (QQi (RFok) Q) NX rf mem 108 [none, none, none, none, some (.int x4), some (.int x5), some (.int x6)] [] := by
  unfold B_X10_odds_108 at h
  refine G_iload (i := 4) pX10_odds_108 rfl ?_
  refine G_if_ne pX10_odds_110 (fun c1 => ?_) (fun c1 => ?_)
  · have h := h.1 c1
    refine G_iload (i := 6) pX10_odds_118 rfl ?_
    refine G_if_ne pX10_odds_120 (fun c2 => ?_) (fun c2 => ?_)
    · have h := h.1 c2
      refine G_iload (i := 5) pX10_odds_127 rfl ?_
      exact G_ireturn (len := 1) pX10_odds_129 ⟨hrf, _, rfl, h⟩ ⟨_, rfl, rfl⟩
    · have h := h.2 c2
      refine G_iconst pX10_odds_123 ic_1 ?_
      refine G_goto pX10_odds_124 ?_
      exact G_ireturn (len := 1) pX10_odds_129 ⟨hrf, _, rfl, h⟩ ⟨_, rfl, rfl⟩
  · have h := h.2 c1
    refine G_iload (i := 6) pX10_odds_113 rfl ?_
    refine G_goto pX10_odds_115 ?_
    exact G_ireturn (len := 1) pX10_odds_129 ⟨hrf, _, rfl, h⟩ ⟨_, rfl, rfl⟩
def B_X10_odds_79 (x4 : Int32) (x5 : Int32) (x6 : Int32) (mem : MMt) (Q : Int32 → MMt → Prop) : Prop := LOOP (σ := Int32 × Int32 × MMt) (fun X79 z => (fun (x5 : Int32) (x6 : Int32) (mem : MMt) => ((¬ (x5 - x5 / (3 : Int32) * (3 : Int32)) = 0 → B_X10_odds_108 x4 x5 x6 mem Q) ∧ ((x5 - x5 / (3 : Int32) * (3 : Int32)) = 0 → ((¬ (x6 - x6 / (3 : Int32) * (3 : Int32)) = 0 → B_X10_odds_108 x4 x5 x6 mem Q) ∧ ((x6 - x6 / (3 : Int32) * (3 : Int32)) = 0 → (∀ v3 : Int32, v3 = x5 / (3 : Int32) → (∀ v4 : Int32, v4 = x6 / (3 : Int32) → X79 (v3, v4, mem)))))))) z.1 z.2.1 z.2.2) (x5, x6, mem)
set_option maxRecDepth 4000 in
theorem gB_X10_odds_79 {sx : Nat × (Nat → Int32)} {rf : RFt} {Q : Int32 → MMt → Prop} (hrf : RFok rf) (x4 : Int32) (x5 : Int32) (x6 : Int32) (mem : MMt) (h : B_X10_odds_79 x4 x5 x6 mem Q) : G sx yX10_odds cX10_odds 7 (some .int) 67 NX NX (QQi (RFok) Q) NX rf mem 79 [none, none, none, none, some (.int x4), some (.int x5), some (.int x6)] [] := by
  obtain ⟨I, ⟨n, h0⟩, hI⟩ := h
  have key : ∀ (n : Nat) (rf : RFt) (x5 : Int32) (x6 : Int32) (mem : MMt), RFok rf → I n (x5, x6, mem) → G sx yX10_odds cX10_odds 7 (some .int) 67 NX NX (QQi (RFok) Q) NX rf mem 79 [none, none, none, none, some (.int x4), some (.int x5), some (.int x6)] [] := by
    intro n
    induction n using Nat.strongRecOn with
    | _ n ih =>
    intro rf x5 x6 mem hrf h0
    have hX79 : ∀ (rf : RFt) (x5 : Int32) (x6 : Int32) (mem : MMt), RFok rf → (fun s' => ∃ m, m < n ∧ I m s') (x5, x6, mem) → G sx yX10_odds cX10_odds 7 (some .int) 67 NX NX (QQi (RFok) Q) NX rf mem 79 [none, none, none, none, some (.int x4), some (.int x5), some (.int x6)] [] := fun rf x5 x6 mem hrf ⟨m, hm, hi⟩ => ih m hm rf x5 x6 mem hrf hi
    have h := hI n _ h0
    clear ih h0
    try dsimp only at h
    refine G_iload (i := 5) pX10_odds_79 rfl ?_
    refine G_iconst pX10_odds_81 ic_3 ?_
    refine G_irem pX10_odds_82 (by decide) ?_
    refine G_if_ne pX10_odds_83 (fun c1 => ?_) (fun c1 => ?_)
    · have h := h.1 c1
      exact gB_X10_odds_108 hrf x4 x5 x6 _ h
    · have h := h.2 c1
      refine G_iload (i := 6) pX10_odds_86 rfl ?_
      refine G_iconst pX10_odds_88 ic_3 ?_
      refine G_irem pX10_odds_89 (by decide) ?_
      refine G_if_ne pX10_odds_90 (fun c2 => ?_) (fun c2 => ?_)
      · have h := h.1 c2
        exact gB_X10_odds_108 hrf x4 x5 x6 _ h
      · have h := h.2 c2
        refine G_iload (i := 5) pX10_odds_93 rfl ?_
        refine G_iconst pX10_odds_95 ic_3 ?_
        refine G_idiv pX10_odds_96 (by decide) ?_
        obtain ⟨v3, e3⟩ : ∃ z : Int32, z = x5 / (3 : Int32) := ⟨_, rfl⟩
        have h := h v3 e3
        refine G_istoreW (L' := [none, none, none, none, some (.int x4), some (.int v3), some (.int x6)]) pX10_odds_97 e3.symm rfl ?_
        refine G_iload (i := 6) pX10_odds_99 rfl ?_
        refine G_iconst pX10_odds_101 ic_3 ?_
        refine G_idiv pX10_odds_102 (by decide) ?_
        obtain ⟨v4, e4⟩ : ∃ z : Int32, z = x6 / (3 : Int32) := ⟨_, rfl⟩
        have h := h v4 e4
        refine G_istoreW (L' := [none, none, none, none, some (.int x4), some (.int v3), some (.int v4)]) pX10_odds_103 e4.symm rfl ?_
        refine G_goto pX10_odds_105 ?_
        exact hX79 _ _ _ _ hrf h
  exact key n rf _ _ _ hrf h0
def B_X10_odds_50 (x1 : Int32) (x2 : Int32) (x3 : Int32) (x4 : Int32) (x5 : Int32) (x6 : Int32) (mem : MMt) (Q : Int32 → MMt → Prop) : Prop := LOOP (σ := Int32 × Int32 × MMt) (fun X50 z => (fun (x5 : Int32) (x6 : Int32) (mem : MMt) => ((x3 ≤ x6 → W_X10_manyOver 60 x1 x2 x3 (50 : Int32) mem (fun r3 m2 => B_X10_odds_79 x4 x5 r3 m2 Q)) ∧ (¬ x3 ≤ x6 → (∀ v4 : Int32, v4 = x5 * (3 : Int32) → (∀ v5 : Int32, v5 = x6 + (1 : Int32) → X50 (v4, v5, mem)))))) z.1 z.2.1 z.2.2) (x5, x6, mem)
set_option maxRecDepth 4000 in
theorem gB_X10_odds_50 {sx : Nat × (Nat → Int32)} {rf : RFt} {Q : Int32 → MMt → Prop} (hrf : RFok rf) (x1 : Int32) (x2 : Int32) (x3 : Int32) (x4 : Int32) (x5 : Int32) (x6 : Int32) (mem : MMt) (h : B_X10_odds_50 x1 x2 x3 x4 x5 x6 mem Q) : G sx yX10_odds cX10_odds 7 (some .int) 67 NX NX (QQi (RFok) Q) NX rf mem 50 [some (.ref 76), some (.int x1), some (.int x2), some (.int x3), some (.int x4), some (.int x5), some (.int x6)] [] := by
  obtain ⟨I, ⟨n, h0⟩, hI⟩ := h
  have key : ∀ (n : Nat) (rf : RFt) (x5 : Int32) (x6 : Int32) (mem : MMt), RFok rf → I n (x5, x6, mem) → G sx yX10_odds cX10_odds 7 (some .int) 67 NX NX (QQi (RFok) Q) NX rf mem 50 [some (.ref 76), some (.int x1), some (.int x2), some (.int x3), some (.int x4), some (.int x5), some (.int x6)] [] := by
    intro n
    induction n using Nat.strongRecOn with
    | _ n ih =>
    intro rf x5 x6 mem hrf h0
    have hX50 : ∀ (rf : RFt) (x5 : Int32) (x6 : Int32) (mem : MMt), RFok rf → (fun s' => ∃ m, m < n ∧ I m s') (x5, x6, mem) → G sx yX10_odds cX10_odds 7 (some .int) 67 NX NX (QQi (RFok) Q) NX rf mem 50 [some (.ref 76), some (.int x1), some (.int x2), some (.int x3), some (.int x4), some (.int x5), some (.int x6)] [] := fun rf x5 x6 mem hrf ⟨m, hm, hi⟩ => ih m hm rf x5 x6 mem hrf hi
    have h := hI n _ h0
    clear ih h0
    try dsimp only at h
    refine G_iload (i := 6) pX10_odds_50 rfl ?_
    refine G_iload_n (i := 3) pX10_odds_52 rfl rfl ?_
    refine G_icmp_ge pX10_odds_53 (fun c1 => ?_) (fun c1 => ?_)
    · have h := h.1 c1
      refine G_aload_n (i := 0) pX10_odds_68 rfl rfl ?_
      refine G_iload_n (i := 1) pX10_odds_69 rfl rfl ?_
      refine G_iload_n (i := 2) pX10_odds_70 rfl rfl ?_
      refine G_iload_n (i := 3) pX10_odds_71 rfl rfl ?_
      refine G_bipush pX10_odds_72 bi_50 ?_
      refine G_callV4i (b := 76) (ci := 10) (N := 29) pX10_odds_74 (gW_X10_manyOver 60 x1 x2 x3 (50 : Int32) hrf _ h) mV_X10_manyOver ml_RX10_272 (by decide) ⟨Nat.le_refl _, Nat.le_refl _, Nat.le_refl _⟩ (Nat.le_of_ble_eq_true rfl) ltk_76 shk_76 rfl ?_
      intro r3 rf m2 hrf h hr3
      refine G_istore (i := 6) (L' := [some (.ref 76), some (.int x1), some (.int x2), some (.int x3), some (.int x4), some (.int x5), some (.int r3)]) pX10_odds_77 rfl ?_
      refine G_wk (L2 := [none, none, none, none, some (.int x4), some (.int x5), some (.int r3)]) ⟨Or.inl rfl, Or.inl rfl, Or.inl rfl, Or.inl rfl, Or.inr rfl, Or.inr rfl, Or.inr rfl, trivial⟩ ?_
      exact gB_X10_odds_79 hrf x4 x5 r3 _ h
    · have h := h.2 c1
      refine G_iload (i := 5) pX10_odds_56 rfl ?_
      refine G_iconst pX10_odds_58 ic_3 ?_
      refine G_imul pX10_odds_59 ?_
      obtain ⟨v4, e4⟩ : ∃ z : Int32, z = x5 * (3 : Int32) := ⟨_, rfl⟩
      have h := h v4 e4
      refine G_istoreW (L' := [some (.ref 76), some (.int x1), some (.int x2), some (.int x3), some (.int x4), some (.int v4), some (.int x6)]) pX10_odds_60 e4.symm rfl ?_
      obtain ⟨v5, e5⟩ : ∃ z : Int32, z = x6 + (1 : Int32) := ⟨_, rfl⟩
      have h := h v5 e5
      refine G_iincW (L' := [some (.ref 76), some (.int x1), some (.int x2), some (.int x3), some (.int x4), some (.int v4), some (.int v5)]) pX10_odds_62 rfl ic_1 e5.symm rfl ?_
      refine G_goto pX10_odds_65 ?_
      exact hX50 _ _ _ _ hrf h
  exact key n rf _ _ _ hrf h0
def L_X10_odds (a1 : Int32) (a2 : Int32) (a3 : Int32) (a4 : Int32) (mem : MMt) (Q : Int32 → MMt → Prop) : Prop := L_X10_isGood a1 mem (fun r2 m1 => ((r2 = 0 → L_X10_error (1 : Int32) m1 (fun r5 m4 => Q r5 m4)) ∧ (¬ r2 = 0 → L_X10_isSide a2 m1 (fun r7 m6 => ((r7 = 0 → L_X10_error (1 : Int32) m6 (fun r10 m9 => Q r10 m9)) ∧ (¬ r7 = 0 → L_X10_isIn a3.toInt64 (0 : Int64) (5 : Int64) m6 (fun r12 m11 => ((r12 = 0 → L_X10_error (1 : Int32) m11 (fun r15 m14 => Q r15 m14)) ∧ (¬ r12 = 0 → L_X10_isIn a4.toInt64 (0 : Int64) (1 : Int64) m11 (fun r17 m16 => ((¬ r17 = 0 → B_X10_odds_50 a1 a2 a3 a4 (1 : Int32) (0 : Int32) m16 Q) ∧ (r17 = 0 → L_X10_error (1 : Int32) m16 (fun r20 m19 => Q r20 m19)))))))))))))
set_option maxRecDepth 4000 in
theorem g_X10_odds {sx : Nat × (Nat → Int32)} {rf : RFt} {Q : Int32 → MMt → Prop} (a1 : Int32) (a2 : Int32) (a3 : Int32) (a4 : Int32) (hrf : RFok rf) (mem : MMt) (h : L_X10_odds a1 a2 a3 a4 mem Q) : Ct sx yX10_odds cX10_odds 7 (some .int) 67 [.ref 76, .int a1, .int a2, .int a3, .int a4] NX NX rf mem (QQi (RFok) Q) := by
  refine Ct_of [some (.ref 76), some (.int a1), some (.int a2), some (.int a3), some (.int a4), none, none] (by decide +kernel) (by simp [Lof, Value.category]) rfl ?_
  unfold L_X10_odds at h
  refine G_aload_n (i := 0) pX10_odds_0 rfl rfl ?_
  refine G_iload_n (i := 1) pX10_odds_1 rfl rfl ?_
  refine G_callV1i (b := 76) (ci := 10) (N := 29) pX10_odds_2 (g_X10_isGood a1 hrf _ h) mV_X10_isGood ml_RX10_87 (by decide) ⟨Nat.le_refl _, Nat.le_refl _, Nat.le_refl _⟩ (Nat.le_of_ble_eq_true rfl) ltk_76 shk_76 rfl ?_
  intro r2 rf m1 hrf h hr2
  refine G_if_eq pX10_odds_5 (fun c3 => ?_) (fun c3 => ?_)
  · have h := h.1 c3
    refine G_aload_n (i := 0) pX10_odds_38 rfl rfl ?_
    refine G_iconst pX10_odds_39 ic_1 ?_
    refine G_callV1i (b := 76) (ci := 10) (N := 29) pX10_odds_40 (g_X10_error (1 : Int32) hrf _ h) mV_X10_error ml_RX10_79 (by decide) ⟨Nat.le_refl _, Nat.le_refl _, Nat.le_refl _⟩ (Nat.le_of_ble_eq_true rfl) ltk_76 shk_76 rfl ?_
    intro r5 rf m4 hrf h hr5
    exact G_ireturn (len := 1) pX10_odds_43 ⟨hrf, _, rfl, h⟩ ⟨_, rfl, rfl⟩
  · have h := h.2 c3
    refine G_iload_n (i := 2) pX10_odds_8 rfl rfl ?_
    refine G_callS1i pX10_odds_9 (g_X10_isSide a2 hrf _ h) mS_X10_isSide ml_RX10_126 (by decide) ⟨Nat.le_refl _, Nat.le_refl _, Nat.le_refl _⟩ (Nat.le_of_ble_eq_true rfl) ?_
    intro r7 rf m6 hrf h hr7
    refine G_if_eq pX10_odds_12 (fun c8 => ?_) (fun c8 => ?_)
    · have h := h.1 c8
      refine G_aload_n (i := 0) pX10_odds_38 rfl rfl ?_
      refine G_iconst pX10_odds_39 ic_1 ?_
      refine G_callV1i (b := 76) (ci := 10) (N := 29) pX10_odds_40 (g_X10_error (1 : Int32) hrf _ h) mV_X10_error ml_RX10_79 (by decide) ⟨Nat.le_refl _, Nat.le_refl _, Nat.le_refl _⟩ (Nat.le_of_ble_eq_true rfl) ltk_76 shk_76 rfl ?_
      intro r10 rf m9 hrf h hr10
      exact G_ireturn (len := 1) pX10_odds_43 ⟨hrf, _, rfl, h⟩ ⟨_, rfl, rfl⟩
    · have h := h.2 c8
      refine G_iload_n (i := 3) pX10_odds_15 rfl rfl ?_
      refine G_i2l pX10_odds_16 ?_
      refine G_lconst pX10_odds_17 lc_0 ?_
      refine G_ldc2 pX10_odds_18 rfl wcl_RX10_275 ?_
      refine G_callS3i pX10_odds_21 (g_X10_isIn a3.toInt64 (0 : Int64) (5 : Int64) hrf _ h) mS_X10_isIn ml_RX10_53 (by decide) ⟨Nat.le_refl _, Nat.le_refl _, Nat.le_refl _⟩ (Nat.le_of_ble_eq_true rfl) ?_
      intro r12 rf m11 hrf h hr12
      refine G_if_eq pX10_odds_24 (fun c13 => ?_) (fun c13 => ?_)
      · have h := h.1 c13
        refine G_aload_n (i := 0) pX10_odds_38 rfl rfl ?_
        refine G_iconst pX10_odds_39 ic_1 ?_
        refine G_callV1i (b := 76) (ci := 10) (N := 29) pX10_odds_40 (g_X10_error (1 : Int32) hrf _ h) mV_X10_error ml_RX10_79 (by decide) ⟨Nat.le_refl _, Nat.le_refl _, Nat.le_refl _⟩ (Nat.le_of_ble_eq_true rfl) ltk_76 shk_76 rfl ?_
        intro r15 rf m14 hrf h hr15
        exact G_ireturn (len := 1) pX10_odds_43 ⟨hrf, _, rfl, h⟩ ⟨_, rfl, rfl⟩
      · have h := h.2 c13
        refine G_iload (i := 4) pX10_odds_27 rfl ?_
        refine G_i2l pX10_odds_29 ?_
        refine G_lconst pX10_odds_30 lc_0 ?_
        refine G_lconst pX10_odds_31 lc_1 ?_
        refine G_callS3i pX10_odds_32 (g_X10_isIn a4.toInt64 (0 : Int64) (1 : Int64) hrf _ h) mS_X10_isIn ml_RX10_53 (by decide) ⟨Nat.le_refl _, Nat.le_refl _, Nat.le_refl _⟩ (Nat.le_of_ble_eq_true rfl) ?_
        intro r17 rf m16 hrf h hr17
        refine G_if_ne pX10_odds_35 (fun c18 => ?_) (fun c18 => ?_)
        · have h := h.1 c18
          refine G_iconst pX10_odds_44 ic_1 ?_
          refine G_istore (i := 5) (L' := [some (.ref 76), some (.int a1), some (.int a2), some (.int a3), some (.int a4), some (.int (1 : Int32)), none]) pX10_odds_45 rfl ?_
          refine G_iconst pX10_odds_47 ic_0 ?_
          refine G_istore (i := 6) (L' := [some (.ref 76), some (.int a1), some (.int a2), some (.int a3), some (.int a4), some (.int (1 : Int32)), some (.int (0 : Int32))]) pX10_odds_48 rfl ?_
          exact gB_X10_odds_50 hrf a1 a2 a3 a4 (1 : Int32) (0 : Int32) _ h
        · have h := h.2 c18
          refine G_aload_n (i := 0) pX10_odds_38 rfl rfl ?_
          refine G_iconst pX10_odds_39 ic_1 ?_
          refine G_callV1i (b := 76) (ci := 10) (N := 29) pX10_odds_40 (g_X10_error (1 : Int32) hrf _ h) mV_X10_error ml_RX10_79 (by decide) ⟨Nat.le_refl _, Nat.le_refl _, Nat.le_refl _⟩ (Nat.le_of_ble_eq_true rfl) ltk_76 shk_76 rfl ?_
          intro r20 rf m19 hrf h hr20
          exact G_ireturn (len := 1) pX10_odds_43 ⟨hrf, _, rfl, h⟩ ⟨_, rfl, rfl⟩
