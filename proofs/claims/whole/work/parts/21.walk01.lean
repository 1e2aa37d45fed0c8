def L_J0_isLatin1_aae02 (b : Nat) (mem : MMt) (Q : Int32 → MMt → Prop) : Prop := Q (1 : Int32) mem
set_option maxRecDepth 4000 in
theorem g_J0_isLatin1_aae02 {sx : Nat × (Nat → Int32)} {nx : Nat} {M : RFt → Prop} {rf : RFt} {Q : Int32 → MMt → Prop} (b : Nat) (hb : b < 3) (hrf : M rf) (mem : MMt) (h : L_J0_isLatin1_aae02 b mem Q) : Ct sx yJ0_isLatin1_aae02 cJ0_isLatin1_aae02 1 (some .boolean) 1 [.ref (1002 + b)] nx nx rf mem (QQi (M) Q) := by
  refine Ct_of [some (.ref (1002 + b))] (by decide +kernel) (by simp [Lof, Value.category]) rfl ?_
  unfold L_J0_isLatin1_aae02 at h
  refine G_gsCompact pJ0_isLatin1_aae02_0 wf_RJ0_38 ?_
  refine G_if_eq pJ0_isLatin1_aae02_3 (fun hc => absurd hc (by decide)) (fun _ => ?_)
  refine G_aload_n (i := 0) pJ0_isLatin1_aae02_6 rfl rfl ?_
  refine G_sCoder (i := b) pJ0_isLatin1_aae02_7 (by omega) wf_RJ0_15 ?_
  refine G_if_ne pJ0_isLatin1_aae02_10 (fun hc => absurd hc (by decide)) (fun _ => ?_)
  refine G_iconst pJ0_isLatin1_aae02_13 ic_1 ?_
  refine G_goto pJ0_isLatin1_aae02_14 ?_
  exact G_ireturn (len := 1) pJ0_isLatin1_aae02_18 ⟨hrf, _, rfl, h⟩ ⟨_, rfl, rfl⟩
def L_J0_coder_7d493 (b : Nat) (mem : MMt) (Q : Int32 → MMt → Prop) : Prop := Q (0 : Int32) mem
set_option maxRecDepth 4000 in
theorem g_J0_coder_7d493 {sx : Nat × (Nat → Int32)} {nx : Nat} {M : RFt → Prop} {rf : RFt} {Q : Int32 → MMt → Prop} (b : Nat) (hb : b < 3) (hrf : M rf) (mem : MMt) (h : L_J0_coder_7d493 b mem Q) : Ct sx yJ0_coder_7d493 cJ0_coder_7d493 1 (some .byte) 1 [.ref (1002 + b)] nx nx rf mem (QQi (M) Q) := by
  refine Ct_of [some (.ref (1002 + b))] (by decide +kernel) (by simp [Lof, Value.category]) rfl ?_
  unfold L_J0_coder_7d493 at h
  refine G_gsCompact pJ0_coder_7d493_0 wf_RJ0_38 ?_
  refine G_if_eq pJ0_coder_7d493_3 (fun hc => absurd hc (by decide)) (fun _ => ?_)
  refine G_aload_n (i := 0) pJ0_coder_7d493_6 rfl rfl ?_
  refine G_sCoder (i := b) pJ0_coder_7d493_7 (by omega) wf_RJ0_15 ?_
  refine G_goto pJ0_coder_7d493_10 ?_
  exact G_ireturn (len := 1) pJ0_coder_7d493_14 ⟨hrf, _, rfl, h⟩ ⟨_, rfl, rfl⟩
def L_J0_length_8abf5 (b : Nat) (mem : MMt) (Q : Int32 → MMt → Prop) : Prop := L_J0_coder_7d493 b mem (fun r2 m1 => Q ((Int32.ofNat (strLen.getD b 0)) >>> (r2 &&& 31)) m1)
set_option maxRecDepth 4000 in
theorem g_J0_length_8abf5 {sx : Nat × (Nat → Int32)} {nx : Nat} {M : RFt → Prop} {rf : RFt} {Q : Int32 → MMt → Prop} (b : Nat) (hb : b < 3) (hrf : M rf) (mem : MMt) (h : L_J0_length_8abf5 b mem Q) : Ct sx yJ0_length_8abf5 cJ0_length_8abf5 1 (some .int) 2 [.ref (1002 + b)] nx nx rf mem (QQi (M) Q) := by
  refine Ct_of [some (.ref (1002 + b))] (by decide +kernel) (by simp [Lof, Value.category]) rfl ?_
  unfold L_J0_length_8abf5 at h
  refine G_aload_n (i := 0) pJ0_length_8abf5_0 rfl rfl ?_
  refine G_sValue (i := b) pJ0_length_8abf5_1 (by omega) wf_RJ0_9 ?_
  refine G_sblen (i := b) pJ0_length_8abf5_4 (by omega) ?_
  refine G_aload_n (i := 0) pJ0_length_8abf5_5 rfl rfl ?_
  refine G_callVS0i (b := b) pJ0_length_8abf5_6 (g_J0_coder_7d493 b (by omega) hrf _ h) mV_J0_coder_7d493 ml_RJ0_335 (by decide) ⟨Nat.le_refl _, Nat.le_refl _, Nat.le_refl _⟩ (Nat.le_of_ble_eq_true rfl) (by omega) rfl ?_
  intro r2 rf m1 hrf h hr2
  refine G_ishr pJ0_length_8abf5_9 ?_
  exact G_ireturn (len := 1) pJ0_length_8abf5_10 ⟨hrf, _, rfl, h⟩ ⟨_, rfl, rfl⟩
def L_J1_canEncode_9a6ad (a1 : Int32) (mem : MMt) (Q : Int32 → MMt → Prop) : Prop := ((a1 < 0 → Q (0 : Int32) mem) ∧ (¬ a1 < 0 → (((255 : Int32) < a1 → Q (0 : Int32) mem) ∧ (¬ (255 : Int32) < a1 → Q (1 : Int32) mem))))
set_option maxRecDepth 4000 in
theorem g_J1_canEncode_9a6ad {sx : Nat × (Nat → Int32)} {nx : Nat} {M : RFt → Prop} {rf : RFt} {Q : Int32 → MMt → Prop} (a1 : Int32) (hrf : M rf) (mem : MMt) (h : L_J1_canEncode_9a6ad a1 mem Q) : Ct sx yJ1_canEncode_9a6ad cJ1_canEncode_9a6ad 1 (some .boolean) 1 [.int a1] nx nx rf mem (QQi (M) Q) := by
  refine Ct_of [some (.int a1)] (by decide +kernel) (by simp [Lof, Value.category]) rfl ?_
  unfold L_J1_canEncode_9a6ad at h
  refine G_iload_n (i := 0) pJ1_canEncode_9a6ad_0 rfl rfl ?_
  refine G_if_lt pJ1_canEncode_9a6ad_1 (fun c1 => ?_) (fun c1 => ?_)
  · have h := h.1 c1
    refine G_iconst pJ1_canEncode_9a6ad_15 ic_0 ?_
    exact G_ireturn (len := 1) pJ1_canEncode_9a6ad_16 ⟨hrf, _, rfl, h⟩ ⟨_, rfl, rfl⟩
  · have h := h.2 c1
    refine G_iload_n (i := 0) pJ1_canEncode_9a6ad_4 rfl rfl ?_
    refine G_sipush pJ1_canEncode_9a6ad_5 si_255 ?_
    refine G_icmp_gt pJ1_canEncode_9a6ad_8 (fun c2 => ?_) (fun c2 => ?_)
    · have h := h.1 c2
      refine G_iconst pJ1_canEncode_9a6ad_15 ic_0 ?_
      exact G_ireturn (len := 1) pJ1_canEncode_9a6ad_16 ⟨hrf, _, rfl, h⟩ ⟨_, rfl, rfl⟩
    · have h := h.2 c2
      refine G_iconst pJ1_canEncode_9a6ad_11 ic_1 ?_
      refine G_goto pJ1_canEncode_9a6ad_12 ?_
      exact G_ireturn (len := 1) pJ1_canEncode_9a6ad_16 ⟨hrf, _, rfl, h⟩ ⟨_, rfl, rfl⟩
def B_J1_indexOfChar_4cfef_7 (b : Nat) (x3 : Int32) (x4 : Int32) (x5 : Int32) (mem : MMt) (Q : Int32 → MMt → Prop) : Prop := LOOP (σ := Int32 × MMt) (fun X7 z => (fun (x5 : Int32) (mem : MMt) => ((x3 ≤ x5 → Q (-1 : Int32) mem) ∧ (¬ x3 ≤ x5 → (vp_in x5 (strLen.getD b 0) ∧ ((¬ ((strByt.getD b []).getD x5.toNatClampNeg 0) = x4 → (∀ v4 : Int32, v4 = x5 + (1 : Int32) → X7 (v4, mem))) ∧ (((strByt.getD b []).getD x5.toNatClampNeg 0) = x4 → Q x5 mem)))))) z.1 z.2) (x5, mem)
set_option maxRecDepth 4000 in
theorem gB_J1_indexOfChar_4cfef_7 {sx : Nat × (Nat → Int32)} {nx : Nat} {M : RFt → Prop} {rf : RFt} {Q : Int32 → MMt → Prop} (b : Nat) (hb : b < 3) (hrf : M rf) (x3 : Int32) (x4 : Int32) (x5 : Int32) (mem : MMt) (h : B_J1_indexOfChar_4cfef_7 b x3 x4 x5 mem Q) : G sx yJ1_indexOfChar_4cfef cJ1_indexOfChar_4cfef 6 (some .int) 1 nx nx (QQi (M) Q) nx rf mem 7 [some (.ref (1005 + b)), none, none, some (.int x3), some (.int x4), some (.int x5)] [] := by
  obtain ⟨I, ⟨n, h0⟩, hI⟩ := h
  have key : ∀ (n : Nat) (rf : RFt) (x5 : Int32) (mem : MMt), M rf → I n (x5, mem) → G sx yJ1_indexOfChar_4cfef cJ1_indexOfChar_4cfef 6 (some .int) 1 nx nx (QQi (M) Q) nx rf mem 7 [some (.ref (1005 + b)), none, none, some (.int x3), some (.int x4), some (.int x5)] [] := by
    intro n
    induction n using Nat.strongRecOn with
    | _ n ih =>
    intro rf x5 mem hrf h0
    have hX7 : ∀ (rf : RFt) (x5 : Int32) (mem : MMt), M rf → (fun s' => ∃ m, m < n ∧ I m s') (x5, mem) → G sx yJ1_indexOfChar_4cfef cJ1_indexOfChar_4cfef 6 (some .int) 1 nx nx (QQi (M) Q) nx rf mem 7 [some (.ref (1005 + b)), none, none, some (.int x3), some (.int x4), some (.int x5)] [] := fun rf x5 mem hrf ⟨m, hm, hi⟩ => ih m hm rf x5 mem hrf hi
    have h := hI n _ h0
    clear ih h0
    try dsimp only at h
    refine G_iload (i := 5) pJ1_indexOfChar_4cfef_7 rfl ?_
    refine G_iload_n (i := 3) pJ1_indexOfChar_4cfef_9 rfl rfl ?_
    refine G_icmp_ge pJ1_indexOfChar_4cfef_10 (fun c1 => ?_) (fun c1 => ?_)
    · have h := h.1 c1
      refine G_iconst pJ1_indexOfChar_4cfef_31 ic_m1 ?_
      exact G_ireturn (len := 1) pJ1_indexOfChar_4cfef_32 ⟨hrf, _, rfl, h⟩ ⟨_, rfl, rfl⟩
    · have h := h.2 c1
      refine G_aload_n (i := 0) pJ1_indexOfChar_4cfef_13 rfl rfl ?_
      refine G_iload (i := 5) pJ1_indexOfChar_4cfef_14 rfl ?_
      obtain ⟨hi2, h⟩ := h
      refine G_sbld (i := b) pJ1_indexOfChar_4cfef_16 (by omega) hi2 ?_
      refine G_iload (i := 4) pJ1_indexOfChar_4cfef_17 rfl ?_
      refine G_icmp_ne pJ1_indexOfChar_4cfef_19 (fun c3 => ?_) (fun c3 => ?_)
      · have h := h.1 c3
        obtain ⟨v4, e4⟩ : ∃ z : Int32, z = x5 + (1 : Int32) := ⟨_, rfl⟩
        have h := h v4 e4
        refine G_iincW (L' := [some (.ref (1005 + b)), none, none, some (.int x3), some (.int x4), some (.int v4)]) pJ1_indexOfChar_4cfef_25 rfl ic_1 e4.symm rfl ?_
        refine G_goto pJ1_indexOfChar_4cfef_28 ?_
        exact hX7 _ _ _ hrf h
      · have h := h.2 c3
        refine G_iload (i := 5) pJ1_indexOfChar_4cfef_22 rfl ?_
        exact G_ireturn (len := 1) pJ1_indexOfChar_4cfef_24 ⟨hrf, _, rfl, h⟩ ⟨_, rfl, rfl⟩
  exact key n rf _ _ hrf h0
def L_J1_indexOfChar_4cfef (b : Nat) (a2 : Int32) (a3 : Int32) (a4 : Int32) (mem : MMt) (Q : Int32 → MMt → Prop) : Prop := (∀ v1 : Int32, v1 = a2.toInt8.toInt32 → B_J1_indexOfChar_4cfef_7 b a4 v1 a3 mem Q)
set_option maxRecDepth 4000 in
theorem g_J1_indexOfChar_4cfef {sx : Nat × (Nat → Int32)} {nx : Nat} {M : RFt → Prop} {rf : RFt} {Q : Int32 → MMt → Prop} (b : Nat) (a2 : Int32) (a3 : Int32) (a4 : Int32) (hb : b < 3) (hrf : M rf) (mem : MMt) (h : L_J1_indexOfChar_4cfef b a2 a3 a4 mem Q) : Ct sx yJ1_indexOfChar_4cfef cJ1_indexOfChar_4cfef 6 (some .int) 1 [.ref (1005 + b), .int a2, .int a3, .int a4] nx nx rf mem (QQi (M) Q) := by
  refine Ct_of [some (.ref (1005 + b)), some (.int a2), some (.int a3), some (.int a4), none, none] (by decide +kernel) (by simp [Lof, Value.category]) rfl ?_
  unfold L_J1_indexOfChar_4cfef at h
  refine G_iload_n (i := 1) pJ1_indexOfChar_4cfef_0 rfl rfl ?_
  refine G_i2b pJ1_indexOfChar_4cfef_1 ?_
  obtain ⟨v1, e1⟩ : ∃ z : Int32, z = a2.toInt8.toInt32 := ⟨_, rfl⟩
  have h := h v1 e1
  refine G_istoreW (L' := [some (.ref (1005 + b)), some (.int a2), some (.int a3), some (.int a4), some (.int v1), none]) pJ1_indexOfChar_4cfef_2 e1.symm rfl ?_
  refine G_iload_n (i := 2) pJ1_indexOfChar_4cfef_4 rfl rfl ?_
  refine G_istore (i := 5) (L' := [some (.ref (1005 + b)), some (.int a2), some (.int a3), some (.int a4), some (.int v1), some (.int a3)]) pJ1_indexOfChar_4cfef_5 rfl ?_
  refine G_wk (L2 := [some (.ref (1005 + b)), none, none, some (.int a4), some (.int v1), some (.int a3)]) ⟨Or.inr rfl, Or.inl rfl, Or.inl rfl, Or.inr rfl, Or.inr rfl, Or.inr rfl, trivial⟩ ?_
  exact gB_J1_indexOfChar_4cfef_7 b hb hrf a4 v1 a3 _ h
def L_J1_indexOf_4cfef (b : Nat) (a2 : Int32) (a3 : Int32) (a4 : Int32) (mem : MMt) (Q : Int32 → MMt → Prop) : Prop := L_J1_canEncode_9a6ad a2 mem (fun r2 m1 => ((¬ r2 = 0 → L_J9_max_7cf53 a3 (0 : Int32) m1 (fun r5 m4 => L_J9_min_7cf53 a4 (Int32.ofNat (strLen.getD b 0)) m4 (fun r7 m6 => ((r5 < r7 → L_J1_indexOfChar_4cfef b a2 r5 r7 m6 (fun r10 m9 => Q r10 m9)) ∧ (¬ r5 < r7 → Q (-1 : Int32) m6))))) ∧ (r2 = 0 → Q (-1 : Int32) m1)))
set_option maxRecDepth 4000 in
theorem g_J1_indexOf_4cfef {sx : Nat × (Nat → Int32)} {nx : Nat} {M : RFt → Prop} {rf : RFt} {Q : Int32 → MMt → Prop} (b : Nat) (a2 : Int32) (a3 : Int32) (a4 : Int32) (hb : b < 3) (hrf : M rf) (mem : MMt) (h : L_J1_indexOf_4cfef b a2 a3 a4 mem Q) : Ct sx yJ1_indexOf_4cfef cJ1_indexOf_4cfef 4 (some .int) 2 [.ref (1005 + b), .int a2, .int a3, .int a4] nx nx rf mem (QQi (M) Q) := by
  refine Ct_of [some (.ref (1005 + b)), some (.int a2), some (.int a3), some (.int a4)] (by decide +kernel) (by simp [Lof, Value.category]) rfl ?_
  unfold L_J1_indexOf_4cfef at h
  refine G_iload_n (i := 1) pJ1_indexOf_4cfef_0 rfl rfl ?_
  refine G_callS1i pJ1_indexOf_4cfef_1 (g_J1_canEncode_9a6ad a2 hrf _ h) mS_J1_canEncode_9a6ad ml_RJ1_88 (by decide) ⟨Nat.le_refl _, Nat.le_refl _, Nat.le_refl _⟩ (Nat.le_of_ble_eq_true rfl) ?_
  intro r2 rf m1 hrf h hr2
  refine G_if_ne pJ1_indexOf_4cfef_4 (fun c3 => ?_) (fun c3 => ?_)
  · have h := h.1 c3
    refine G_iload_n (i := 2) pJ1_indexOf_4cfef_9 rfl rfl ?_
    refine G_iconst pJ1_indexOf_4cfef_10 ic_0 ?_
    refine G_callS2i pJ1_indexOf_4cfef_11 (g_J9_max_7cf53 a3 (0 : Int32) hrf _ h) mS_J9_max_7cf53 ml_RJ1_92 (by decide) ⟨Nat.le_refl _, Nat.le_refl _, Nat.le_refl _⟩ (Nat.le_of_ble_eq_true rfl) ?_
    intro r5 rf m4 hrf h hr5
    refine G_istore_n (i := 2) (L' := [some (.ref (1005 + b)), some (.int a2), some (.int r5), some (.int a4)]) pJ1_indexOf_4cfef_14 rfl rfl ?_
    refine G_iload_n (i := 3) pJ1_indexOf_4cfef_15 rfl rfl ?_
    refine G_aload_n (i := 0) pJ1_indexOf_4cfef_16 rfl rfl ?_
    refine G_sblen (i := b) pJ1_indexOf_4cfef_17 (by omega) ?_
    refine G_callS2i pJ1_indexOf_4cfef_18 (g_J9_min_7cf53 a4 (Int32.ofNat (strLen.getD b 0)) hrf _ h) mS_J9_min_7cf53 ml_RJ1_38 (by decide) ⟨Nat.le_refl _, Nat.le_refl _, Nat.le_refl _⟩ (Nat.le_of_ble_eq_true rfl) ?_
    intro r7 rf m6 hrf h hr7
    refine G_istore_n (i := 3) (L' := [some (.ref (1005 + b)), some (.int a2), some (.int r5), some (.int r7)]) pJ1_indexOf_4cfef_21 rfl rfl ?_
    refine G_iload_n (i := 2) pJ1_indexOf_4cfef_22 rfl rfl ?_
    refine G_iload_n (i := 3) pJ1_indexOf_4cfef_23 rfl rfl ?_
    refine G_icmp_lt pJ1_indexOf_4cfef_24 (fun c8 => ?_) (fun c8 => ?_)
    · have h := h.1 c8
      refine G_aload_n (i := 0) pJ1_indexOf_4cfef_29 rfl rfl ?_
      refine G_iload_n (i := 1) pJ1_indexOf_4cfef_30 rfl rfl ?_
      refine G_iload_n (i := 2) pJ1_indexOf_4cfef_31 rfl rfl ?_
      refine G_iload_n (i := 3) pJ1_indexOf_4cfef_32 rfl rfl ?_
      refine G_callS4i pJ1_indexOf_4cfef_33 (g_J1_indexOfChar_4cfef b a2 r5 r7 (by omega) hrf _ h) mS_J1_indexOfChar_4cfef ml_RJ1_95 (by decide) ⟨Nat.le_refl _, Nat.le_refl _, Nat.le_refl _⟩ (Nat.le_of_ble_eq_true rfl) ?_
      intro r10 rf m9 hrf h hr10
      exact G_ireturn (len := 1) pJ1_indexOf_4cfef_36 ⟨hrf, _, rfl, h⟩ ⟨_, rfl, rfl⟩
    · have h := h.2 c8
      refine G_iconst pJ1_indexOf_4cfef_27 ic_m1 ?_
      exact G_ireturn (len := 1) pJ1_indexOf_4cfef_28 ⟨hrf, _, rfl, h⟩ ⟨_, rfl, rfl⟩
  · have h := h.2 c3
    refine G_iconst pJ1_indexOf_4cfef_7 ic_m1 ?_
    exact G_ireturn (len := 1) pJ1_indexOf_4cfef_8 ⟨hrf, _, rfl, h⟩ ⟨_, rfl, rfl⟩
def L_J0_indexOf_7cf53 (b : Nat) (a1 : Int32) (a2 : Int32) (mem : MMt) (Q : Int32 → MMt → Prop) : Prop := L_J0_isLatin1_aae02 b mem (fun r2 m1 => ((r2 = 0 → False) ∧ (¬ r2 = 0 → L_J0_length_8abf5 b m1 (fun r5 m4 => L_J1_indexOf_4cfef b a1 a2 r5 m4 (fun r7 m6 => Q r7 m6)))))
set_option maxRecDepth 4000 in
theorem g_J0_indexOf_7cf53 {sx : Nat × (Nat → Int32)} {nx : Nat} {M : RFt → Prop} {rf : RFt} {Q : Int32 → MMt → Prop} (b : Nat) (a1 : Int32) (a2 : Int32) (hb : b < 3) (hrf : M rf) (mem : MMt) (h : L_J0_indexOf_7cf53 b a1 a2 mem Q) : Ct sx yJ0_indexOf_7cf53 cJ0_indexOf_7cf53 3 (some .int) 6 [.ref (1002 + b), .int a1, .int a2] nx nx rf mem (QQi (M) Q) := by
  refine Ct_of [some (.ref (1002 + b)), some (.int a1), some (.int a2)] (by decide +kernel) (by simp [Lof, Value.category]) rfl ?_
  unfold L_J0_indexOf_7cf53 at h
  refine G_aload_n (i := 0) pJ0_indexOf_7cf53_0 rfl rfl ?_
  refine G_callVS0i (b := b) pJ0_indexOf_7cf53_1 (g_J0_isLatin1_aae02 b (by omega) hrf _ h) mV_J0_isLatin1_aae02 ml_RJ0_492 (by decide) ⟨Nat.le_refl _, Nat.le_refl _, Nat.le_refl _⟩ (Nat.le_of_ble_eq_true rfl) (by omega) rfl ?_
  intro r2 rf m1 hrf h hr2
  refine G_if_eq pJ0_indexOf_7cf53_4 (fun c3 => ?_) (fun c3 => ?_)
  · have h := h.1 c3
    exact h.elim
  · have h := h.2 c3
    refine G_aload_n (i := 0) pJ0_indexOf_7cf53_7 rfl rfl ?_
    refine G_sValue (i := b) pJ0_indexOf_7cf53_8 (by omega) wf_RJ0_9 ?_
    refine G_iload_n (i := 1) pJ0_indexOf_7cf53_11 rfl rfl ?_
    refine G_iload_n (i := 2) pJ0_indexOf_7cf53_12 rfl rfl ?_
    refine G_aload_n (i := 0) pJ0_indexOf_7cf53_13 rfl rfl ?_
    refine G_callVS0i (b := b) pJ0_indexOf_7cf53_14 (g_J0_length_8abf5 b (by omega) hrf _ h) mV_J0_length_8abf5 ml_RJ0_505 (by decide) ⟨Nat.le_refl _, Nat.le_refl _, Nat.le_refl _⟩ (Nat.le_of_ble_eq_true rfl) (by omega) rfl ?_
    intro r5 rf m4 hrf h hr5
    refine G_callS4i pJ0_indexOf_7cf53_17 (g_J1_indexOf_4cfef b a1 a2 r5 (by omega) hrf _ h) mS_J1_indexOf_4cfef ml_RJ0_637 (by decide) ⟨Nat.le_refl _, Nat.le_refl _, Nat.le_refl _⟩ (Nat.le_of_ble_eq_true rfl) ?_
    intro r7 rf m6 hrf h hr7
    refine G_goto pJ0_indexOf_7cf53_20 ?_
    exact G_ireturn (len := 1) pJ0_indexOf_7cf53_36 ⟨hrf, _, rfl, h⟩ ⟨_, rfl, rfl⟩
def L_J0_indexOf_0f7a4 (b : Nat) (a1 : Int32) (mem : MMt) (Q : Int32 → MMt → Prop) : Prop := L_J0_indexOf_7cf53 b a1 (0 : Int32) mem (fun r2 m1 => Q r2 m1)
set_option maxRecDepth 4000 in
theorem g_J0_indexOf_0f7a4 {sx : Nat × (Nat → Int32)} {nx : Nat} {M : RFt → Prop} {rf : RFt} {Q : Int32 → MMt → Prop} (b : Nat) (a1 : Int32) (hb : b < 3) (hrf : M rf) (mem : MMt) (h : L_J0_indexOf_0f7a4 b a1 mem Q) : Ct sx yJ0_indexOf_0f7a4 cJ0_indexOf_0f7a4 2 (some .int) 7 [.ref (1002 + b), .int a1] nx nx rf mem (QQi (M) Q) := by
  refine Ct_of [some (.ref (1002 + b)), some (.int a1)] (by decide +kernel) (by simp [Lof, Value.category]) rfl ?_
  unfold L_J0_indexOf_0f7a4 at h
  refine G_aload_n (i := 0) pJ0_indexOf_0f7a4_0 rfl rfl ?_
  refine G_iload_n (i := 1) pJ0_indexOf_0f7a4_1 rfl rfl ?_
  refine G_iconst pJ0_indexOf_0f7a4_2 ic_0 ?_
  refine G_callVS2i (b := b) pJ0_indexOf_0f7a4_3 (g_J0_indexOf_7cf53 b a1 (0 : Int32) (by omega) hrf _ h) mV_J0_indexOf_7cf53 ml_RJ0_633 (by decide) ⟨Nat.le_refl _, Nat.le_refl _, Nat.le_refl _⟩ (Nat.le_of_ble_eq_true rfl) (by omega) rfl ?_
  intro r2 rf m1 hrf h hr2
  exact G_ireturn (len := 1) pJ0_indexOf_0f7a4_6 ⟨hrf, _, rfl, h⟩ ⟨_, rfl, rfl⟩
def L_X4_levelOf (a1 : Int32) (mem : MMt) (Q : Int32 → MMt → Prop) : Prop := ((a1 = (37 : Int32) → Q (4 : Int32) mem) ∧ (a1 = (38 : Int32) → Q (1 : Int32) mem) ∧ (a1 = (42 : Int32) → Q (4 : Int32) mem) ∧ (a1 = (43 : Int32) → Q (3 : Int32) mem) ∧ (a1 = (45 : Int32) → Q (3 : Int32) mem) ∧ (a1 = (47 : Int32) → Q (4 : Int32) mem) ∧ (a1 = (60 : Int32) → Q (2 : Int32) mem) ∧ (a1 = (61 : Int32) → Q (2 : Int32) mem) ∧ (a1 = (62 : Int32) → Q (2 : Int32) mem) ∧ (a1 = (124 : Int32) → Q (0 : Int32) mem) ∧ (¬ a1 = (37 : Int32) → ¬ a1 = (38 : Int32) → ¬ a1 = (42 : Int32) → ¬ a1 = (43 : Int32) → ¬ a1 = (45 : Int32) → ¬ a1 = (47 : Int32) → ¬ a1 = (60 : Int32) → ¬ a1 = (61 : Int32) → ¬ a1 = (62 : Int32) → ¬ a1 = (124 : Int32) → Q (-1 : Int32) mem))
set_option maxRecDepth 4000 in
theorem g_X4_levelOf {sx : Nat × (Nat → Int32)} {M : RFt → Prop} {rf : RFt} {Q : Int32 → MMt → Prop} (a1 : Int32) (hrf : M rf) (mem : MMt) (h : L_X4_levelOf a1 mem Q) : Ct sx yX4_levelOf cX4_levelOf 1 (some .int) 1 [.int a1] NX NX rf mem (QQi (M) Q) := by
  refine Ct_of [some (.int a1)] (by decide +kernel) (by simp [Lof, Value.category]) rfl ?_
  unfold L_X4_levelOf at h
  refine G_iload_n (i := 0) pX4_levelOf_0 rfl rfl ?_
  by_cases c1 : a1 = (37 : Int32)
  · have h := h.1 c1
    refine G_lsE (v := (37 : Int32)) (off := 99) (tgt := 100) pX4_levelOf_1 c1 (by decide) (by decide) (by decide) ?_
    refine G_iconst pX4_levelOf_100 ic_4 ?_
    exact G_ireturn (len := 1) pX4_levelOf_101 ⟨hrf, _, rfl, h⟩ ⟨_, rfl, rfl⟩
  by_cases c2 : a1 = (38 : Int32)
  · have h := h.2.1 c2
    refine G_lsE (v := (38 : Int32)) (off := 93) (tgt := 94) pX4_levelOf_1 c2 (by decide) (by decide) (by decide) ?_
    refine G_iconst pX4_levelOf_94 ic_1 ?_
    exact G_ireturn (len := 1) pX4_levelOf_95 ⟨hrf, _, rfl, h⟩ ⟨_, rfl, rfl⟩
  by_cases c3 : a1 = (42 : Int32)
  · have h := h.2.2.1 c3
    refine G_lsE (v := (42 : Int32)) (off := 99) (tgt := 100) pX4_levelOf_1 c3 (by decide) (by decide) (by decide) ?_
    refine G_iconst pX4_levelOf_100 ic_4 ?_
    exact G_ireturn (len := 1) pX4_levelOf_101 ⟨hrf, _, rfl, h⟩ ⟨_, rfl, rfl⟩
  by_cases c4 : a1 = (43 : Int32)
  · have h := h.2.2.2.1 c4
    refine G_lsE (v := (43 : Int32)) (off := 97) (tgt := 98) pX4_levelOf_1 c4 (by decide) (by decide) (by decide) ?_
    refine G_iconst pX4_levelOf_98 ic_3 ?_
    exact G_ireturn (len := 1) pX4_levelOf_99 ⟨hrf, _, rfl, h⟩ ⟨_, rfl, rfl⟩
  by_cases c5 : a1 = (45 : Int32)
  · have h := h.2.2.2.2.1 c5
    refine G_lsE (v := (45 : Int32)) (off := 97) (tgt := 98) pX4_levelOf_1 c5 (by decide) (by decide) (by decide) ?_
    refine G_iconst pX4_levelOf_98 ic_3 ?_
    exact G_ireturn (len := 1) pX4_levelOf_99 ⟨hrf, _, rfl, h⟩ ⟨_, rfl, rfl⟩
  by_cases c6 : a1 = (47 : Int32)
  · have h := h.2.2.2.2.2.1 c6
    refine G_lsE (v := (47 : Int32)) (off := 99) (tgt := 100) pX4_levelOf_1 c6 (by decide) (by decide) (by decide) ?_
    refine G_iconst pX4_levelOf_100 ic_4 ?_
    exact G_ireturn (len := 1) pX4_levelOf_101 ⟨hrf, _, rfl, h⟩ ⟨_, rfl, rfl⟩
  by_cases c7 : a1 = (60 : Int32)
  · have h := h.2.2.2.2.2.2.1 c7
    refine G_lsE (v := (60 : Int32)) (off := 95) (tgt := 96) pX4_levelOf_1 c7 (by decide) (by decide) (by decide) ?_
    refine G_iconst pX4_levelOf_96 ic_2 ?_
    exact G_ireturn (len := 1) pX4_levelOf_97 ⟨hrf, _, rfl, h⟩ ⟨_, rfl, rfl⟩
  by_cases c8 : a1 = (61 : Int32)
  · have h := h.2.2.2.2.2.2.2.1 c8
    refine G_lsE (v := (61 : Int32)) (off := 95) (tgt := 96) pX4_levelOf_1 c8 (by decide) (by decide) (by decide) ?_
    refine G_iconst pX4_levelOf_96 ic_2 ?_
    exact G_ireturn (len := 1) pX4_levelOf_97 ⟨hrf, _, rfl, h⟩ ⟨_, rfl, rfl⟩
  by_cases c9 : a1 = (62 : Int32)
  · have h := h.2.2.2.2.2.2.2.2.1 c9
    refine G_lsE (v := (62 : Int32)) (off := 95) (tgt := 96) pX4_levelOf_1 c9 (by decide) (by decide) (by decide) ?_
    refine G_iconst pX4_levelOf_96 ic_2 ?_
    exact G_ireturn (len := 1) pX4_levelOf_97 ⟨hrf, _, rfl, h⟩ ⟨_, rfl, rfl⟩
  by_cases c10 : a1 = (124 : Int32)
  · have h := h.2.2.2.2.2.2.2.2.2.1 c10
    refine G_lsE (v := (124 : Int32)) (off := 91) (tgt := 92) pX4_levelOf_1 c10 (by decide) (by decide) (by decide) ?_
    refine G_iconst pX4_levelOf_92 ic_0 ?_
    exact G_ireturn (len := 1) pX4_levelOf_93 ⟨hrf, _, rfl, h⟩ ⟨_, rfl, rfl⟩
  refine G_ls (off := 101) (tgt := 102) pX4_levelOf_1 (by decide) ((lv_osw c1 (by decide)).trans ((lv_osw c2 (by decide)).trans ((lv_osw c3 (by decide)).trans ((lv_osw c4 (by decide)).trans ((lv_osw c5 (by decide)).trans ((lv_osw c6 (by decide)).trans ((lv_osw c7 (by decide)).trans ((lv_osw c8 (by decide)).trans ((lv_osw c9 (by decide)).trans ((lv_osw c10 (by decide)).trans rfl)))))))))) (by decide) ?_
  have h := h.2.2.2.2.2.2.2.2.2.2 c1 c2 c3 c4 c5 c6 c7 c8 c9 c10
  refine G_iconst pX4_levelOf_102 ic_m1 ?_
  exact G_ireturn (len := 1) pX4_levelOf_103 ⟨hrf, _, rfl, h⟩ ⟨_, rfl, rfl⟩
def B_X4_readJoined_24 (R_X4_readJoined : Nat → Int32 → Int32 → MMt → (Int32 → MMt → Prop) → Prop) (R_X4_readPart : Nat → Int32 → MMt → (Int32 → MMt → Prop) → Prop) (R_X4_readNegated : Nat → Int32 → MMt → (Int32 → MMt → Prop) → Prop) (R_X4_readEnclosed : Nat → Int32 → MMt → (Int32 → MMt → Prop) → Prop) (b : Nat) (x1 : Int32) (x2 : Int32) (mem : MMt) (Q : Int32 → MMt → Prop) : Prop := LOOP (σ := MMt) (fun X24 z => (fun (mem : MMt) => (((mem 55 3) ≤ (mem 55 4) → Q (1 : Int32) mem) ∧ (¬ (mem 55 3) ≤ (mem 55 4) → (vp_in (mem 55 4) 50 ∧ L_X4_levelOf (mem 13 (mem 55 4).toNatClampNeg) mem (fun r4 m3 => ((¬ r4 = x1 → Q (1 : Int32) m3) ∧ (r4 = x1 → (vp_in (m3 55 4) 50 ∧ (∀ v7 : Int32, v7 = m3 13 (m3 55 4).toNatClampNeg → (∀ m8 : MMt, m8 = up2 m3 55 4 ((m3 55 4) + (1 : Int32)) → R_X4_readJoined b (x1 + (1 : Int32)) x2 m8 (fun r10 m9 => ((¬ r10 = 0 → L_X4_keep b ((20000 : Int32) + v7) m9 (fun m12 => ((¬ x1 = (2 : Int32) → X24 m12) ∧ (x1 = (2 : Int32) → Q (1 : Int32) m12)))) ∧ (r10 = 0 → Q (0 : Int32) m9))))))))))))) z) mem
set_option maxRecDepth 4000 in
theorem gB_X4_readJoined_24 {sx : Nat × (Nat → Int32)} {R_X4_readJoined : Nat → Int32 → Int32 → MMt → (Int32 → MMt → Prop) → Prop} {R_X4_readPart : Nat → Int32 → MMt → (Int32 → MMt → Prop) → Prop} {R_X4_readNegated : Nat → Int32 → MMt → (Int32 → MMt → Prop) → Prop} {R_X4_readEnclosed : Nat → Int32 → MMt → (Int32 → MMt → Prop) → Prop} {rf : RFt} {Q : Int32 → MMt → Prop} {d0 : Nat} (hd0 : 7 ≤ d0) (hR_X4_readJoined : ∀ (rf : RFt) (b : Nat) (a1 : Int32) (a2 : Int32) (hb : b < 2) (mem : MMt) (Q : Int32 → MMt → Prop), RFr b rf → R_X4_readJoined b a1 a2 mem Q → Ct sx yX4_readJoined cX4_readJoined 4 (some .boolean) d0 [.ref 55, .int a1, .int a2] NX NX rf mem (QQi (RFr b) Q)) (hR_X4_readPart : ∀ (rf : RFt) (b : Nat) (a1 : Int32) (hb : b < 2) (mem : MMt) (Q : Int32 → MMt → Prop), RFr b rf → R_X4_readPart b a1 mem Q → Ct sx yX4_readPart cX4_readPart 4 (some .boolean) d0 [.ref 55, .int a1] NX NX rf mem (QQi (RFr b) Q)) (hR_X4_readNegated : ∀ (rf : RFt) (b : Nat) (a1 : Int32) (hb : b < 2) (mem : MMt) (Q : Int32 → MMt → Prop), RFr b rf → R_X4_readNegated b a1 mem Q → Ct sx yX4_readNegated cX4_readNegated 2 (some .boolean) d0 [.ref 55, .int a1] NX NX rf mem (QQi (RFr b) Q)) (hR_X4_readEnclosed : ∀ (rf : RFt) (b : Nat) (a1 : Int32) (hb : b < 2) (mem : MMt) (Q : Int32 → MMt → Prop), RFr b rf → R_X4_readEnclosed b a1 mem Q → Ct sx yX4_readEnclosed cX4_readEnclosed 2 (some .boolean) d0 [.ref 55, .int a1] NX NX rf mem (QQi (RFr b) Q)) (b : Nat) (hb : b < 2) (hrf : RFr b rf) (x1 : Int32) (x2 : Int32) (mem : MMt) (h : B_X4_readJoined_24 R_X4_readJoined R_X4_readPart R_X4_readNegated R_X4_readEnclosed b x1 x2 mem Q) : G sx yX4_readJoined cX4_readJoined 4 (some .boolean) (d0 + 1) NX NX (QQi (RFr b) Q) NX rf mem 24 [some (.ref 55), some (.int x1), some (.int x2), none] [] := by
  obtain ⟨I, ⟨n, h0⟩, hI⟩ := h
  have key : ∀ (n : Nat) (rf : RFt) (mem : MMt), RFr b rf → I n mem → G sx yX4_readJoined cX4_readJoined 4 (some .boolean) (d0 + 1) NX NX (QQi (RFr b) Q) NX rf mem 24 [some (.ref 55), some (.int x1), some (.int x2), none] [] := by
    intro n
    induction n using Nat.strongRecOn with
    | _ n ih =>
    intro rf mem hrf h0
    have hX24 : ∀ (rf : RFt) (mem : MMt), RFr b rf → (fun s' => ∃ m, m < n ∧ I m s') mem → G sx yX4_readJoined cX4_readJoined 4 (some .boolean) (d0 + 1) NX NX (QQi (RFr b) Q) NX rf mem 24 [some (.ref 55), some (.int x1), some (.int x2), none] [] := fun rf mem hrf ⟨m, hm, hi⟩ => ih m hm rf mem hrf hi
    have h := hI n _ h0
    clear ih h0
    try dsimp only at h
    refine G_aload_n (i := 0) pX4_readJoined_24 rfl rfl ?_
    refine G_getI (ci := 4) (j := 4) (N := 6) pX4_readJoined_25 fl_RX4_39 rfl ltk_55 shk_55 (by decide) rfl ?_
    refine G_aload_n (i := 0) pX4_readJoined_28 rfl rfl ?_
    refine G_getI (ci := 4) (j := 3) (N := 6) pX4_readJoined_29 fl_RX4_31 rfl ltk_55 shk_55 (by decide) rfl ?_
    refine G_icmp_ge pX4_readJoined_32 (fun c1 => ?_) (fun c1 => ?_)
    · have h := h.1 c1
      refine G_iconst pX4_readJoined_104 ic_1 ?_
      exact G_ireturn (len := 1) pX4_readJoined_105 ⟨hrf, _, rfl, h⟩ ⟨_, rfl, rfl⟩
    · have h := h.2 c1
      refine G_aload_n (i := 0) pX4_readJoined_35 rfl rfl ?_
      refine G_getR (ci := 4) (j := 2) (N := 6) pX4_readJoined_36 fl_RX4_15 rfl ltk_55 shk_55 (by decide) rfl hrf.2.1 ?_
      refine G_aload_n (i := 0) pX4_readJoined_39 rfl rfl ?_
      refine G_getI (ci := 4) (j := 4) (N := 6) pX4_readJoined_40 fl_RX4_39 rfl ltk_55 shk_55 (by decide) rfl ?_
      obtain ⟨hi2, h⟩ := h
      refine G_bald pX4_readJoined_43 ltk_13 shk_13 hi2 ?_
      refine G_callS1i pX4_readJoined_44 (g_X4_levelOf (mem 13 (mem 55 4).toNatClampNeg) hrf _ h) mS_X4_levelOf ml_RX4_53 (by omega) ⟨Nat.le_refl _, Nat.le_refl _, Nat.le_refl _⟩ (Nat.le_of_ble_eq_true rfl) ?_
      intro r4 rf m3 hrf h hr4
      refine G_iload_n (i := 1) pX4_readJoined_47 rfl rfl ?_
      refine G_icmp_ne pX4_readJoined_48 (fun c5 => ?_) (fun c5 => ?_)
      · have h := h.1 c5
        refine G_iconst pX4_readJoined_104 ic_1 ?_
        exact G_ireturn (len := 1) pX4_readJoined_105 ⟨hrf, _, rfl, h⟩ ⟨_, rfl, rfl⟩
      · have h := h.2 c5
        refine G_aload_n (i := 0) pX4_readJoined_51 rfl rfl ?_
        refine G_getR (ci := 4) (j := 2) (N := 6) pX4_readJoined_52 fl_RX4_15 rfl ltk_55 shk_55 (by decide) rfl hrf.2.1 ?_
        refine G_aload_n (i := 0) pX4_readJoined_55 rfl rfl ?_
        refine G_getI (ci := 4) (j := 4) (N := 6) pX4_readJoined_56 fl_RX4_39 rfl ltk_55 shk_55 (by decide) rfl ?_
        obtain ⟨hi6, h⟩ := h
        refine G_bald pX4_readJoined_59 ltk_13 shk_13 hi6 ?_
        obtain ⟨v7, e7⟩ : ∃ z : Int32, z = m3 13 (m3 55 4).toNatClampNeg := ⟨_, rfl⟩
        have h := h v7 e7
        refine G_istore_nW (L' := [some (.ref 55), some (.int x1), some (.int x2), some (.int v7)]) pX4_readJoined_60 rfl e7.symm rfl ?_
        refine G_aload_n (i := 0) pX4_readJoined_61 rfl rfl ?_
        refine G_dup pX4_readJoined_62 rfl ?_
        refine G_getI (ci := 4) (j := 4) (N := 6) pX4_readJoined_63 fl_RX4_39 rfl ltk_55 shk_55 (by decide) rfl ?_
        refine G_iconst pX4_readJoined_66 ic_1 ?_
        refine G_iadd pX4_readJoined_67 ?_
        obtain ⟨m8, em8⟩ : ∃ z : MMt, z = up2 m3 55 4 ((m3 55 4) + (1 : Int32)) := ⟨_, rfl⟩
        have h := h m8 em8
        refine G_putIW (ci := 4) (j := 4) (N := 6) pX4_readJoined_68 fw_RX4_39 rfl ltk_55 shk_55 (by decide) rfl (fun _ => ⟨rfl, rfl⟩) em8.symm ?_
        refine G_aload_n (i := 0) pX4_readJoined_71 rfl rfl ?_
        refine G_iload_n (i := 1) pX4_readJoined_72 rfl rfl ?_
        refine G_iconst pX4_readJoined_73 ic_1 ?_
        refine G_iadd pX4_readJoined_74 ?_
        refine G_iload_n (i := 2) pX4_readJoined_75 rfl rfl ?_
        refine G_callV2i (b := 55) (ci := 4) (N := 6) pX4_readJoined_76 (hR_X4_readJoined _ b (x1 + (1 : Int32)) x2 hb _ _ hrf h) mV_X4_readJoined ml_RX4_45 (Nat.le_refl _) ⟨Nat.le_refl _, Nat.le_refl _, Nat.le_refl _⟩ (Nat.le_of_ble_eq_true rfl) ltk_55 shk_55 rfl ?_
        intro r10 rf m9 hrf h hr10
        refine G_if_ne pX4_readJoined_79 (fun c11 => ?_) (fun c11 => ?_)
        · have h := h.1 c11
          refine G_aload_n (i := 0) pX4_readJoined_84 rfl rfl ?_
          refine G_sipush pX4_readJoined_85 si_20000 ?_
          refine G_iload_n (i := 3) pX4_readJoined_88 rfl rfl ?_
          refine G_iadd pX4_readJoined_89 ?_
          refine G_callV1v (b := 55) (ci := 4) (N := 6) pX4_readJoined_90 (g_X4_keep b ((20000 : Int32) + v7) hb hrf _ h) mV_X4_keep ml_RX4_59 (by omega) ⟨Nat.le_refl _, Nat.le_refl _, Nat.le_refl _⟩ (Nat.le_of_ble_eq_true rfl) ltk_55 shk_55 rfl ?_
          intro rf m12 hrf h
          refine G_iload_n (i := 1) pX4_readJoined_93 rfl rfl ?_
          refine G_iconst pX4_readJoined_94 ic_2 ?_
          refine G_icmp_ne pX4_readJoined_95 (fun c13 => ?_) (fun c13 => ?_)
          · have h := h.1 c13
            refine G_goto pX4_readJoined_101 ?_
            refine G_wk (L2 := [some (.ref 55), some (.int x1), some (.int x2), none]) ⟨Or.inr rfl, Or.inr rfl, Or.inr rfl, Or.inl rfl, trivial⟩ ?_
            exact hX24 _  _ hrf h
          · have h := h.2 c13
            refine G_goto pX4_readJoined_98 ?_
            refine G_iconst pX4_readJoined_104 ic_1 ?_
            exact G_ireturn (len := 1) pX4_readJoined_105 ⟨hrf, _, rfl, h⟩ ⟨_, rfl, rfl⟩
        · have h := h.2 c11
          refine G_iconst pX4_readJoined_82 ic_0 ?_
          exact G_ireturn (len := 1) pX4_readJoined_83 ⟨hrf, _, rfl, h⟩ ⟨_, rfl, rfl⟩
  exact key n rf _ hrf h0
def L_X4_readJoined (R_X4_readJoined : Nat → Int32 → Int32 → MMt → (Int32 → MMt → Prop) → Prop) (R_X4_readPart : Nat → Int32 → MMt → (Int32 → MMt → Prop) → Prop) (R_X4_readNegated : Nat → Int32 → MMt → (Int32 → MMt → Prop) → Prop) (R_X4_readEnclosed : Nat → Int32 → MMt → (Int32 → MMt → Prop) → Prop) (b : Nat) (a1 : Int32) (a2 : Int32) (mem : MMt) (Q : Int32 → MMt → Prop) : Prop := ((a1 ≤ (4 : Int32) → R_X4_readJoined b (a1 + (1 : Int32)) a2 mem (fun r3 m2 => ((¬ r3 = 0 → B_X4_readJoined_24 R_X4_readJoined R_X4_readPart R_X4_readNegated R_X4_readEnclosed b a1 a2 m2 Q) ∧ (r3 = 0 → Q (0 : Int32) m2)))) ∧ (¬ a1 ≤ (4 : Int32) → R_X4_readPart b a2 mem (fun r6 m5 => Q r6 m5)))
set_option maxRecDepth 4000 in
theorem g_X4_readJoined {sx : Nat × (Nat → Int32)} {R_X4_readJoined : Nat → Int32 → Int32 → MMt → (Int32 → MMt → Prop) → Prop} {R_X4_readPart : Nat → Int32 → MMt → (Int32 → MMt → Prop) → Prop} {R_X4_readNegated : Nat → Int32 → MMt → (Int32 → MMt → Prop) → Prop} {R_X4_readEnclosed : Nat → Int32 → MMt → (Int32 → MMt → Prop) → Prop} {rf : RFt} {Q : Int32 → MMt → Prop} {d0 : Nat} (hd0 : 7 ≤ d0) (hR_X4_readJoined : ∀ (rf : RFt) (b : Nat) (a1 : Int32) (a2 : Int32) (hb : b < 2) (mem : MMt) (Q : Int32 → MMt → Prop), RFr b rf → R_X4_readJoined b a1 a2 mem Q → Ct sx yX4_readJoined cX4_readJoined 4 (some .boolean) d0 [.ref 55, .int a1, .int a2] NX NX rf mem (QQi (RFr b) Q)) (hR_X4_readPart : ∀ (rf : RFt) (b : Nat) (a1 : Int32) (hb : b < 2) (mem : MMt) (Q : Int32 → MMt → Prop), RFr b rf → R_X4_readPart b a1 mem Q → Ct sx yX4_readPart cX4_readPart 4 (some .boolean) d0 [.ref 55, .int a1] NX NX rf mem (QQi (RFr b) Q)) (hR_X4_readNegated : ∀ (rf : RFt) (b : Nat) (a1 : Int32) (hb : b < 2) (mem : MMt) (Q : Int32 → MMt → Prop), RFr b rf → R_X4_readNegated b a1 mem Q → Ct sx yX4_readNegated cX4_readNegated 2 (some .boolean) d0 [.ref 55, .int a1] NX NX rf mem (QQi (RFr b) Q)) (hR_X4_readEnclosed : ∀ (rf : RFt) (b : Nat) (a1 : Int32) (hb : b < 2) (mem : MMt) (Q : Int32 → MMt → Prop), RFr b rf → R_X4_readEnclosed b a1 mem Q → Ct sx yX4_readEnclosed cX4_readEnclosed 2 (some .boolean) d0 [.ref 55, .int a1] NX NX rf mem (QQi (RFr b) Q)) (b : Nat) (a1 : Int32) (a2 : Int32) (hb : b < 2) (hrf : RFr b rf) (mem : MMt) (h : L_X4_readJoined R_X4_readJoined R_X4_readPart R_X4_readNegated R_X4_readEnclosed b a1 a2 mem Q) : Ct sx yX4_readJoined cX4_readJoined 4 (some .boolean) (d0 + 1) [.ref 55, .int a1, .int a2] NX NX rf mem (QQi (RFr b) Q) := by
  refine Ct_of [some (.ref 55), some (.int a1), some (.int a2), none] (by decide +kernel) (by simp [Lof, Value.category]) rfl ?_
  unfold L_X4_readJoined at h
  refine G_iload_n (i := 1) pX4_readJoined_0 rfl rfl ?_
  refine G_iconst pX4_readJoined_1 ic_4 ?_
  refine G_icmp_le pX4_readJoined_2 (fun c1 => ?_) (fun c1 => ?_)
  · have h := h.1 c1
    refine G_aload_n (i := 0) pX4_readJoined_11 rfl rfl ?_
    refine G_iload_n (i := 1) pX4_readJoined_12 rfl rfl ?_
    refine G_iconst pX4_readJoined_13 ic_1 ?_
    refine G_iadd pX4_readJoined_14 ?_
    refine G_iload_n (i := 2) pX4_readJoined_15 rfl rfl ?_
    refine G_callV2i (b := 55) (ci := 4) (N := 6) pX4_readJoined_16 (hR_X4_readJoined _ b (a1 + (1 : Int32)) a2 hb _ _ hrf h) mV_X4_readJoined ml_RX4_45 (Nat.le_refl _) ⟨Nat.le_refl _, Nat.le_refl _, Nat.le_refl _⟩ (Nat.le_of_ble_eq_true rfl) ltk_55 shk_55 rfl ?_
    intro r3 rf m2 hrf h hr3
    refine G_if_ne pX4_readJoined_19 (fun c4 => ?_) (fun c4 => ?_)
    · have h := h.1 c4
      exact gB_X4_readJoined_24 hd0 hR_X4_readJoined hR_X4_readPart hR_X4_readNegated hR_X4_readEnclosed b hb hrf a1 a2 _ h
    · have h := h.2 c4
      refine G_iconst pX4_readJoined_22 ic_0 ?_
      exact G_ireturn (len := 1) pX4_readJoined_23 ⟨hrf, _, rfl, h⟩ ⟨_, rfl, rfl⟩
  · have h := h.2 c1
    refine G_aload_n (i := 0) pX4_readJoined_5 rfl rfl ?_
    refine G_iload_n (i := 2) pX4_readJoined_6 rfl rfl ?_
    refine G_callV1i (b := 55) (ci := 4) (N := 6) pX4_readJoined_7 (hR_X4_readPart _ b a2 hb _ _ hrf h) mV_X4_readPart ml_RX4_49 (Nat.le_refl _) ⟨Nat.le_refl _, Nat.le_refl _, Nat.le_refl _⟩ (Nat.le_of_ble_eq_true rfl) ltk_55 shk_55 rfl ?_
    intro r6 rf m5 hrf h hr6
    exact G_ireturn (len := 1) pX4_readJoined_10 ⟨hrf, _, rfl, h⟩ hr6
def B_X4_readPart_93 (R_X4_readJoined : Nat → Int32 → Int32 → MMt → (Int32 → MMt → Prop) → Prop) (R_X4_readPart : Nat → Int32 → MMt → (Int32 → MMt → Prop) → Prop) (R_X4_readNegated : Nat → Int32 → MMt → (Int32 → MMt → Prop) → Prop) (R_X4_readEnclosed : Nat → Int32 → MMt → (Int32 → MMt → Prop) → Prop) (b : Nat) (x1 : Int32) (x2 : Int32) (mem : MMt) (Q : Int32 → MMt → Prop) : Prop := (∀ m1 : MMt, m1 = up2 mem 55 4 ((mem 55 4) + (1 : Int32)) → ((¬ x2 = (33 : Int32) → R_X4_readEnclosed b (x1 + (1 : Int32)) m1 (fun r4 m3 => Q r4 m3)) ∧ (x2 = (33 : Int32) → R_X4_readNegated b (x1 + (1 : Int32)) m1 (fun r6 m5 => Q r6 m5))))
set_option maxRecDepth 4000 in
theorem gB_X4_readPart_93 {sx : Nat × (Nat → Int32)} {R_X4_readJoined : Nat → Int32 → Int32 → MMt → (Int32 → MMt → Prop) → Prop} {R_X4_readPart : Nat → Int32 → MMt → (Int32 → MMt → Prop) → Prop} {R_X4_readNegated : Nat → Int32 → MMt → (Int32 → MMt → Prop) → Prop} {R_X4_readEnclosed : Nat → Int32 → MMt → (Int32 → MMt → Prop) → Prop} {rf : RFt} {Q : Int32 → MMt → Prop} {d0 : Nat} (hd0 : 7 ≤ d0) (hR_X4_readJoined : ∀ (rf : RFt) (b : Nat) (a1 : Int32) (a2 : Int32) (hb : b < 2) (mem : MMt) (Q : Int32 → MMt → Prop), RFr b rf → R_X4_readJoined b a1 a2 mem Q → Ct sx yX4_readJoined cX4_readJoined 4 (some .boolean) d0 [.ref 55, .int a1, .int a2] NX NX rf mem (QQi (RFr b) Q)) (hR_X4_readPart : ∀ (rf : RFt) (b : Nat) (a1 : Int32) (hb : b < 2) (mem : MMt) (Q : Int32 → MMt → Prop), RFr b rf → R_X4_readPart b a1 mem Q → Ct sx yX4_readPart cX4_readPart 4 (some .boolean) d0 [.ref 55, .int a1] NX NX rf mem (QQi (RFr b) Q)) (hR_X4_readNegated : ∀ (rf : RFt) (b : Nat) (a1 : Int32) (hb : b < 2) (mem : MMt) (Q : Int32 → MMt → Prop), RFr b rf → R_X4_readNegated b a1 mem Q → Ct sx yX4_readNegated cX4_readNegated 2 (some .boolean) d0 [.ref 55, .int a1] NX NX rf mem (QQi (RFr b) Q)) (hR_X4_readEnclosed : ∀ (rf : RFt) (b : Nat) (a1 : Int32) (hb : b < 2) (mem : MMt) (Q : Int32 → MMt → Prop), RFr b rf → R_X4_readEnclosed b a1 mem Q → Ct sx yX4_readEnclosed cX4_readEnclosed 2 (some .boolean) d0 [.ref 55, .int a1] NX NX rf mem (QQi (RFr b) Q)) (b : Nat) (hb : b < 2) (hrf : RFr b rf) (x1 : Int32) (x2 : Int32) (mem : MMt) (h : B_X4_readPart_93 R_X4_readJoined R_X4_readPart R_X4_readNegated R_X4_readEnclosed b x1 x2 mem Q) : G sx yX4_readPart cX4_readPart 4 (some .boolean) (d0 + 1) NX NX (QQi (RFr b) Q) NX rf mem 93 [some (.ref 55), some (.int x1), some (.int x2), none] [] := by
  unfold B_X4_readPart_93 at h
  refine G_aload_n (i := 0) pX4_readPart_93 rfl rfl ?_
  refine G_dup pX4_readPart_94 rfl ?_
  refine G_getI (ci := 4) (j := 4) (N := 6) pX4_readPart_95 fl_RX4_39 rfl ltk_55 shk_55 (by decide) rfl ?_
  refine G_iconst pX4_readPart_98 ic_1 ?_
  refine G_iadd pX4_readPart_99 ?_
  obtain ⟨m1, em1⟩ : ∃ z : MMt, z = up2 mem 55 4 ((mem 55 4) + (1 : Int32)) := ⟨_, rfl⟩
  have h := h m1 em1
  refine G_putIW (ci := 4) (j := 4) (N := 6) pX4_readPart_100 fw_RX4_39 rfl ltk_55 shk_55 (by decide) rfl (fun _ => ⟨rfl, rfl⟩) em1.symm ?_
  refine G_iload_n (i := 2) pX4_readPart_103 rfl rfl ?_
  refine G_bipush pX4_readPart_104 bi_33 ?_
  refine G_icmp_ne pX4_readPart_106 (fun c2 => ?_) (fun c2 => ?_)
  · have h := h.1 c2
    refine G_aload_n (i := 0) pX4_readPart_119 rfl rfl ?_
    refine G_iload_n (i := 1) pX4_readPart_120 rfl rfl ?_
    refine G_iconst pX4_readPart_121 ic_1 ?_
    refine G_iadd pX4_readPart_122 ?_
    refine G_callV1i (b := 55) (ci := 4) (N := 6) pX4_readPart_123 (hR_X4_readEnclosed _ b (x1 + (1 : Int32)) hb _ _ hrf h) mV_X4_readEnclosed ml_RX4_78 (Nat.le_refl _) ⟨Nat.le_refl _, Nat.le_refl _, Nat.le_refl _⟩ (Nat.le_of_ble_eq_true rfl) ltk_55 shk_55 rfl ?_
    intro r4 rf m3 hrf h hr4
    exact G_ireturn (len := 1) pX4_readPart_126 ⟨hrf, _, rfl, h⟩ hr4
  · have h := h.2 c2
    refine G_aload_n (i := 0) pX4_readPart_109 rfl rfl ?_
    refine G_iload_n (i := 1) pX4_readPart_110 rfl rfl ?_
    refine G_iconst pX4_readPart_111 ic_1 ?_
    refine G_iadd pX4_readPart_112 ?_
    refine G_callV1i (b := 55) (ci := 4) (N := 6) pX4_readPart_113 (hR_X4_readNegated _ b (x1 + (1 : Int32)) hb _ _ hrf h) mV_X4_readNegated ml_RX4_75 (Nat.le_refl _) ⟨Nat.le_refl _, Nat.le_refl _, Nat.le_refl _⟩ (Nat.le_of_ble_eq_true rfl) ltk_55 shk_55 rfl ?_
    intro r6 rf m5 hrf h hr6
    refine G_goto pX4_readPart_116 ?_
    exact G_ireturn (len := 1) pX4_readPart_126 ⟨hrf, _, rfl, h⟩ hr6
def L_X4_readPart (R_X4_readJoined : Nat → Int32 → Int32 → MMt → (Int32 → MMt → Prop) → Prop) (R_X4_readPart : Nat → Int32 → MMt → (Int32 → MMt → Prop) → Prop) (R_X4_readNegated : Nat → Int32 → MMt → (Int32 → MMt → Prop) → Prop) (R_X4_readEnclosed : Nat → Int32 → MMt → (Int32 → MMt → Prop) → Prop) (b : Nat) (a1 : Int32) (mem : MMt) (Q : Int32 → MMt → Prop) : Prop := (((mem 55 4) < (mem 55 3) → (vp_in (mem 55 4) 50 ∧ (∀ v3 : Int32, v3 = (mem 13 (mem 55 4).toNatClampNeg) &&& (255 : Int32) → L_X4_isDigit v3 mem (fun r5 m4 => ((r5 = 0 → L_J0_indexOf_0f7a4 b ((v3.toUInt32 % 65536).toInt32) m4 (fun r8 m7 => ((r8 < 0 → (((5 : Int32) ≤ a1 → Q (0 : Int32) m7) ∧ (¬ (5 : Int32) ≤ a1 → ((v3 = (33 : Int32) → B_X4_readPart_93 R_X4_readJoined R_X4_readPart R_X4_readNegated R_X4_readEnclosed b a1 v3 m7 Q) ∧ (¬ v3 = (33 : Int32) → ((v3 = (40 : Int32) → B_X4_readPart_93 R_X4_readJoined R_X4_readPart R_X4_readNegated R_X4_readEnclosed b a1 v3 m7 Q) ∧ (¬ v3 = (40 : Int32) → Q (0 : Int32) m7))))))) ∧ (¬ r8 < 0 → L_X4_keep b ((10000 : Int32) + r8) m7 (fun m13 => (∀ m14 : MMt, m14 = up2 m13 55 4 ((m13 55 4) + (1 : Int32)) → Q (1 : Int32) m14)))))) ∧ (¬ r5 = 0 → L_X4_readNumber b m4 (fun r16 m15 => Q r16 m15))))))) ∧ (¬ (mem 55 4) < (mem 55 3) → Q (0 : Int32) mem))
set_option maxRecDepth 4000 in
theorem g_X4_readPart {sx : Nat × (Nat → Int32)} {R_X4_readJoined : Nat → Int32 → Int32 → MMt → (Int32 → MMt → Prop) → Prop} {R_X4_readPart : Nat → Int32 → MMt → (Int32 → MMt → Prop) → Prop} {R_X4_readNegated : Nat → Int32 → MMt → (Int32 → MMt → Prop) → Prop} {R_X4_readEnclosed : Nat → Int32 → MMt → (Int32 → MMt → Prop) → Prop} {rf : RFt} {Q : Int32 → MMt → Prop} {d0 : Nat} (hd0 : 7 ≤ d0) (hR_X4_readJoined : ∀ (rf : RFt) (b : Nat) (a1 : Int32) (a2 : Int32) (hb : b < 2) (mem : MMt) (Q : Int32 → MMt → Prop), RFr b rf → R_X4_readJoined b a1 a2 mem Q → Ct sx yX4_readJoined cX4_readJoined 4 (some .boolean) d0 [.ref 55, .int a1, .int a2] NX NX rf mem (QQi (RFr b) Q)) (hR_X4_readPart : ∀ (rf : RFt) (b : Nat) (a1 : Int32) (hb : b < 2) (mem : MMt) (Q : Int32 → MMt → Prop), RFr b rf → R_X4_readPart b a1 mem Q → Ct sx yX4_readPart cX4_readPart 4 (some .boolean) d0 [.ref 55, .int a1] NX NX rf mem (QQi (RFr b) Q)) (hR_X4_readNegated : ∀ (rf : RFt) (b : Nat) (a1 : Int32) (hb : b < 2) (mem : MMt) (Q : Int32 → MMt → Prop), RFr b rf → R_X4_readNegated b a1 mem Q → Ct sx yX4_readNegated cX4_readNegated 2 (some .boolean) d0 [.ref 55, .int a1] NX NX rf mem (QQi (RFr b) Q)) (hR_X4_readEnclosed : ∀ (rf : RFt) (b : Nat) (a1 : Int32) (hb : b < 2) (mem : MMt) (Q : Int32 → MMt → Prop), RFr b rf → R_X4_readEnclosed b a1 mem Q → Ct sx yX4_readEnclosed cX4_readEnclosed 2 (some .boolean) d0 [.ref 55, .int a1] NX NX rf mem (QQi (RFr b) Q)) (b : Nat) (a1 : Int32) (hb : b < 2) (hrf : RFr b rf) (mem : MMt) (h : L_X4_readPart R_X4_readJoined R_X4_readPart R_X4_readNegated R_X4_readEnclosed b a1 mem Q) : Ct sx yX4_readPart cX4_readPart 4 (some .boolean) (d0 + 1) [.ref 55, .int a1] NX NX rf mem (QQi (RFr b) Q) := by
  refine Ct_of [some (.ref 55), some (.int a1), none, none] (by decide +kernel) (by simp [Lof, Value.category]) rfl ?_
  unfold L_X4_readPart at h
  refine G_aload_n (i := 0) pX4_readPart_0 rfl rfl ?_
  refine G_getI (ci := 4) (j := 4) (N := 6) pX4_readPart_1 fl_RX4_39 rfl ltk_55 shk_55 (by decide) rfl ?_
  refine G_aload_n (i := 0) pX4_readPart_4 rfl rfl ?_
  refine G_getI (ci := 4) (j := 3) (N := 6) pX4_readPart_5 fl_RX4_31 rfl ltk_55 shk_55 (by decide) rfl ?_
  refine G_icmp_lt pX4_readPart_8 (fun c1 => ?_) (fun c1 => ?_)
  · have h := h.1 c1
    refine G_aload_n (i := 0) pX4_readPart_13 rfl rfl ?_
    refine G_getR (ci := 4) (j := 2) (N := 6) pX4_readPart_14 fl_RX4_15 rfl ltk_55 shk_55 (by decide) rfl hrf.2.1 ?_
    refine G_aload_n (i := 0) pX4_readPart_17 rfl rfl ?_
    refine G_getI (ci := 4) (j := 4) (N := 6) pX4_readPart_18 fl_RX4_39 rfl ltk_55 shk_55 (by decide) rfl ?_
    obtain ⟨hi2, h⟩ := h
    refine G_bald pX4_readPart_21 ltk_13 shk_13 hi2 ?_
    refine G_sipush pX4_readPart_22 si_255 ?_
    refine G_iand pX4_readPart_25 ?_
    obtain ⟨v3, e3⟩ : ∃ z : Int32, z = (mem 13 (mem 55 4).toNatClampNeg) &&& (255 : Int32) := ⟨_, rfl⟩
    have h := h v3 e3
    refine G_istore_nW (L' := [some (.ref 55), some (.int a1), some (.int v3), none]) pX4_readPart_26 rfl e3.symm rfl ?_
    refine G_iload_n (i := 2) pX4_readPart_27 rfl rfl ?_
    refine G_callS1i pX4_readPart_28 (g_X4_isDigit v3 hrf _ h) mS_X4_isDigit ml_RX4_63 (by omega) ⟨Nat.le_refl _, Nat.le_refl _, Nat.le_refl _⟩ (Nat.le_of_ble_eq_true rfl) ?_
    intro r5 rf m4 hrf h hr5
    refine G_if_eq pX4_readPart_31 (fun c6 => ?_) (fun c6 => ?_)
    · have h := h.1 c6
      refine G_aload_n (i := 0) pX4_readPart_39 rfl rfl ?_
      refine G_getR (ci := 4) (j := 5) (N := 6) pX4_readPart_40 fl_RX4_21 rfl ltk_55 shk_55 (by decide) rfl hrf.2.2 ?_
      refine G_iload_n (i := 2) pX4_readPart_43 rfl rfl ?_
      refine G_i2c pX4_readPart_44 ?_
      refine G_callVS1i (b := b) pX4_readPart_45 (g_J0_indexOf_0f7a4 b ((v3.toUInt32 % 65536).toInt32) (by omega) hrf _ h) mV_J0_indexOf_0f7a4 ml_RX4_70 (by omega) ⟨Nat.le_refl _, Nat.le_refl _, Nat.le_refl _⟩ (Nat.le_of_ble_eq_true rfl) (by omega) rfl ?_
      intro r8 rf m7 hrf h hr8
      refine G_istore_n (i := 3) (L' := [some (.ref 55), some (.int a1), some (.int v3), some (.int r8)]) pX4_readPart_48 rfl rfl ?_
      refine G_iload_n (i := 3) pX4_readPart_49 rfl rfl ?_
      refine G_if_lt pX4_readPart_50 (fun c9 => ?_) (fun c9 => ?_)
      · have h := h.1 c9
        refine G_iload_n (i := 1) pX4_readPart_74 rfl rfl ?_
        refine G_iconst pX4_readPart_75 ic_5 ?_
        refine G_icmp_ge pX4_readPart_76 (fun c10 => ?_) (fun c10 => ?_)
        · have h := h.1 c10
          refine G_iconst pX4_readPart_91 ic_0 ?_
          exact G_ireturn (len := 1) pX4_readPart_92 ⟨hrf, _, rfl, h⟩ ⟨_, rfl, rfl⟩
        · have h := h.2 c10
          refine G_iload_n (i := 2) pX4_readPart_79 rfl rfl ?_
          refine G_bipush pX4_readPart_80 bi_33 ?_
          refine G_icmp_eq pX4_readPart_82 (fun c11 => ?_) (fun c11 => ?_)
          · have h := h.1 c11
            refine G_wk (L2 := [some (.ref 55), some (.int a1), some (.int v3), none]) ⟨Or.inr rfl, Or.inr rfl, Or.inr rfl, Or.inl rfl, trivial⟩ ?_
            exact gB_X4_readPart_93 hd0 hR_X4_readJoined hR_X4_readPart hR_X4_readNegated hR_X4_readEnclosed b hb hrf a1 v3 _ h
          · have h := h.2 c11
            refine G_iload_n (i := 2) pX4_readPart_85 rfl rfl ?_
            refine G_bipush pX4_readPart_86 bi_40 ?_
            refine G_icmp_eq pX4_readPart_88 (fun c12 => ?_) (fun c12 => ?_)
            · have h := h.1 c12
              refine G_wk (L2 := [some (.ref 55), some (.int a1), some (.int v3), none]) ⟨Or.inr rfl, Or.inr rfl, Or.inr rfl, Or.inl rfl, trivial⟩ ?_
              exact gB_X4_readPart_93 hd0 hR_X4_readJoined hR_X4_readPart hR_X4_readNegated hR_X4_readEnclosed b hb hrf a1 v3 _ h
            · have h := h.2 c12
              refine G_iconst pX4_readPart_91 ic_0 ?_
              exact G_ireturn (len := 1) pX4_readPart_92 ⟨hrf, _, rfl, h⟩ ⟨_, rfl, rfl⟩
      · have h := h.2 c9
        refine G_aload_n (i := 0) pX4_readPart_53 rfl rfl ?_
        refine G_sipush pX4_readPart_54 si_10000 ?_
        refine G_iload_n (i := 3) pX4_readPart_57 rfl rfl ?_
        refine G_iadd pX4_readPart_58 ?_
        refine G_callV1v (b := 55) (ci := 4) (N := 6) pX4_readPart_59 (g_X4_keep b ((10000 : Int32) + r8) hb hrf _ h) mV_X4_keep ml_RX4_59 (by omega) ⟨Nat.le_refl _, Nat.le_refl _, Nat.le_refl _⟩ (Nat.le_of_ble_eq_true rfl) ltk_55 shk_55 rfl ?_
        intro rf m13 hrf h
        refine G_aload_n (i := 0) pX4_readPart_62 rfl rfl ?_
        refine G_dup pX4_readPart_63 rfl ?_
        refine G_getI (ci := 4) (j := 4) (N := 6) pX4_readPart_64 fl_RX4_39 rfl ltk_55 shk_55 (by decide) rfl ?_
        refine G_iconst pX4_readPart_67 ic_1 ?_
        refine G_iadd pX4_readPart_68 ?_
        obtain ⟨m14, em14⟩ : ∃ z : MMt, z = up2 m13 55 4 ((m13 55 4) + (1 : Int32)) := ⟨_, rfl⟩
        have h := h m14 em14
        refine G_putIW (ci := 4) (j := 4) (N := 6) pX4_readPart_69 fw_RX4_39 rfl ltk_55 shk_55 (by decide) rfl (fun _ => ⟨rfl, rfl⟩) em14.symm ?_
        refine G_iconst pX4_readPart_72 ic_1 ?_
        exact G_ireturn (len := 1) pX4_readPart_73 ⟨hrf, _, rfl, h⟩ ⟨_, rfl, rfl⟩
    · have h := h.2 c6
      refine G_aload_n (i := 0) pX4_readPart_34 rfl rfl ?_
      refine G_callV0i (b := 55) (ci := 4) (N := 6) pX4_readPart_35 (g_X4_readNumber b hb hrf _ h) mV_X4_readNumber ml_RX4_66 (by omega) ⟨Nat.le_refl _, Nat.le_refl _, Nat.le_refl _⟩ (Nat.le_of_ble_eq_true rfl) ltk_55 shk_55 rfl ?_
      intro r16 rf m15 hrf h hr16
      exact G_ireturn (len := 1) pX4_readPart_38 ⟨hrf, _, rfl, h⟩ hr16
  · have h := h.2 c1
    refine G_iconst pX4_readPart_11 ic_0 ?_
    exact G_ireturn (len := 1) pX4_readPart_12 ⟨hrf, _, rfl, h⟩ ⟨_, rfl, rfl⟩
def L_X4_readNegated (R_X4_readJoined : Nat → Int32 → Int32 → MMt → (Int32 → MMt → Prop) → Prop) (R_X4_readPart : Nat → Int32 → MMt → (Int32 → MMt → Prop) → Prop) (R_X4_readNegated : Nat → Int32 → MMt → (Int32 → MMt → Prop) → Prop) (R_X4_readEnclosed : Nat → Int32 → MMt → (Int32 → MMt → Prop) → Prop) (b : Nat) (a1 : Int32) (mem : MMt) (Q : Int32 → MMt → Prop) : Prop := R_X4_readPart b a1 mem (fun r2 m1 => ((¬ r2 = 0 → L_X4_keep b (20033 : Int32) m1 (fun m4 => Q (1 : Int32) m4)) ∧ (r2 = 0 → Q (0 : Int32) m1)))
set_option maxRecDepth 4000 in
theorem g_X4_readNegated {sx : Nat × (Nat → Int32)} {R_X4_readJoined : Nat → Int32 → Int32 → MMt → (Int32 → MMt → Prop) → Prop} {R_X4_readPart : Nat → Int32 → MMt → (Int32 → MMt → Prop) → Prop} {R_X4_readNegated : Nat → Int32 → MMt → (Int32 → MMt → Prop) → Prop} {R_X4_readEnclosed : Nat → Int32 → MMt → (Int32 → MMt → Prop) → Prop} {rf : RFt} {Q : Int32 → MMt → Prop} {d0 : Nat} (hd0 : 7 ≤ d0) (hR_X4_readJoined : ∀ (rf : RFt) (b : Nat) (a1 : Int32) (a2 : Int32) (hb : b < 2) (mem : MMt) (Q : Int32 → MMt → Prop), RFr b rf → R_X4_readJoined b a1 a2 mem Q → Ct sx yX4_readJoined cX4_readJoined 4 (some .boolean) d0 [.ref 55, .int a1, .int a2] NX NX rf mem (QQi (RFr b) Q)) (hR_X4_readPart : ∀ (rf : RFt) (b : Nat) (a1 : Int32) (hb : b < 2) (mem : MMt) (Q : Int32 → MMt → Prop), RFr b rf → R_X4_readPart b a1 mem Q → Ct sx yX4_readPart cX4_readPart 4 (some .boolean) d0 [.ref 55, .int a1] NX NX rf mem (QQi (RFr b) Q)) (hR_X4_readNegated : ∀ (rf : RFt) (b : Nat) (a1 : Int32) (hb : b < 2) (mem : MMt) (Q : Int32 → MMt → Prop), RFr b rf → R_X4_readNegated b a1 mem Q → Ct sx yX4_readNegated cX4_readNegated 2 (some .boolean) d0 [.ref 55, .int a1] NX NX rf mem (QQi (RFr b) Q)) (hR_X4_readEnclosed : ∀ (rf : RFt) (b : Nat) (a1 : Int32) (hb : b < 2) (mem : MMt) (Q : Int32 → MMt → Prop), RFr b rf → R_X4_readEnclosed b a1 mem Q → Ct sx yX4_readEnclosed cX4_readEnclosed 2 (some .boolean) d0 [.ref 55, .int a1] NX NX rf mem (QQi (RFr b) Q)) (b : Nat) (a1 : Int32) (hb : b < 2) (hrf : RFr b rf) (mem : MMt) (h : L_X4_readNegated R_X4_readJoined R_X4_readPart R_X4_readNegated R_X4_readEnclosed b a1 mem Q) : Ct sx yX4_readNegated cX4_readNegated 2 (some .boolean) (d0 + 1) [.ref 55, .int a1] NX NX rf mem (QQi (RFr b) Q) := by
  refine Ct_of [some (.ref 55), some (.int a1)] (by decide +kernel) (by simp [Lof, Value.category]) rfl ?_
  unfold L_X4_readNegated at h
  refine G_aload_n (i := 0) pX4_readNegated_0 rfl rfl ?_
  refine G_iload_n (i := 1) pX4_readNegated_1 rfl rfl ?_
  refine G_callV1i (b := 55) (ci := 4) (N := 6) pX4_readNegated_2 (hR_X4_readPart _ b a1 hb _ _ hrf h) mV_X4_readPart ml_RX4_49 (Nat.le_refl _) ⟨Nat.le_refl _, Nat.le_refl _, Nat.le_refl _⟩ (Nat.le_of_ble_eq_true rfl) ltk_55 shk_55 rfl ?_
  intro r2 rf m1 hrf h hr2
  refine G_if_ne pX4_readNegated_5 (fun c3 => ?_) (fun c3 => ?_)
  · have h := h.1 c3
    refine G_aload_n (i := 0) pX4_readNegated_10 rfl rfl ?_
    refine G_sipush pX4_readNegated_11 si_20033 ?_
    refine G_callV1v (b := 55) (ci := 4) (N := 6) pX4_readNegated_14 (g_X4_keep b (20033 : Int32) hb hrf _ h) mV_X4_keep ml_RX4_59 (by omega) ⟨Nat.le_refl _, Nat.le_refl _, Nat.le_refl _⟩ (Nat.le_of_ble_eq_true rfl) ltk_55 shk_55 rfl ?_
    intro rf m4 hrf h
    refine G_iconst pX4_readNegated_17 ic_1 ?_
    exact G_ireturn (len := 1) pX4_readNegated_18 ⟨hrf, _, rfl, h⟩ ⟨_, rfl, rfl⟩
  · have h := h.2 c3
    refine G_iconst pX4_readNegated_8 ic_0 ?_
    exact G_ireturn (len := 1) pX4_readNegated_9 ⟨hrf, _, rfl, h⟩ ⟨_, rfl, rfl⟩
def L_X4_readEnclosed (R_X4_readJoined : Nat → Int32 → Int32 → MMt → (Int32 → MMt → Prop) → Prop) (R_X4_readPart : Nat → Int32 → MMt → (Int32 → MMt → Prop) → Prop) (R_X4_readNegated : Nat → Int32 → MMt → (Int32 → MMt → Prop) → Prop) (R_X4_readEnclosed : Nat → Int32 → MMt → (Int32 → MMt → Prop) → Prop) (b : Nat) (a1 : Int32) (mem : MMt) (Q : Int32 → MMt → Prop) : Prop := R_X4_readJoined b (0 : Int32) a1 mem (fun r2 m1 => ((r2 = 0 → Q (0 : Int32) m1) ∧ (¬ r2 = 0 → (((m1 55 3) ≤ (m1 55 4) → Q (0 : Int32) m1) ∧ (¬ (m1 55 3) ≤ (m1 55 4) → (vp_in (m1 55 4) 50 ∧ (((m1 13 (m1 55 4).toNatClampNeg) = (41 : Int32) → (∀ m7 : MMt, m7 = up2 m1 55 4 ((m1 55 4) + (1 : Int32)) → Q (1 : Int32) m7)) ∧ (¬ (m1 13 (m1 55 4).toNatClampNeg) = (41 : Int32) → Q (0 : Int32) m1))))))))
set_option maxRecDepth 4000 in
theorem g_X4_readEnclosed {sx : Nat × (Nat → Int32)} {R_X4_readJoined : Nat → Int32 → Int32 → MMt → (Int32 → MMt → Prop) → Prop} {R_X4_readPart : Nat → Int32 → MMt → (Int32 → MMt → Prop) → Prop} {R_X4_readNegated : Nat → Int32 → MMt → (Int32 → MMt → Prop) → Prop} {R_X4_readEnclosed : Nat → Int32 → MMt → (Int32 → MMt → Prop) → Prop} {rf : RFt} {Q : Int32 → MMt → Prop} {d0 : Nat} (hd0 : 7 ≤ d0) (hR_X4_readJoined : ∀ (rf : RFt) (b : Nat) (a1 : Int32) (a2 : Int32) (hb : b < 2) (mem : MMt) (Q : Int32 → MMt → Prop), RFr b rf → R_X4_readJoined b a1 a2 mem Q → Ct sx yX4_readJoined cX4_readJoined 4 (some .boolean) d0 [.ref 55, .int a1, .int a2] NX NX rf mem (QQi (RFr b) Q)) (hR_X4_readPart : ∀ (rf : RFt) (b : Nat) (a1 : Int32) (hb : b < 2) (mem : MMt) (Q : Int32 → MMt → Prop), RFr b rf → R_X4_readPart b a1 mem Q → Ct sx yX4_readPart cX4_readPart 4 (some .boolean) d0 [.ref 55, .int a1] NX NX rf mem (QQi (RFr b) Q)) (hR_X4_readNegated : ∀ (rf : RFt) (b : Nat) (a1 : Int32) (hb : b < 2) (mem : MMt) (Q : Int32 → MMt → Prop), RFr b rf → R_X4_readNegated b a1 mem Q → Ct sx yX4_readNegated cX4_readNegated 2 (some .boolean) d0 [.ref 55, .int a1] NX NX rf mem (QQi (RFr b) Q)) (hR_X4_readEnclosed : ∀ (rf : RFt) (b : Nat) (a1 : Int32) (hb : b < 2) (mem : MMt) (Q : Int32 → MMt → Prop), RFr b rf → R_X4_readEnclosed b a1 mem Q → Ct sx yX4_readEnclosed cX4_readEnclosed 2 (some .boolean) d0 [.ref 55, .int a1] NX NX rf mem (QQi (RFr b) Q)) (b : Nat) (a1 : Int32) (hb : b < 2) (hrf : RFr b rf) (mem : MMt) (h : L_X4_readEnclosed R_X4_readJoined R_X4_readPart R_X4_readNegated R_X4_readEnclosed b a1 mem Q) : Ct sx yX4_readEnclosed cX4_readEnclosed 2 (some .boolean) (d0 + 1) [.ref 55, .int a1] NX NX rf mem (QQi (RFr b) Q) := by
  refine Ct_of [some (.ref 55), some (.int a1)] (by decide +kernel) (by simp [Lof, Value.category]) rfl ?_
  unfold L_X4_readEnclosed at h
  refine G_aload_n (i := 0) pX4_readEnclosed_0 rfl rfl ?_
  refine G_iconst pX4_readEnclosed_1 ic_0 ?_
  refine G_iload_n (i := 1) pX4_readEnclosed_2 rfl rfl ?_
  refine G_callV2i (b := 55) (ci := 4) (N := 6) pX4_readEnclosed_3 (hR_X4_readJoined _ b (0 : Int32) a1 hb _ _ hrf h) mV_X4_readJoined ml_RX4_45 (Nat.le_refl _) ⟨Nat.le_refl _, Nat.le_refl _, Nat.le_refl _⟩ (Nat.le_of_ble_eq_true rfl) ltk_55 shk_55 rfl ?_
  intro r2 rf m1 hrf h hr2
  refine G_if_eq pX4_readEnclosed_6 (fun c3 => ?_) (fun c3 => ?_)
  · have h := h.1 c3
    refine G_iconst pX4_readEnclosed_34 ic_0 ?_
    exact G_ireturn (len := 1) pX4_readEnclosed_35 ⟨hrf, _, rfl, h⟩ ⟨_, rfl, rfl⟩
  · have h := h.2 c3
    refine G_aload_n (i := 0) pX4_readEnclosed_9 rfl rfl ?_
    refine G_getI (ci := 4) (j := 4) (N := 6) pX4_readEnclosed_10 fl_RX4_39 rfl ltk_55 shk_55 (by decide) rfl ?_
    refine G_aload_n (i := 0) pX4_readEnclosed_13 rfl rfl ?_
    refine G_getI (ci := 4) (j := 3) (N := 6) pX4_readEnclosed_14 fl_RX4_31 rfl ltk_55 shk_55 (by decide) rfl ?_
    refine G_icmp_ge pX4_readEnclosed_17 (fun c4 => ?_) (fun c4 => ?_)
    · have h := h.1 c4
      refine G_iconst pX4_readEnclosed_34 ic_0 ?_
      exact G_ireturn (len := 1) pX4_readEnclosed_35 ⟨hrf, _, rfl, h⟩ ⟨_, rfl, rfl⟩
    · have h := h.2 c4
      refine G_aload_n (i := 0) pX4_readEnclosed_20 rfl rfl ?_
      refine G_getR (ci := 4) (j := 2) (N := 6) pX4_readEnclosed_21 fl_RX4_15 rfl ltk_55 shk_55 (by decide) rfl hrf.2.1 ?_
      refine G_aload_n (i := 0) pX4_readEnclosed_24 rfl rfl ?_
      refine G_getI (ci := 4) (j := 4) (N := 6) pX4_readEnclosed_25 fl_RX4_39 rfl ltk_55 shk_55 (by decide) rfl ?_
      obtain ⟨hi5, h⟩ := h
      refine G_bald pX4_readEnclosed_28 ltk_13 shk_13 hi5 ?_
      refine G_bipush pX4_readEnclosed_29 bi_41 ?_
      refine G_icmp_eq pX4_readEnclosed_31 (fun c6 => ?_) (fun c6 => ?_)
      · have h := h.1 c6
        refine G_aload_n (i := 0) pX4_readEnclosed_36 rfl rfl ?_
        refine G_dup pX4_readEnclosed_37 rfl ?_
        refine G_getI (ci := 4) (j := 4) (N := 6) pX4_readEnclosed_38 fl_RX4_39 rfl ltk_55 shk_55 (by decide) rfl ?_
        refine G_iconst pX4_readEnclosed_41 ic_1 ?_
        refine G_iadd pX4_readEnclosed_42 ?_
        obtain ⟨m7, em7⟩ : ∃ z : MMt, z = up2 m1 55 4 ((m1 55 4) + (1 : Int32)) := ⟨_, rfl⟩
        have h := h m7 em7
        refine G_putIW (ci := 4) (j := 4) (N := 6) pX4_readEnclosed_43 fw_RX4_39 rfl ltk_55 shk_55 (by decide) rfl (fun _ => ⟨rfl, rfl⟩) em7.symm ?_
        refine G_iconst pX4_readEnclosed_46 ic_1 ?_
        exact G_ireturn (len := 1) pX4_readEnclosed_47 ⟨hrf, _, rfl, h⟩ ⟨_, rfl, rfl⟩
      · have h := h.2 c6
        refine G_iconst pX4_readEnclosed_34 ic_0 ?_
        exact G_ireturn (len := 1) pX4_readEnclosed_35 ⟨hrf, _, rfl, h⟩ ⟨_, rfl, rfl⟩
def WW_X4_readJoined (n : Nat) : (Nat → Int32 → Int32 → MMt → (Int32 → MMt → Prop) → Prop) × (Nat → Int32 → MMt → (Int32 → MMt → Prop) → Prop) × (Nat → Int32 → MMt → (Int32 → MMt → Prop) → Prop) × (Nat → Int32 → MMt → (Int32 → MMt → Prop) → Prop) := Nat.rec (motive := fun _ => (Nat → Int32 → Int32 → MMt → (Int32 → MMt → Prop) → Prop) × (Nat → Int32 → MMt → (Int32 → MMt → Prop) → Prop) × (Nat → Int32 → MMt → (Int32 → MMt → Prop) → Prop) × (Nat → Int32 → MMt → (Int32 → MMt → Prop) → Prop)) ((fun _ _ _ _ _ => False), (fun _ _ _ _ => False), (fun _ _ _ _ => False), (fun _ _ _ _ => False)) (fun _ ih => (L_X4_readJoined (ih.1) (ih.2.1) (ih.2.2.1) (ih.2.2.2), L_X4_readPart (ih.1) (ih.2.1) (ih.2.2.1) (ih.2.2.2), L_X4_readNegated (ih.1) (ih.2.1) (ih.2.2.1) (ih.2.2.2), L_X4_readEnclosed (ih.1) (ih.2.1) (ih.2.2.1) (ih.2.2.2))) n
def W_X4_readJoined (n : Nat) : Nat → Int32 → Int32 → MMt → (Int32 → MMt → Prop) → Prop := (WW_X4_readJoined n).1
def W_X4_readPart (n : Nat) : Nat → Int32 → MMt → (Int32 → MMt → Prop) → Prop := (WW_X4_readJoined n).2.1
def W_X4_readNegated (n : Nat) : Nat → Int32 → MMt → (Int32 → MMt → Prop) → Prop := (WW_X4_readJoined n).2.2.1
def W_X4_readEnclosed (n : Nat) : Nat → Int32 → MMt → (Int32 → MMt → Prop) → Prop := (WW_X4_readJoined n).2.2.2
theorem W_X4_readJoined_s (n : Nat) : W_X4_readJoined (n + 1) = L_X4_readJoined (W_X4_readJoined n) (W_X4_readPart n) (W_X4_readNegated n) (W_X4_readEnclosed n) := rfl
theorem W_X4_readPart_s (n : Nat) : W_X4_readPart (n + 1) = L_X4_readPart (W_X4_readJoined n) (W_X4_readPart n) (W_X4_readNegated n) (W_X4_readEnclosed n) := rfl
theorem W_X4_readNegated_s (n : Nat) : W_X4_readNegated (n + 1) = L_X4_readNegated (W_X4_readJoined n) (W_X4_readPart n) (W_X4_readNegated n) (W_X4_readEnclosed n) := rfl
theorem W_X4_readEnclosed_s (n : Nat) : W_X4_readEnclosed (n + 1) = L_X4_readEnclosed (W_X4_readJoined n) (W_X4_readPart n) (W_X4_readNegated n) (W_X4_readEnclosed n) := rfl
theorem gWW_X4_readJoined {sx : Nat × (Nat → Int32)} (n : Nat) : (∀ (rf : RFt) (b : Nat) (a1 : Int32) (a2 : Int32) (hb : b < 2) (mem : MMt) (Q : Int32 → MMt → Prop), RFr b rf → W_X4_readJoined n b a1 a2 mem Q → Ct sx yX4_readJoined cX4_readJoined 4 (some .boolean) (7 + n) [.ref 55, .int a1, .int a2] NX NX rf mem (QQi (RFr b) Q)) ∧ (∀ (rf : RFt) (b : Nat) (a1 : Int32) (hb : b < 2) (mem : MMt) (Q : Int32 → MMt → Prop), RFr b rf → W_X4_readPart n b a1 mem Q → Ct sx yX4_readPart cX4_readPart 4 (some .boolean) (7 + n) [.ref 55, .int a1] NX NX rf mem (QQi (RFr b) Q)) ∧ (∀ (rf : RFt) (b : Nat) (a1 : Int32) (hb : b < 2) (mem : MMt) (Q : Int32 → MMt → Prop), RFr b rf → W_X4_readNegated n b a1 mem Q → Ct sx yX4_readNegated cX4_readNegated 2 (some .boolean) (7 + n) [.ref 55, .int a1] NX NX rf mem (QQi (RFr b) Q)) ∧ (∀ (rf : RFt) (b : Nat) (a1 : Int32) (hb : b < 2) (mem : MMt) (Q : Int32 → MMt → Prop), RFr b rf → W_X4_readEnclosed n b a1 mem Q → Ct sx yX4_readEnclosed cX4_readEnclosed 2 (some .boolean) (7 + n) [.ref 55, .int a1] NX NX rf mem (QQi (RFr b) Q)) := by
  induction n with
  | zero => exact ⟨fun rf b a1 a2 hb mem Q hrf h => h.elim, fun rf b a1 hb mem Q hrf h => h.elim, fun rf b a1 hb mem Q hrf h => h.elim, fun rf b a1 hb mem Q hrf h => h.elim⟩
  | succ n ih =>
    exact ⟨fun rf b a1 a2 hb mem Q hrf h => g_X4_readJoined (d0 := 7 + n) (by omega) (ih.1) (ih.2.1) (ih.2.2.1) (ih.2.2.2) b a1 a2 hb hrf mem h, fun rf b a1 hb mem Q hrf h => g_X4_readPart (d0 := 7 + n) (by omega) (ih.1) (ih.2.1) (ih.2.2.1) (ih.2.2.2) b a1 hb hrf mem h, fun rf b a1 hb mem Q hrf h => g_X4_readNegated (d0 := 7 + n) (by omega) (ih.1) (ih.2.1) (ih.2.2.1) (ih.2.2.2) b a1 hb hrf mem h, fun rf b a1 hb mem Q hrf h => g_X4_readEnclosed (d0 := 7 + n) (by omega) (ih.1) (ih.2.1) (ih.2.2.1) (ih.2.2.2) b a1 hb hrf mem h⟩
theorem gW_X4_readJoined {sx : Nat × (Nat → Int32)} (n : Nat) {rf : RFt} {Q : Int32 → MMt → Prop} (b : Nat) (a1 : Int32) (a2 : Int32) (hb : b < 2) (hrf : RFr b rf) (mem : MMt) (h : W_X4_readJoined n b a1 a2 mem Q) : Ct sx yX4_readJoined cX4_readJoined 4 (some .boolean) (7 + n) [.ref 55, .int a1, .int a2] NX NX rf mem (QQi (RFr b) Q) := (gWW_X4_readJoined n).1 rf b a1 a2 hb mem Q hrf h
theorem gW_X4_readPart {sx : Nat × (Nat → Int32)} (n : Nat) {rf : RFt} {Q : Int32 → MMt → Prop} (b : Nat) (a1 : Int32) (hb : b < 2) (hrf : RFr b rf) (mem : MMt) (h : W_X4_readPart n b a1 mem Q) : Ct sx yX4_readPart cX4_readPart 4 (some .boolean) (7 + n) [.ref 55, .int a1] NX NX rf mem (QQi (RFr b) Q) := (gWW_X4_readJoined n).2.1 rf b a1 hb mem Q hrf h
theorem gW_X4_readNegated {sx : Nat × (Nat → Int32)} (n : Nat) {rf : RFt} {Q : Int32 → MMt → Prop} (b : Nat) (a1 : Int32) (hb : b < 2) (hrf : RFr b rf) (mem : MMt) (h : W_X4_readNegated n b a1 mem Q) : Ct sx yX4_readNegated cX4_readNegated 2 (some .boolean) (7 + n) [.ref 55, .int a1] NX NX rf mem (QQi (RFr b) Q) := (gWW_X4_readJoined n).2.2.1 rf b a1 hb mem Q hrf h
theorem gW_X4_readEnclosed {sx : Nat × (Nat → Int32)} (n : Nat) {rf : RFt} {Q : Int32 → MMt → Prop} (b : Nat) (a1 : Int32) (hb : b < 2) (hrf : RFr b rf) (mem : MMt) (h : W_X4_readEnclosed n b a1 mem Q) : Ct sx yX4_readEnclosed cX4_readEnclosed 2 (some .boolean) (7 + n) [.ref 55, .int a1] NX NX rf mem (QQi (RFr b) Q) := (gWW_X4_readJoined n).2.2.2 rf b a1 hb mem Q hrf h
def B_X4_fault_27 (b : Nat) (mem : MMt) (Q : Int32 → MMt → Prop) : Prop := ∀ m3 : MMt, m3 = up2 mem 55 4 (0 : Int32) → ∀ m4 : MMt, m4 = up2 m3 55 1 (0 : Int32) → W_X4_readJoined 80 b (0 : Int32) (0 : Int32) m4 (fun r1 m5 => ((r1 = 0 → Q (m5 55 4) m5) ∧ (¬ r1 = 0 → ((¬ m5 55 4 = m5 55 3 → Q (m5 55 4) m5) ∧ (m5 55 4 = m5 55 3 → Q (-1 : Int32) m5)))))
set_option maxRecDepth 4000 in
theorem gB_X4_fault_27 {sx : Nat × (Nat → Int32)} {rf : RFt} {Q : Int32 → MMt → Prop} (b : Nat) (hb : b < 2) (hrf : RFok rf ∧ rf 55 2 = some 13) (mem : MMt) (h : B_X4_fault_27 b mem Q) (L1 L2 L3 : Option Value) : G sx yX4_fault cX4_fault 4 (some .int) 89 NX NX (QQi RFok Q) NX rf mem 27 [some (.ref 55), L1, L2, L3] [.ref (1002 + b), .ref 55] := by
  unfold B_X4_fault_27 at h
  refine G_putR (ci := 4) (j := 5) (N := 6) pX4_fault_27 fw_RX4_21 rfl ltk_55 shk_55 (by decide) rfl (fun _ => ⟨rfl, rfl⟩) ?_
  have hr2 : RFr b (upr rf 55 5 (some (1002 + b))) := ⟨fun a j ha hc => by
      have e : upr rf 55 5 (some (1002 + b)) a j = rf a j := if_neg (by omega)
      rw [e]; exact hrf.1 a j ha hc, by rw [show upr rf 55 5 (some (1002 + b)) 55 2 = rf 55 2 from if_neg (by omega)]; exact hrf.2, if_pos ⟨rfl, rfl⟩⟩
  generalize upr rf 55 5 (some (1002 + b)) = rf2 at hr2
  refine G_aload_n (i := 0) pX4_fault_30 rfl rfl ?_
  refine G_iconst pX4_fault_31 ic_0 ?_
  obtain ⟨m3, em3⟩ : ∃ z : MMt, z = up2 mem 55 4 (0 : Int32) := ⟨_, rfl⟩
  have h := h m3 em3
  refine G_putIW (ci := 4) (j := 4) (N := 6) pX4_fault_32 fw_RX4_39 rfl ltk_55 shk_55 (by decide) rfl (fun _ => ⟨rfl, rfl⟩) em3.symm ?_
  refine G_aload_n (i := 0) pX4_fault_35 rfl rfl ?_
  refine G_iconst pX4_fault_36 ic_0 ?_
  obtain ⟨m4, em4⟩ : ∃ z : MMt, z = up2 m3 55 1 (0 : Int32) := ⟨_, rfl⟩
  have h := h m4 em4
  refine G_putIW (ci := 4) (j := 1) (N := 6) pX4_fault_37 fw_RX4_42 rfl ltk_55 shk_55 (by decide) rfl (fun _ => ⟨rfl, rfl⟩) em4.symm ?_
  refine G_aload_n (i := 0) pX4_fault_40 rfl rfl ?_
  refine G_iconst pX4_fault_41 ic_0 ?_
  refine G_iconst pX4_fault_42 ic_0 ?_
  refine G_callV2i (b := 55) (ci := 4) (N := 6) pX4_fault_43 (gW_X4_readJoined 80 b (0 : Int32) (0 : Int32) hb hr2 _ h) mV_X4_readJoined ml_RX4_45 (by decide) ⟨Nat.le_refl _, Nat.le_refl _, Nat.le_refl _⟩ (Nat.le_of_ble_eq_true rfl) ltk_55 shk_55 rfl ?_
  intro r1 rf m5 hrf h hr1
  refine G_if_eq pX4_fault_46 (fun c1 => ?_) (fun c1 => ?_)
  · have h := h.1 c1
    refine G_aload_n (i := 0) pX4_fault_64 rfl rfl ?_
    refine G_getI (ci := 4) (j := 4) (N := 6) pX4_fault_65 fl_RX4_39 rfl ltk_55 shk_55 (by decide) rfl ?_
    exact G_ireturn (len := 1) pX4_fault_68 ⟨hrf.1, _, rfl, h⟩ ⟨_, rfl, rfl⟩
  · have h := h.2 c1
    refine G_aload_n (i := 0) pX4_fault_49 rfl rfl ?_
    refine G_getI (ci := 4) (j := 4) (N := 6) pX4_fault_50 fl_RX4_39 rfl ltk_55 shk_55 (by decide) rfl ?_
    refine G_aload_n (i := 0) pX4_fault_53 rfl rfl ?_
    refine G_getI (ci := 4) (j := 3) (N := 6) pX4_fault_54 fl_RX4_31 rfl ltk_55 shk_55 (by decide) rfl ?_
    refine G_icmp_ne pX4_fault_57 (fun c2 => ?_) (fun c2 => ?_)
    · have h := h.1 c2
      refine G_aload_n (i := 0) pX4_fault_64 rfl rfl ?_
      refine G_getI (ci := 4) (j := 4) (N := 6) pX4_fault_65 fl_RX4_39 rfl ltk_55 shk_55 (by decide) rfl ?_
      exact G_ireturn (len := 1) pX4_fault_68 ⟨hrf.1, _, rfl, h⟩ ⟨_, rfl, rfl⟩
    · have h := h.2 c2
      refine G_iconst pX4_fault_60 ic_m1 ?_
      refine G_goto pX4_fault_61 ?_
      exact G_ireturn (len := 1) pX4_fault_68 ⟨hrf.1, _, rfl, h⟩ ⟨_, rfl, rfl⟩
def L_X4_fault (a2 a3 : Int32) (mem : MMt) (Q : Int32 → MMt → Prop) : Prop := L_J9_min_7cf53 a2 (50 : Int32) mem (fun r1 m1 => (∀ m2 : MMt, m2 = up2 m1 55 3 r1 → ((¬ a3 = 0 → B_X4_fault_27 1 m2 Q) ∧ (a3 = 0 → B_X4_fault_27 0 m2 Q))))
set_option maxRecDepth 4000 in
theorem g_X4_fault {sx : Nat × (Nat → Int32)} {rf : RFt} {Q : Int32 → MMt → Prop} (a2 a3 : Int32) (hrf : RFok rf) (mem : MMt) (h : L_X4_fault a2 a3 mem Q) : Ct sx yX4_fault cX4_fault 4 (some .int) 89 [.ref 55, .ref 13, .int a2, .int a3] NX NX rf mem (QQi RFok Q) := by
  refine Ct_of [some (.ref 55), some (.ref 13), some (.int a2), some (.int a3)] (by decide +kernel) (by simp [Lof, Value.category]) rfl ?_
  unfold L_X4_fault at h
  refine G_aload_n (i := 0) pX4_fault_0 rfl rfl ?_
  refine G_aload_n (i := 1) pX4_fault_1 rfl rfl ?_
  refine G_putR (ci := 4) (j := 2) (N := 6) pX4_fault_2 fw_RX4_15 rfl ltk_55 shk_55 (by decide) rfl (fun _ => ⟨rfl, rfl⟩) ?_
  have hr2 : RFok (upr rf 55 2 (some 13)) ∧ upr rf 55 2 (some 13) 55 2 = some 13 := ⟨fun a j ha hc => by
      have e : upr rf 55 2 (some 13) a j = rf a j := if_neg (by omega)
      rw [e]; exact hrf a j ha hc, if_pos ⟨rfl, rfl⟩⟩
  generalize upr rf 55 2 (some 13) = rf2 at hr2
  refine G_aload_n (i := 0) pX4_fault_5 rfl rfl ?_
  refine G_iload_n (i := 2) pX4_fault_6 rfl rfl ?_
  refine G_aload_n (i := 1) pX4_fault_7 rfl rfl ?_
  refine G_alen (v := (50 : Int32)) pX4_fault_8 ltk_13 shk_13 (by decide) (by decide) ?_
  refine G_callS2i (M := fun z => RFok z ∧ z 55 2 = some 13) pX4_fault_9 (g_J9_min_7cf53 a2 (50 : Int32) hr2 _ h) mS_J9_min_7cf53 ml_RX4_25 (by decide) ⟨Nat.le_refl _, Nat.le_refl _, Nat.le_refl _⟩ (Nat.le_of_ble_eq_true rfl) ?_
  intro r1 rf m1 hrf h hr1
  obtain ⟨m2, em2⟩ : ∃ z : MMt, z = up2 m1 55 3 r1 := ⟨_, rfl⟩
  have h := h m2 em2
  refine G_putIW (ci := 4) (j := 3) (N := 6) pX4_fault_12 fw_RX4_31 rfl ltk_55 shk_55 (by decide) rfl (fun _ => ⟨rfl, rfl⟩) em2.symm ?_
  refine G_aload_n (i := 0) pX4_fault_15 rfl rfl ?_
  refine G_iload_n (i := 3) pX4_fault_16 rfl rfl ?_
  refine G_if_ne pX4_fault_17 (fun c1 => ?_) (fun c1 => ?_)
  · have h := h.1 c1
    refine G_ldcS1 pX4_fault_25 rfl ?_
    exact gB_X4_fault_27 1 (by omega) hrf m2 h _ _ _
  · have h := h.2 c1
    refine G_ldcS0 pX4_fault_20 rfl ?_
    refine G_goto pX4_fault_22 ?_
    exact gB_X4_fault_27 0 (by omega) hrf m2 h _ _ _
def L_X5_lawOf (a1 : Int32) (mem : MMt) (Q : Nat → MMt → Prop) : Prop := ((¬ a1 = 0 → Q 18 mem) ∧ (a1 = 0 → Q 15 mem))
set_option maxRecDepth 4000 in
theorem g_X5_lawOf {sx : Nat × (Nat → Int32)} {rf : RFt} {Q : Nat → MMt → Prop} (a1 : Int32) (hrf : RFok rf) (mem : MMt) (h : L_X5_lawOf a1 mem Q) : Ct sx yX5_lawOf cX5_lawOf 2 (some (.object RX2)) 1 [.ref 11, .int a1] NX NX rf mem (QQr 2 (RFok) Q) := by
  refine Ct_of [some (.ref 11), some (.int a1)] (by decide +kernel) (by simp [Lof, Value.category]) rfl ?_
  unfold L_X5_lawOf at h
  refine G_iload_n (i := 1) pX5_lawOf_0 rfl rfl ?_
  refine G_if_ne pX5_lawOf_1 (fun c1 => ?_) (fun c1 => ?_)
  · have h := h.1 c1
    refine G_aload_n (i := 0) pX5_lawOf_11 rfl rfl ?_
    refine G_getR (ci := 5) (j := 8) (N := 10) pX5_lawOf_12 fl_RX5_38 rfl ltk_11 shk_11 (by decide) rfl (hrf.lit 11 8 rfl) ?_
    exact G_areturn (len := 1) pX5_lawOf_15 ⟨hrf, _, rfl, IS_lit shk_18 ltk_18, h⟩ ⟨_, rfl, Or.inl ⟨_, rfl⟩⟩
  · have h := h.2 c1
    refine G_aload_n (i := 0) pX5_lawOf_4 rfl rfl ?_
    refine G_getR (ci := 5) (j := 7) (N := 10) pX5_lawOf_5 fl_RX5_34 rfl ltk_11 shk_11 (by decide) rfl (hrf.lit 11 7 rfl) ?_
    refine G_goto pX5_lawOf_8 ?_
    exact G_areturn (len := 1) pX5_lawOf_15 ⟨hrf, _, rfl, IS_lit shk_15 ltk_15, h⟩ ⟨_, rfl, Or.inl ⟨_, rfl⟩⟩
def L_X2_hold (q0 : Nat) (a1 : Nat) (a2 : Int32) (mem : MMt) (Q : MMt → Prop) : Prop := L_X9_held a2 (0 : Int32) (50 : Int32) mem (fun r2 m1 => (∀ m3 : MMt, m3 = up2 m1 q0 2 r2 → ((¬ (0 : Int32) < 0 ∧ ¬ (0 : Int32) < 0 ∧ ¬ (m3 q0 2) < 0 ∧ (0 : Int32).toNatClampNeg + (m3 q0 2).toNatClampNeg ≤ 50 ∧ (0 : Int32).toNatClampNeg + (m3 q0 2).toNatClampNeg ≤ 50) ∧ ∀ m4 : MMt, m4 = cp2 m3 a1 (q0 + 1) (0 : Int32).toNatClampNeg (0 : Int32).toNatClampNeg (m3 q0 2).toNatClampNeg → Q m4)))
set_option maxRecDepth 4000 in
theorem g_X2_hold {sx : Nat × (Nat → Int32)} {rf : RFt} {Q : MMt → Prop} (q0 : Nat) (a1 : Nat) (a2 : Int32) (hq0 : IS 2 q0) (hs1 : SH a1 = (0, 50)) (hl1 : a1 < NX) (hrf : RFok rf) (mem : MMt) (h : L_X2_hold q0 a1 a2 mem Q) : Ct sx yX2_hold cX2_hold 3 none 3 [.ref q0, .ref a1, .int a2] NX NX rf mem (QQv (RFok) Q) := by
  refine Ct_of [some (.ref q0), some (.ref a1), some (.int a2)] (by decide +kernel) (by simp [Lof, Value.category]) rfl ?_
  unfold L_X2_hold at h
  refine G_aload_n (i := 0) pX2_hold_0 rfl rfl ?_
  refine G_iload_n (i := 2) pX2_hold_1 rfl rfl ?_
  refine G_iconst pX2_hold_2 ic_0 ?_
  refine G_bipush pX2_hold_3 bi_50 ?_
  refine G_callSN3i pX2_hold_5 (g_X9_held a2 (0 : Int32) (50 : Int32) hrf _ h) mS_X9_held (by decide) (by decide) ⟨Nat.le_refl _, Nat.le_refl _, Nat.le_refl _⟩ (Nat.le_of_ble_eq_true rfl) ?_
  intro r2 rf m1 hrf h hr2
  obtain ⟨m3, em3⟩ : ∃ z : MMt, z = up2 m1 q0 2 r2 := ⟨_, rfl⟩
  have h := h m3 em3
  refine G_putIW (ci := 2) (j := 2) (N := 4) pX2_hold_8 fw_RX2_26 rfl hq0.2 hq0.sh2 (by decide) rfl (fun _ => ⟨rfl, rfl⟩) em3.symm ?_
  refine G_aload_n (i := 1) pX2_hold_11 rfl rfl ?_
  refine G_iconst pX2_hold_12 ic_0 ?_
  refine G_aload_n (i := 0) pX2_hold_13 rfl rfl ?_
  refine G_getR (ci := 2) (j := 1) (N := 4) pX2_hold_14 fl_RX2_9 rfl hq0.2 hq0.sh2 (by decide) rfl ((lay_2_1 hq0).2.2 hrf) ?_
  refine G_iconst pX2_hold_17 ic_0 ?_
  refine G_aload_n (i := 0) pX2_hold_18 rfl rfl ?_
  refine G_getI (ci := 2) (j := 2) (N := 4) pX2_hold_19 fl_RX2_26 rfl hq0.2 hq0.sh2 (by decide) rfl ?_
  obtain ⟨hb5, h⟩ := h
  obtain ⟨m4, em4⟩ : ∃ z : MMt, z = cp2 m3 a1 (q0 + 1) (0 : Int32).toNatClampNeg (0 : Int32).toNatClampNeg (m3 q0 2).toNatClampNeg := ⟨_, rfl⟩
  have h := h m4 em4
  refine G_copyW (kd := 0) pX2_hold_22 (Or.inl ⟨rfl, rfl⟩) ml_RX2_29 wcopy hl1 (lay_2_1 hq0).2.1 hs1 (lay_2_1 hq0).1 hb5 (fun _ _ => rfl) (Nat.le_of_ble_eq_true rfl) (by first | decide | omega) wcopyN em4.symm ?_
  exact G_return (len := 1) pX2_hold_25 ⟨hrf, rfl, h⟩ rfl
def B_J7_fill_031fb_5 (a1 : Nat) (n0 : Nat) (x1 : Int32) (x2 : Int32) (x3 : Int32) (mem : MMt) (Q : MMt → Prop) : Prop := LOOP (σ := Int32 × MMt) (fun X5 z => (fun (x2 : Int32) (mem : MMt) => ((x3 ≤ x2 → Q mem) ∧ (¬ x3 ≤ x2 → (vp_in x2 n0 ∧ ∀ m2 : MMt, m2 = up2 mem a1 x2.toNatClampNeg x1.toInt8.toInt32 → (∀ v4 : Int32, v4 = x2 + (1 : Int32) → X5 (v4, m2)))))) z.1 z.2) (x2, mem)
set_option maxRecDepth 4000 in
theorem gB_J7_fill_031fb_5 {sx : Nat × (Nat → Int32)} {nx : Nat} {M : RFt → Prop} {rf : RFt} {Q : MMt → Prop} (a1 : Nat) (n0 : Nat) (hs : SH a1 = (1, n0)) (hl : a1 < nx) (hrf : M rf) (x1 : Int32) (x2 : Int32) (x3 : Int32) (mem : MMt) (h : B_J7_fill_031fb_5 a1 n0 x1 x2 x3 mem Q) : G sx yJ7_fill_031fb cJ7_fill_031fb 4 none 1 nx nx (QQv (M) Q) nx rf mem 5 [some (.ref a1), some (.int x1), some (.int x2), some (.int x3)] [] := by
  obtain ⟨I, ⟨n, h0⟩, hI⟩ := h
  have key : ∀ (n : Nat) (rf : RFt) (x2 : Int32) (mem : MMt), M rf → I n (x2, mem) → G sx yJ7_fill_031fb cJ7_fill_031fb 4 none 1 nx nx (QQv (M) Q) nx rf mem 5 [some (.ref a1), some (.int x1), some (.int x2), some (.int x3)] [] := by
    intro n
    induction n using Nat.strongRecOn with
    | _ n ih =>
    intro rf x2 mem hrf h0
    have hX5 : ∀ (rf : RFt) (x2 : Int32) (mem : MMt), M rf → (fun s' => ∃ m, m < n ∧ I m s') (x2, mem) → G sx yJ7_fill_031fb cJ7_fill_031fb 4 none 1 nx nx (QQv (M) Q) nx rf mem 5 [some (.ref a1), some (.int x1), some (.int x2), some (.int x3)] [] := fun rf x2 mem hrf ⟨m, hm, hi⟩ => ih m hm rf x2 mem hrf hi
    have h := hI n _ h0
    clear ih h0
    try dsimp only at h
    refine G_iload_n (i := 2) pJ7_fill_031fb_5 rfl rfl ?_
    refine G_iload_n (i := 3) pJ7_fill_031fb_6 rfl rfl ?_
    refine G_icmp_ge pJ7_fill_031fb_7 (fun c1 => ?_) (fun c1 => ?_)
    · have h := h.1 c1
      exact G_return (len := 1) pJ7_fill_031fb_20 ⟨hrf, rfl, h⟩ rfl
    · have h := h.2 c1
      refine G_aload_n (i := 0) pJ7_fill_031fb_10 rfl rfl ?_
      refine G_iload_n (i := 2) pJ7_fill_031fb_11 rfl rfl ?_
      refine G_iload_n (i := 1) pJ7_fill_031fb_12 rfl rfl ?_
      obtain ⟨hi3, h⟩ := h
      obtain ⟨m2, em2⟩ : ∃ z : MMt, z = up2 mem a1 x2.toNatClampNeg x1.toInt8.toInt32 := ⟨_, rfl⟩
      have h := h m2 em2
      refine G_bastW pJ7_fill_031fb_13 hl hs hi3 em2.symm ?_
      obtain ⟨v4, e4⟩ : ∃ z : Int32, z = x2 + (1 : Int32) := ⟨_, rfl⟩
      have h := h v4 e4
      refine G_iincW (L' := [some (.ref a1), some (.int x1), some (.int v4), some (.int x3)]) pJ7_fill_031fb_14 rfl ic_1 e4.symm rfl ?_
      refine G_goto pJ7_fill_031fb_17 ?_
      exact hX5 _ _ _ hrf h
  exact key n rf _ _ hrf h0
def L_J7_fill_031fb (a1 : Nat) (n0 : Nat) (a2 : Int32) (mem : MMt) (Q : MMt → Prop) : Prop := (∀ v1 : Int32, v1 = Int32.ofNat n0 → B_J7_fill_031fb_5 a1 n0 a2 (0 : Int32) v1 mem Q)
set_option maxRecDepth 4000 in
theorem g_J7_fill_031fb {sx : Nat × (Nat → Int32)} {nx : Nat} {M : RFt → Prop} {rf : RFt} {Q : MMt → Prop} (a1 : Nat) (n0 : Nat) (a2 : Int32) (hs : SH a1 = (1, n0)) (hl : a1 < nx) (hrf : M rf) (mem : MMt) (h : L_J7_fill_031fb a1 n0 a2 mem Q) : Ct sx yJ7_fill_031fb cJ7_fill_031fb 4 none 1 [.ref a1, .int a2] nx nx rf mem (QQv (M) Q) := by
  refine Ct_of [some (.ref a1), some (.int a2), none, none] (by decide +kernel) (by simp [Lof, Value.category]) rfl ?_
  unfold L_J7_fill_031fb at h
  refine G_iconst pJ7_fill_031fb_0 ic_0 ?_
  refine G_istore_n (i := 2) (L' := [some (.ref a1), some (.int a2), some (.int (0 : Int32)), none]) pJ7_fill_031fb_1 rfl rfl ?_
  refine G_aload_n (i := 0) pJ7_fill_031fb_2 rfl rfl ?_
  refine G_alen (v := Int32.ofNat n0) pJ7_fill_031fb_3 hl hs (by decide) rfl ?_
  obtain ⟨v1, e1⟩ : ∃ z : Int32, z = Int32.ofNat n0 := ⟨_, rfl⟩
  have h := h v1 e1
  refine G_istore_nW (L' := [some (.ref a1), some (.int a2), some (.int (0 : Int32)), some (.int v1)]) pJ7_fill_031fb_4 rfl e1.symm rfl ?_
  exact gB_J7_fill_031fb_5 a1 n0 hs hl hrf a2 (0 : Int32) v1 _ h
def L_X5_forgetPulls (q0 : Nat) (mem : MMt) (Q : MMt → Prop) : Prop := L_J7_fill_031fb (q0 + 10) 410 (100 : Int32) mem (fun m1 => Q m1)
set_option maxRecDepth 4000 in
theorem g_X5_forgetPulls {sx : Nat × (Nat → Int32)} {rf : RFt} {Q : MMt → Prop} (q0 : Nat) (hq0 : IS 5 q0) (hrf : RFok rf) (mem : MMt) (h : L_X5_forgetPulls q0 mem Q) : Ct sx yX5_forgetPulls cX5_forgetPulls 1 none 2 [.ref q0] NX NX rf mem (QQv (RFok) Q) := by
  refine Ct_of [some (.ref q0)] (by decide +kernel) (by simp [Lof, Value.category]) rfl ?_
  unfold L_X5_forgetPulls at h
  refine G_aload_n (i := 0) pX5_forgetPulls_0 rfl rfl ?_
  refine G_getR (ci := 5) (j := 9) (N := 10) pX5_forgetPulls_1 fl_RX5_41 rfl hq0.2 hq0.sh5 (by decide) rfl ((lay_5_9 hq0).2.2 hrf) ?_
  refine G_bipush pX5_forgetPulls_4 bi_100 ?_
  refine G_callS2v pX5_forgetPulls_6 (g_J7_fill_031fb (q0 + 10) 410 (100 : Int32) (lay_5_9 hq0).1 (lay_5_9 hq0).2.1 hrf _ h) mS_J7_fill_031fb ml_RX5_69 (by decide) ⟨Nat.le_refl _, Nat.le_refl _, Nat.le_refl _⟩ (Nat.le_of_ble_eq_true rfl) ?_
  intro rf m1 hrf h
  exact G_return (len := 1) pX5_forgetPulls_9 ⟨hrf, rfl, h⟩ rfl
def L_X9_text (a1 : Int32) (mem : MMt) (Q : Int32 → MMt → Prop) : Prop := L_X9_isUse a1 mem (fun r2 m1 => ((¬ r2 = 0 → L_X4_fault (m1 11 4) a1 m1 (fun r5 m4 => (∀ m6 : MMt, m6 = up2 m4 11 4 (0 : Int32) → ((r5 < 0 → L_X5_lawOf a1 m6 (fun q9 m8 => L_X2_hold q9 56 (m8 55 1) m8 (fun m10 => L_X5_forgetPulls 11 m10 (fun m11 => Q (1 : Int32) m11)))) ∧ (¬ r5 < 0 → Q ((-10 : Int32) - r5) m6))))) ∧ (r2 = 0 → L_X9_error (1 : Int32) m1 (fun r13 m12 => Q r13 m12))))
set_option maxRecDepth 4000 in
theorem g_X9_text {sx : Nat × (Nat → Int32)} {rf : RFt} {Q : Int32 → MMt → Prop} (a1 : Int32) (hrf : RFok rf) (mem : MMt) (h : L_X9_text a1 mem Q) : Ct sx yX9_text cX9_text 3 (some .int) 90 [.ref 0, .int a1] NX NX rf mem (QQi (RFok) Q) := by
  refine Ct_of [some (.ref 0), some (.int a1), none] (by decide +kernel) (by simp [Lof, Value.category]) rfl ?_
  unfold L_X9_text at h
  refine G_iload_n (i := 1) pX9_text_0 rfl rfl ?_
  refine G_callS1i pX9_text_1 (g_X9_isUse a1 hrf _ h) mS_X9_isUse ml_RX9_180 (by decide) ⟨Nat.le_refl _, Nat.le_refl _, Nat.le_refl _⟩ (Nat.le_of_ble_eq_true rfl) ?_
  intro r2 rf m1 hrf h hr2
  refine G_if_ne pX9_text_4 (fun c3 => ?_) (fun c3 => ?_)
  · have h := h.1 c3
    refine G_aload_n (i := 0) pX9_text_13 rfl rfl ?_
    refine G_getR (ci := 9) (j := 6) (N := 12) pX9_text_14 fl_RX9_44 rfl ltk_0 shk_0 (by decide) rfl (hrf.lit 0 6 rfl) ?_
    refine G_aload_n (i := 0) pX9_text_17 rfl rfl ?_
    refine G_getR (ci := 9) (j := 1) (N := 12) pX9_text_18 fl_RX9_19 rfl ltk_0 shk_0 (by decide) rfl (hrf.lit 0 1 rfl) ?_
    refine G_getR (ci := 5) (j := 3) (N := 10) pX9_text_21 fl_RX9_176 rfl ltk_11 shk_11 (by decide) rfl (hrf.lit 11 3 rfl) ?_
    refine G_aload_n (i := 0) pX9_text_24 rfl rfl ?_
    refine G_getR (ci := 9) (j := 1) (N := 12) pX9_text_25 fl_RX9_19 rfl ltk_0 shk_0 (by decide) rfl (hrf.lit 0 1 rfl) ?_
    refine G_getI (ci := 5) (j := 4) (N := 10) pX9_text_28 fl_RX9_173 rfl ltk_11 shk_11 (by decide) rfl ?_
    refine G_iload_n (i := 1) pX9_text_31 rfl rfl ?_
    refine G_callV3i (b := 55) (ci := 4) (N := 6) pX9_text_32 (g_X4_fault (m1 11 4) a1 hrf _ h) mV_X4_fault ml_RX9_183 (by decide) ⟨Nat.le_refl _, Nat.le_refl _, Nat.le_refl _⟩ (Nat.le_of_ble_eq_true rfl) ltk_55 shk_55 rfl ?_
    intro r5 rf m4 hrf h hr5
    refine G_istore_n (i := 2) (L' := [some (.ref 0), some (.int a1), some (.int r5)]) pX9_text_35 rfl rfl ?_
    refine G_aload_n (i := 0) pX9_text_36 rfl rfl ?_
    refine G_getR (ci := 9) (j := 1) (N := 12) pX9_text_37 fl_RX9_19 rfl ltk_0 shk_0 (by decide) rfl (hrf.lit 0 1 rfl) ?_
    refine G_iconst pX9_text_40 ic_0 ?_
    obtain ⟨m6, em6⟩ : ∃ z : MMt, z = up2 m4 11 4 (0 : Int32) := ⟨_, rfl⟩
    have h := h m6 em6
    refine G_putIW (ci := 5) (j := 4) (N := 10) pX9_text_41 fw_RX9_173 rfl ltk_11 shk_11 (by decide) rfl (fun _ => ⟨rfl, rfl⟩) em6.symm ?_
    refine G_iload_n (i := 2) pX9_text_44 rfl rfl ?_
    refine G_if_lt pX9_text_45 (fun c7 => ?_) (fun c7 => ?_)
    · have h := h.1 c7
      refine G_aload_n (i := 0) pX9_text_53 rfl rfl ?_
      refine G_getR (ci := 9) (j := 1) (N := 12) pX9_text_54 fl_RX9_19 rfl ltk_0 shk_0 (by decide) rfl (hrf.lit 0 1 rfl) ?_
      refine G_iload_n (i := 1) pX9_text_57 rfl rfl ?_
      refine G_callV1r (b := 11) (ci := 5) (N := 10) pX9_text_58 (g_X5_lawOf a1 hrf _ h) mV_X5_lawOf ml_RX9_187 (by decide) ⟨Nat.le_refl _, Nat.le_refl _, Nat.le_refl _⟩ (Nat.le_of_ble_eq_true rfl) ltk_11 shk_11 rfl ?_
      intro q9 rf m8 hrf hq9 h
      refine G_aload_n (i := 0) pX9_text_61 rfl rfl ?_
      refine G_getR (ci := 9) (j := 6) (N := 12) pX9_text_62 fl_RX9_44 rfl ltk_0 shk_0 (by decide) rfl (hrf.lit 0 6 rfl) ?_
      refine G_getR (ci := 4) (j := 0) (N := 6) pX9_text_65 fl_RX9_191 rfl ltk_55 shk_55 (by decide) rfl (hrf.lit 55 0 rfl) ?_
      refine G_aload_n (i := 0) pX9_text_68 rfl rfl ?_
      refine G_getR (ci := 9) (j := 6) (N := 12) pX9_text_69 fl_RX9_44 rfl ltk_0 shk_0 (by decide) rfl (hrf.lit 0 6 rfl) ?_
      refine G_getI (ci := 4) (j := 1) (N := 6) pX9_text_72 fl_RX9_194 rfl ltk_55 shk_55 (by decide) rfl ?_
      refine G_callV2v (b := q9) (ci := 2) (N := 4) pX9_text_75 (g_X2_hold q9 56 (m8 55 1) hq9 shk_56 ltk_56 hrf _ h) mV_X2_hold ml_RX9_195 (by decide) ⟨Nat.le_refl _, Nat.le_refl _, Nat.le_refl _⟩ (Nat.le_of_ble_eq_true rfl) hq9.2 hq9.sh2 rfl ?_
      intro rf m10 hrf h
      refine G_aload_n (i := 0) pX9_text_78 rfl rfl ?_
      refine G_getR (ci := 9) (j := 1) (N := 12) pX9_text_79 fl_RX9_19 rfl ltk_0 shk_0 (by decide) rfl (hrf.lit 0 1 rfl) ?_
      refine G_callV0v (b := 11) (ci := 5) (N := 10) pX9_text_82 (g_X5_forgetPulls 11 (IS_lit shk_11 ltk_11) hrf _ h) mV_X5_forgetPulls ml_RX9_201 (by decide) ⟨Nat.le_refl _, Nat.le_refl _, Nat.le_refl _⟩ (Nat.le_of_ble_eq_true rfl) ltk_11 shk_11 rfl ?_
      intro rf m11 hrf h
      refine G_iconst pX9_text_85 ic_1 ?_
      exact G_ireturn (len := 1) pX9_text_86 ⟨hrf, _, rfl, h⟩ ⟨_, rfl, rfl⟩
    · have h := h.2 c7
      refine G_bipush pX9_text_48 bi_m10 ?_
      refine G_iload_n (i := 2) pX9_text_50 rfl rfl ?_
      refine G_isub pX9_text_51 ?_
      exact G_ireturn (len := 1) pX9_text_52 ⟨hrf, _, rfl, h⟩ ⟨_, rfl, rfl⟩
  · have h := h.2 c3
    refine G_aload_n (i := 0) pX9_text_7 rfl rfl ?_
    refine G_iconst pX9_text_8 ic_1 ?_
    refine G_callV1i (b := 0) (ci := 9) (N := 12) pX9_text_9 (g_X9_error (1 : Int32) hrf _ h) mV_X9_error ml_RX9_80 (by decide) ⟨Nat.le_refl _, Nat.le_refl _, Nat.le_refl _⟩ (Nat.le_of_ble_eq_true rfl) ltk_0 shk_0 rfl ?_
    intro r13 rf m12 hrf h hr13
    exact G_ireturn (len := 1) pX9_text_12 ⟨hrf, _, rfl, h⟩ ⟨_, rfl, rfl⟩
def L_X9_law (a1 : Int32) (a2 : Int32) (a3 : Int32) (a4 : Int32) (mem : MMt) (Q : Int32 → MMt → Prop) : Prop := L_X9_isUse a1 mem (fun r2 m1 => ((¬ r2 = 0 → L_X5_lawOf a1 m1 (fun q5 m4 => L_X2_give q5 a2 a3 a4 m4 (fun r7 m6 => Q r7 m6))) ∧ (r2 = 0 → L_X9_error (1 : Int32) m1 (fun r9 m8 => Q r9 m8))))
set_option maxRecDepth 4000 in
theorem g_X9_law {sx : Nat × (Nat → Int32)} {rf : RFt} {Q : Int32 → MMt → Prop} (a1 : Int32) (a2 : Int32) (a3 : Int32) (a4 : Int32) (hrf : RFok rf) (mem : MMt) (h : L_X9_law a1 a2 a3 a4 mem Q) : Ct sx yX9_law cX9_law 5 (some .int) 4 [.ref 0, .int a1, .int a2, .int a3, .int a4] NX NX rf mem (QQi (RFok) Q) := by
  refine Ct_of [some (.ref 0), some (.int a1), some (.int a2), some (.int a3), some (.int a4)] (by decide +kernel) (by simp [Lof, Value.category]) rfl ?_
  unfold L_X9_law at h
  refine G_iload_n (i := 1) pX9_law_0 rfl rfl ?_
  refine G_callS1i pX9_law_1 (g_X9_isUse a1 hrf _ h) mS_X9_isUse ml_RX9_180 (by decide) ⟨Nat.le_refl _, Nat.le_refl _, Nat.le_refl _⟩ (Nat.le_of_ble_eq_true rfl) ?_
  intro r2 rf m1 hrf h hr2
  refine G_if_ne pX9_law_4 (fun c3 => ?_) (fun c3 => ?_)
  · have h := h.1 c3
    refine G_aload_n (i := 0) pX9_law_13 rfl rfl ?_
    refine G_getR (ci := 9) (j := 1) (N := 12) pX9_law_14 fl_RX9_19 rfl ltk_0 shk_0 (by decide) rfl (hrf.lit 0 1 rfl) ?_
    refine G_iload_n (i := 1) pX9_law_17 rfl rfl ?_
    refine G_callV1r (b := 11) (ci := 5) (N := 10) pX9_law_18 (g_X5_lawOf a1 hrf _ h) mV_X5_lawOf ml_RX9_187 (by decide) ⟨Nat.le_refl _, Nat.le_refl _, Nat.le_refl _⟩ (Nat.le_of_ble_eq_true rfl) ltk_11 shk_11 rfl ?_
    intro q5 rf m4 hrf hq5 h
    refine G_iload_n (i := 2) pX9_law_21 rfl rfl ?_
    refine G_iload_n (i := 3) pX9_law_22 rfl rfl ?_
    refine G_iload (i := 4) pX9_law_23 rfl ?_
    refine G_callV3i (b := q5) (ci := 2) (N := 4) pX9_law_25 (g_X2_give q5 a2 a3 a4 hq5 hrf _ h) mV_X2_give ml_RX9_204 (by decide) ⟨Nat.le_refl _, Nat.le_refl _, Nat.le_refl _⟩ (Nat.le_of_ble_eq_true rfl) hq5.2 hq5.sh2 rfl ?_
    intro r7 rf m6 hrf h hr7
    exact G_ireturn (len := 1) pX9_law_28 ⟨hrf, _, rfl, h⟩ ⟨_, rfl, rfl⟩
  · have h := h.2 c3
    refine G_aload_n (i := 0) pX9_law_7 rfl rfl ?_
    refine G_iconst pX9_law_8 ic_1 ?_
    refine G_callV1i (b := 0) (ci := 9) (N := 12) pX9_law_9 (g_X9_error (1 : Int32) hrf _ h) mV_X9_error ml_RX9_80 (by decide) ⟨Nat.le_refl _, Nat.le_refl _, Nat.le_refl _⟩ (Nat.le_of_ble_eq_true rfl) ltk_0 shk_0 rfl ?_
    intro r9 rf m8 hrf h hr9
    exact G_ireturn (len := 1) pX9_law_12 ⟨hrf, _, rfl, h⟩ ⟨_, rfl, rfl⟩
def B_X0_goOn_74 (q0 : Nat) (X2 : Int32 × MMt → Prop) (x0 : Nat) (x2 : Int32) (x3 : Nat) (s0 : Int32) (mem : MMt) (Q : MMt → Prop) : Prop := L_X1_load x3 mem (fun r2 m1 => L_X2_give 18 s0 r2 (m1 x0 2) m1 (fun r4 m3 => L_X9_held ((m3 x0 3) + r4) (-99999 : Int32) (99999 : Int32) m3 (fun r6 m5 => (∀ m7 : MMt, m7 = up2 m5 x0 3 r6 → (∀ v8 : Int32, v8 = x2 + (1 : Int32) → X2 (v8, m7))))))
set_option maxRecDepth 4000 in
theorem gB_X0_goOn_74 {sx : Nat × (Nat → Int32)} {X2 : Int32 × MMt → Prop} {rf : RFt} {Q : MMt → Prop} (q0 : Nat) (hq0 : IS 0 q0) (hrf : RFok rf) (x0 : Nat) (x2 : Int32) (x3 : Nat) (s0 : Int32) (hx0 : IS 0 x0) (hx3 : IS 1 x3) (hX2 : ∀ (rf : RFt) (x2 : Int32) (mem : MMt), RFok rf → X2 (x2, mem) → G sx yX0_goOn cX0_goOn 6 none 5 NX NX (QQv (RFok) Q) NX rf mem 2 [some (.ref x0), some (.ref 11), some (.int x2), none, none, none] []) (mem : MMt) (h : B_X0_goOn_74 q0 X2 x0 x2 x3 s0 mem Q) : G sx yX0_goOn cX0_goOn 6 none 5 NX NX (QQv (RFok) Q) NX rf mem 74 [some (.ref x0), some (.ref 11), some (.int x2), some (.ref x3), none, none] [.int s0, .ref 18] := by
  unfold B_X0_goOn_74 at h
  refine G_aload_n (i := 3) pX0_goOn_74 rfl rfl ?_
  refine G_callV0i (b := x3) (ci := 1) (N := 5) pX0_goOn_75 (g_X1_load x3 hx3 hrf _ h) mV_X1_load ml_RX0_49 (by decide) ⟨Nat.le_refl _, Nat.le_refl _, Nat.le_refl _⟩ (Nat.le_of_ble_eq_true rfl) hx3.2 hx3.sh1 rfl ?_
  intro r2 rf m1 hrf h hr2
  refine G_aload_n (i := 0) pX0_goOn_78 rfl rfl ?_
  refine G_getI (ci := 0) (j := 2) (N := 4) pX0_goOn_79 fl_RX0_22 rfl hx0.2 hx0.sh0 (by decide) rfl ?_
  refine G_callV3i (b := 18) (ci := 2) (N := 4) pX0_goOn_82 (g_X2_give 18 s0 r2 (m1 x0 2) (IS_lit shk_18 ltk_18) hrf _ h) mV_X2_give ml_RX0_53 (by decide) ⟨Nat.le_refl _, Nat.le_refl _, Nat.le_refl _⟩ (Nat.le_of_ble_eq_true rfl) ltk_18 shk_18 rfl ?_
  intro r4 rf m3 hrf h hr4
  refine G_istore (i := 5) (L' := [some (.ref x0), some (.ref 11), some (.int x2), some (.ref x3), none, some (.int r4)]) pX0_goOn_85 rfl ?_
  refine G_aload_n (i := 0) pX0_goOn_87 rfl rfl ?_
  refine G_aload_n (i := 0) pX0_goOn_88 rfl rfl ?_
  refine G_getI (ci := 0) (j := 3) (N := 4) pX0_goOn_89 fl_RX0_25 rfl hx0.2 hx0.sh0 (by decide) rfl ?_
  refine G_iload (i := 5) pX0_goOn_92 rfl ?_
  refine G_iadd pX0_goOn_94 ?_
  refine G_ldc pX0_goOn_95 rfl wc_RX0_59 ?_
  refine G_ldc pX0_goOn_97 rfl wc_RX0_60 ?_
  refine G_callSN3i pX0_goOn_99 (g_X9_held ((m3 x0 3) + r4) (-99999 : Int32) (99999 : Int32) hrf _ h) mS_X9_held (by decide) (by decide) ⟨Nat.le_refl _, Nat.le_refl _, Nat.le_refl _⟩ (Nat.le_of_ble_eq_true rfl) ?_
  intro r6 rf m5 hrf h hr6
  obtain ⟨m7, em7⟩ : ∃ z : MMt, z = up2 m5 x0 3 r6 := ⟨_, rfl⟩
  have h := h m7 em7
  refine G_putIW (ci := 0) (j := 3) (N := 4) pX0_goOn_102 fw_RX0_25 rfl hx0.2 hx0.sh0 (by decide) rfl (fun _ => ⟨rfl, rfl⟩) em7.symm ?_
  obtain ⟨v8, e8⟩ : ∃ z : Int32, z = x2 + (1 : Int32) := ⟨_, rfl⟩
  have h := h v8 e8
  refine G_iincW (L' := [some (.ref x0), some (.ref 11), some (.int v8), some (.ref x3), none, some (.int r4)]) pX0_goOn_105 rfl ic_1 e8.symm rfl ?_
  refine G_goto pX0_goOn_108 ?_
  refine G_wk (L2 := [some (.ref x0), some (.ref 11), some (.int v8), none, none, none]) ⟨Or.inr rfl, Or.inr rfl, Or.inr rfl, Or.inl rfl, Or.inr rfl, Or.inl rfl, trivial⟩ ?_
  exact hX2 _ _ _ hrf h
def B_X0_goOn_58 (q0 : Nat) (X2 : Int32 × MMt → Prop) (x0 : Nat) (x2 : Int32) (x3 : Nat) (mem : MMt) (Q : MMt → Prop) : Prop := ((¬ (mem x3 2) = 0 → B_X0_goOn_74 q0 X2 x0 x2 x3 (1 : Int32) mem Q) ∧ ((mem x3 2) = 0 → B_X0_goOn_74 q0 X2 x0 x2 x3 (0 : Int32) mem Q))
set_option maxRecDepth 4000 in
theorem gB_X0_goOn_58 {sx : Nat × (Nat → Int32)} {X2 : Int32 × MMt → Prop} {rf : RFt} {Q : MMt → Prop} (q0 : Nat) (hq0 : IS 0 q0) (hrf : RFok rf) (x0 : Nat) (x2 : Int32) (x3 : Nat) (hx0 : IS 0 x0) (hx3 : IS 1 x3) (hX2 : ∀ (rf : RFt) (x2 : Int32) (mem : MMt), RFok rf → X2 (x2, mem) → G sx yX0_goOn cX0_goOn 6 none 5 NX NX (QQv (RFok) Q) NX rf mem 2 [some (.ref x0), some (.ref 11), some (.int x2), none, none, none] []) (mem : MMt) (h : B_X0_goOn_58 q0 X2 x0 x2 x3 mem Q) : G sx yX0_goOn cX0_goOn 6 none 5 NX NX (QQv (RFok) Q) NX rf mem 58 [some (.ref x0), some (.ref 11), some (.int x2), some (.ref x3), none, none] [] := by
  unfold B_X0_goOn_58 at h
  refine G_aload_n (i := 1) pX0_goOn_58 rfl rfl ?_
  refine G_getR (ci := 5) (j := 8) (N := 10) pX0_goOn_59 fl_RX0_45 rfl ltk_11 shk_11 (by decide) rfl (hrf.lit 11 8 rfl) ?_
  refine G_aload_n (i := 3) pX0_goOn_62 rfl rfl ?_
  refine G_getI (ci := 1) (j := 2) (N := 5) pX0_goOn_63 fl_RX0_32 rfl hx3.2 hx3.sh1 (by decide) rfl ?_
  refine G_if_ne pX0_goOn_66 (fun c1 => ?_) (fun c1 => ?_)
  · have h := h.1 c1
    refine G_iconst pX0_goOn_73 ic_1 ?_
    exact gB_X0_goOn_74 q0 hq0 hrf x0 x2 x3 (1 : Int32) hx0 hx3 hX2 _ h
  · have h := h.2 c1
    refine G_iconst pX0_goOn_69 ic_0 ?_
    refine G_goto pX0_goOn_70 ?_
    exact gB_X0_goOn_74 q0 hq0 hrf x0 x2 x3 (0 : Int32) hx0 hx3 hX2 _ h
def B_X0_goOn_2 (q0 : Nat) (x0 : Nat) (x2 : Int32) (mem : MMt) (Q : MMt → Prop) : Prop := LOOP (σ := Int32 × MMt) (fun X2 z => (fun (x2 : Int32) (mem : MMt) => (((mem x0 1) ≤ x2 → (∀ m2 : MMt, m2 = up2 mem x0 2 ((mem x0 2) + (1 : Int32)) → Q m2)) ∧ (¬ (mem x0 1) ≤ x2 → (vp_in x2 8 ∧ (∀ v4 : Int32, v4 = mem (x0 + 2 + x2.toNatClampNeg) 2 → L_X5_pullOf (x0 + 2 + x2.toNatClampNeg) mem (fun r6 m5 => L_X1_stride (x0 + 2 + x2.toNatClampNeg) r6 m5 (fun r8 m7 => (((m7 (x0 + 2 + x2.toNatClampNeg) 2) = v4 → (∀ v10 : Int32, v10 = x2 + (1 : Int32) → X2 (v10, m7))) ∧ (¬ (m7 (x0 + 2 + x2.toNatClampNeg) 2) = v4 → (((m7 (x0 + 2 + x2.toNatClampNeg) 2) = 0 → B_X0_goOn_58 q0 X2 x0 x2 (x0 + 2 + x2.toNatClampNeg) m7 Q) ∧ (¬ (m7 (x0 + 2 + x2.toNatClampNeg) 2) = 0 → ((¬ (m7 (x0 + 2 + x2.toNatClampNeg) 2) = (40 : Int32) → (∀ v13 : Int32, v13 = x2 + (1 : Int32) → X2 (v13, m7))) ∧ ((m7 (x0 + 2 + x2.toNatClampNeg) 2) = (40 : Int32) → B_X0_goOn_58 q0 X2 x0 x2 (x0 + 2 + x2.toNatClampNeg) m7 Q))))))))))))) z.1 z.2) (x2, mem)
set_option maxRecDepth 4000 in
theorem gB_X0_goOn_2 {sx : Nat × (Nat → Int32)} {rf : RFt} {Q : MMt → Prop} (q0 : Nat) (hq0 : IS 0 q0) (hrf : RFok rf) (x0 : Nat) (x2 : Int32) (hx0 : IS 0 x0) (mem : MMt) (h : B_X0_goOn_2 q0 x0 x2 mem Q) : G sx yX0_goOn cX0_goOn 6 none 5 NX NX (QQv (RFok) Q) NX rf mem 2 [some (.ref x0), some (.ref 11), some (.int x2), none, none, none] [] := by
  obtain ⟨I, ⟨n, h0⟩, hI⟩ := h
  have key : ∀ (n : Nat) (rf : RFt) (x2 : Int32) (mem : MMt), RFok rf → I n (x2, mem) → G sx yX0_goOn cX0_goOn 6 none 5 NX NX (QQv (RFok) Q) NX rf mem 2 [some (.ref x0), some (.ref 11), some (.int x2), none, none, none] [] := by
    intro n
    induction n using Nat.strongRecOn with
    | _ n ih =>
    intro rf x2 mem hrf h0
    have hX2 : ∀ (rf : RFt) (x2 : Int32) (mem : MMt), RFok rf → (fun s' => ∃ m, m < n ∧ I m s') (x2, mem) → G sx yX0_goOn cX0_goOn 6 none 5 NX NX (QQv (RFok) Q) NX rf mem 2 [some (.ref x0), some (.ref 11), some (.int x2), none, none, none] [] := fun rf x2 mem hrf ⟨m, hm, hi⟩ => ih m hm rf x2 mem hrf hi
    have h := hI n _ h0
    clear ih h0
    try dsimp only at h
    refine G_iload_n (i := 2) pX0_goOn_2 rfl rfl ?_
    refine G_aload_n (i := 0) pX0_goOn_3 rfl rfl ?_
    refine G_getI (ci := 0) (j := 1) (N := 4) pX0_goOn_4 fl_RX0_18 rfl hx0.2 hx0.sh0 (by decide) rfl ?_
    refine G_icmp_ge pX0_goOn_7 (fun c1 => ?_) (fun c1 => ?_)
    · have h := h.1 c1
      refine G_aload_n (i := 0) pX0_goOn_111 rfl rfl ?_
      refine G_dup pX0_goOn_112 rfl ?_
      refine G_getI (ci := 0) (j := 2) (N := 4) pX0_goOn_113 fl_RX0_22 rfl hx0.2 hx0.sh0 (by decide) rfl ?_
      refine G_iconst pX0_goOn_116 ic_1 ?_
      refine G_iadd pX0_goOn_117 ?_
      obtain ⟨m2, em2⟩ : ∃ z : MMt, z = up2 mem x0 2 ((mem x0 2) + (1 : Int32)) := ⟨_, rfl⟩
      have h := h m2 em2
      refine G_putIW (ci := 0) (j := 2) (N := 4) pX0_goOn_118 fw_RX0_22 rfl hx0.2 hx0.sh0 (by decide) rfl (fun _ => ⟨rfl, rfl⟩) em2.symm ?_
      exact G_return (len := 1) pX0_goOn_121 ⟨hrf, rfl, h⟩ rfl
    · have h := h.2 c1
      refine G_aload_n (i := 0) pX0_goOn_10 rfl rfl ?_
      refine G_getR (ci := 0) (j := 0) (N := 4) pX0_goOn_11 fl_RX0_11 rfl hx0.2 hx0.sh0 (by decide) rfl ((lay_0_0 hx0).2.2 hrf) ?_
      refine G_iload_n (i := 2) pX0_goOn_14 rfl rfl ?_
      obtain ⟨hi3, h⟩ := h
      refine G_aald pX0_goOn_15 (lay_0_0 hx0).2.1 (lay_0_0 hx0).1 (by decide) hi3 (gd_rf hx0 hrf hi3) ?_
      refine G_astore_n (i := 3) (L' := [some (.ref x0), some (.ref 11), some (.int x2), some (.ref (x0 + 2 + x2.toNatClampNeg)), none, none]) pX0_goOn_16 rfl rfl ?_
      refine G_aload_n (i := 3) pX0_goOn_17 rfl rfl ?_
      refine G_getI (ci := 1) (j := 2) (N := 5) pX0_goOn_18 fl_RX0_32 rfl (gd_in hx0 hi3).2 (gd_in hx0 hi3).sh1 (by decide) rfl ?_
      obtain ⟨v4, e4⟩ : ∃ z : Int32, z = mem (x0 + 2 + x2.toNatClampNeg) 2 := ⟨_, rfl⟩
      have h := h v4 e4
      refine G_istoreW (L' := [some (.ref x0), some (.ref 11), some (.int x2), some (.ref (x0 + 2 + x2.toNatClampNeg)), some (.int v4), none]) pX0_goOn_21 e4.symm rfl ?_
      refine G_aload_n (i := 3) pX0_goOn_23 rfl rfl ?_
      refine G_aload_n (i := 1) pX0_goOn_24 rfl rfl ?_
      refine G_aload_n (i := 3) pX0_goOn_25 rfl rfl ?_
      refine G_callV1i (b := 11) (ci := 5) (N := 10) pX0_goOn_26 (g_X5_pullOf (x0 + 2 + x2.toNatClampNeg) (gd_in hx0 hi3) hrf _ h) mV_X5_pullOf ml_RX0_35 (by decide) ⟨Nat.le_refl _, Nat.le_refl _, Nat.le_refl _⟩ (Nat.le_of_ble_eq_true rfl) ltk_11 shk_11 rfl ?_
      intro r6 rf m5 hrf h hr6
      refine G_callV1i (b := x0 + 2 + x2.toNatClampNeg) (ci := 1) (N := 5) pX0_goOn_29 (g_X1_stride (x0 + 2 + x2.toNatClampNeg) r6 (gd_in hx0 hi3) hrf _ h) mV_X1_stride ml_RX0_41 (by decide) ⟨Nat.le_refl _, Nat.le_refl _, Nat.le_refl _⟩ (Nat.le_of_ble_eq_true rfl) (gd_in hx0 hi3).2 (gd_in hx0 hi3).sh1 rfl ?_
      intro r8 rf m7 hrf h hr8
      refine G_pop pX0_goOn_32 rfl ?_
      refine G_aload_n (i := 3) pX0_goOn_33 rfl rfl ?_
      refine G_getI (ci := 1) (j := 2) (N := 5) pX0_goOn_34 fl_RX0_32 rfl (gd_in hx0 hi3).2 (gd_in hx0 hi3).sh1 (by decide) rfl ?_
      refine G_iload (i := 4) pX0_goOn_37 rfl ?_
      refine G_icmp_eq pX0_goOn_39 (fun c9 => ?_) (fun c9 => ?_)
      · have h := h.1 c9
        obtain ⟨v10, e10⟩ : ∃ z : Int32, z = x2 + (1 : Int32) := ⟨_, rfl⟩
        have h := h v10 e10
        refine G_iincW (L' := [some (.ref x0), some (.ref 11), some (.int v10), some (.ref (x0 + 2 + x2.toNatClampNeg)), some (.int v4), none]) pX0_goOn_105 rfl ic_1 e10.symm rfl ?_
        refine G_goto pX0_goOn_108 ?_
        refine G_wk (L2 := [some (.ref x0), some (.ref 11), some (.int v10), none, none, none]) ⟨Or.inr rfl, Or.inr rfl, Or.inr rfl, Or.inl rfl, Or.inl rfl, Or.inr rfl, trivial⟩ ?_
        exact hX2 _ _ _ hrf h
      · have h := h.2 c9
        refine G_aload_n (i := 3) pX0_goOn_42 rfl rfl ?_
        refine G_getI (ci := 1) (j := 2) (N := 5) pX0_goOn_43 fl_RX0_32 rfl (gd_in hx0 hi3).2 (gd_in hx0 hi3).sh1 (by decide) rfl ?_
        refine G_if_eq pX0_goOn_46 (fun c11 => ?_) (fun c11 => ?_)
        · have h := h.1 c11
          refine G_wk (L2 := [some (.ref x0), some (.ref 11), some (.int x2), some (.ref (x0 + 2 + x2.toNatClampNeg)), none, none]) ⟨Or.inr rfl, Or.inr rfl, Or.inr rfl, Or.inr rfl, Or.inl rfl, Or.inr rfl, trivial⟩ ?_
          exact gB_X0_goOn_58 q0 hq0 hrf x0 x2 (x0 + 2 + x2.toNatClampNeg) hx0 (gd_in hx0 hi3) hX2 _ h
        · have h := h.2 c11
          refine G_aload_n (i := 3) pX0_goOn_49 rfl rfl ?_
          refine G_getI (ci := 1) (j := 2) (N := 5) pX0_goOn_50 fl_RX0_32 rfl (gd_in hx0 hi3).2 (gd_in hx0 hi3).sh1 (by decide) rfl ?_
          refine G_bipush pX0_goOn_53 bi_40 ?_
          refine G_icmp_ne pX0_goOn_55 (fun c12 => ?_) (fun c12 => ?_)
          · have h := h.1 c12
            obtain ⟨v13, e13⟩ : ∃ z : Int32, z = x2 + (1 : Int32) := ⟨_, rfl⟩
            have h := h v13 e13
            refine G_iincW (L' := [some (.ref x0), some (.ref 11), some (.int v13), some (.ref (x0 + 2 + x2.toNatClampNeg)), some (.int v4), none]) pX0_goOn_105 rfl ic_1 e13.symm rfl ?_
            refine G_goto pX0_goOn_108 ?_
            refine G_wk (L2 := [some (.ref x0), some (.ref 11), some (.int v13), none, none, none]) ⟨Or.inr rfl, Or.inr rfl, Or.inr rfl, Or.inl rfl, Or.inl rfl, Or.inr rfl, trivial⟩ ?_
            exact hX2 _ _ _ hrf h
          · have h := h.2 c12
            refine G_wk (L2 := [some (.ref x0), some (.ref 11), some (.int x2), some (.ref (x0 + 2 + x2.toNatClampNeg)), none, none]) ⟨Or.inr rfl, Or.inr rfl, Or.inr rfl, Or.inr rfl, Or.inl rfl, Or.inr rfl, trivial⟩ ?_
            exact gB_X0_goOn_58 q0 hq0 hrf x0 x2 (x0 + 2 + x2.toNatClampNeg) hx0 (gd_in hx0 hi3) hX2 _ h
  exact key n rf _ _ hrf h0
def L_X0_goOn (q0 : Nat) (mem : MMt) (Q : MMt → Prop) : Prop := B_X0_goOn_2 q0 q0 (0 : Int32) mem Q
set_option maxRecDepth 4000 in
theorem g_X0_goOn {sx : Nat × (Nat → Int32)} {rf : RFt} {Q : MMt → Prop} (q0 : Nat) (hq0 : IS 0 q0) (hrf : RFok rf) (mem : MMt) (h : L_X0_goOn q0 mem Q) : Ct sx yX0_goOn cX0_goOn 6 none 5 [.ref q0, .ref 11] NX NX rf mem (QQv (RFok) Q) := by
  refine Ct_of [some (.ref q0), some (.ref 11), none, none, none, none] (by decide +kernel) (by simp [Lof, Value.category]) rfl ?_
  unfold L_X0_goOn at h
  refine G_iconst pX0_goOn_0 ic_0 ?_
  refine G_istore_n (i := 2) (L' := [some (.ref q0), some (.ref 11), some (.int (0 : Int32)), none, none, none]) pX0_goOn_1 rfl rfl ?_
  exact gB_X0_goOn_2 q0 hq0 hrf q0 (0 : Int32) hq0 _ h
def B_X9_howManyRest_40 (X4 : Int32 × Int32 × MMt → Prop) (x2 : Int32) (s0 : Int32) (s1 : Int32) (mem : MMt) (Q : Int32 → MMt → Prop) : Prop := (∀ v1 : Int32, v1 = s1 + s0 → (∀ v2 : Int32, v2 = x2 + (1 : Int32) → X4 (v1, v2, mem)))
set_option maxRecDepth 4000 in
theorem gB_X9_howManyRest_40 {sx : Nat × (Nat → Int32)} {X4 : Int32 × Int32 × MMt → Prop} {rf : RFt} {Q : Int32 → MMt → Prop} (hrf : RFok rf) (x2 : Int32) (s0 : Int32) (s1 : Int32) (hX4 : ∀ (rf : RFt) (x1 : Int32) (x2 : Int32) (mem : MMt), RFok rf → X4 (x1, x2, mem) → G sx yX9_howManyRest cX9_howManyRest 3 (some .int) 7 NX NX (QQi (RFok) Q) NX rf mem 4 [some (.ref 0), some (.int x1), some (.int x2)] []) (mem : MMt) (h : B_X9_howManyRest_40 X4 x2 s0 s1 mem Q) : G sx yX9_howManyRest cX9_howManyRest 3 (some .int) 7 NX NX (QQi (RFok) Q) NX rf mem 40 [some (.ref 0), none, some (.int x2)] [.int s0, .int s1] := by
  unfold B_X9_howManyRest_40 at h
  refine G_iadd pX9_howManyRest_40 ?_
  obtain ⟨v1, e1⟩ : ∃ z : Int32, z = s1 + s0 := ⟨_, rfl⟩
  have h := h v1 e1
  refine G_istore_nW (L' := [some (.ref 0), some (.int v1), some (.int x2)]) pX9_howManyRest_41 rfl e1.symm rfl ?_
  obtain ⟨v2, e2⟩ : ∃ z : Int32, z = x2 + (1 : Int32) := ⟨_, rfl⟩
  have h := h v2 e2
  refine G_iincW (L' := [some (.ref 0), some (.int v1), some (.int v2)]) pX9_howManyRest_42 rfl ic_1 e2.symm rfl ?_
  refine G_goto pX9_howManyRest_45 ?_
  exact hX4 _ _ _ _ hrf h
def B_X9_howManyRest_4 (x1 : Int32) (x2 : Int32) (mem : MMt) (Q : Int32 → MMt → Prop) : Prop := LOOP (σ := Int32 × Int32 × MMt) (fun X4 z => (fun (x1 : Int32) (x2 : Int32) (mem : MMt) => (((mem 1 1) ≤ x2 → Q x1 mem) ∧ (¬ (mem 1 1) ≤ x2 → (vp_in x2 8 ∧ L_X7_stays (1 + 2 + x2.toNatClampNeg) mem (fun r4 m3 => ((r4 = 0 → B_X9_howManyRest_40 X4 x2 (0 : Int32) x1 m3 Q) ∧ (¬ r4 = 0 → B_X9_howManyRest_40 X4 x2 (1 : Int32) x1 m3 Q))))))) z.1 z.2.1 z.2.2) (x1, x2, mem)
set_option maxRecDepth 4000 in
theorem gB_X9_howManyRest_4 {sx : Nat × (Nat → Int32)} {rf : RFt} {Q : Int32 → MMt → Prop} (hrf : RFok rf) (x1 : Int32) (x2 : Int32) (mem : MMt) (h : B_X9_howManyRest_4 x1 x2 mem Q) : G sx yX9_howManyRest cX9_howManyRest 3 (some .int) 7 NX NX (QQi (RFok) Q) NX rf mem 4 [some (.ref 0), some (.int x1), some (.int x2)] [] := by
  obtain ⟨I, ⟨n, h0⟩, hI⟩ := h
  have key : ∀ (n : Nat) (rf : RFt) (x1 : Int32) (x2 : Int32) (mem : MMt), RFok rf → I n (x1, x2, mem) → G sx yX9_howManyRest cX9_howManyRest 3 (some .int) 7 NX NX (QQi (RFok) Q) NX rf mem 4 [some (.ref 0), some (.int x1), some (.int x2)] [] := by
    intro n
    induction n using Nat.strongRecOn with
    | _ n ih =>
    intro rf x1 x2 mem hrf h0
    have hX4 : ∀ (rf : RFt) (x1 : Int32) (x2 : Int32) (mem : MMt), RFok rf → (fun s' => ∃ m, m < n ∧ I m s') (x1, x2, mem) → G sx yX9_howManyRest cX9_howManyRest 3 (some .int) 7 NX NX (QQi (RFok) Q) NX rf mem 4 [some (.ref 0), some (.int x1), some (.int x2)] [] := fun rf x1 x2 mem hrf ⟨m, hm, hi⟩ => ih m hm rf x1 x2 mem hrf hi
    have h := hI n _ h0
    clear ih h0
    try dsimp only at h
    refine G_iload_n (i := 2) pX9_howManyRest_4 rfl rfl ?_
    refine G_aload_n (i := 0) pX9_howManyRest_5 rfl rfl ?_
    refine G_getR (ci := 9) (j := 0) (N := 12) pX9_howManyRest_6 fl_RX9_10 rfl ltk_0 shk_0 (by decide) rfl (hrf.lit 0 0 rfl) ?_
    refine G_getI (ci := 0) (j := 1) (N := 4) pX9_howManyRest_9 fl_RX9_84 rfl ltk_1 shk_1 (by decide) rfl ?_
    refine G_icmp_ge pX9_howManyRest_12 (fun c1 => ?_) (fun c1 => ?_)
    · have h := h.1 c1
      refine G_iload_n (i := 1) pX9_howManyRest_48 rfl rfl ?_
      exact G_ireturn (len := 1) pX9_howManyRest_49 ⟨hrf, _, rfl, h⟩ ⟨_, rfl, rfl⟩
    · have h := h.2 c1
      refine G_iload_n (i := 1) pX9_howManyRest_15 rfl rfl ?_
      refine G_aload_n (i := 0) pX9_howManyRest_16 rfl rfl ?_
      refine G_getR (ci := 9) (j := 5) (N := 12) pX9_howManyRest_17 fl_RX9_37 rfl ltk_0 shk_0 (by decide) rfl (hrf.lit 0 5 rfl) ?_
      refine G_aload_n (i := 0) pX9_howManyRest_20 rfl rfl ?_
      refine G_getR (ci := 9) (j := 0) (N := 12) pX9_howManyRest_21 fl_RX9_10 rfl ltk_0 shk_0 (by decide) rfl (hrf.lit 0 0 rfl) ?_
      refine G_getR (ci := 0) (j := 0) (N := 4) pX9_howManyRest_24 fl_RX9_88 rfl ltk_1 shk_1 (by decide) rfl (hrf.lit 1 0 rfl) ?_
      refine G_iload_n (i := 2) pX9_howManyRest_27 rfl rfl ?_
      obtain ⟨hi2, h⟩ := h
      refine G_aald pX9_howManyRest_28 ltk_2 shk_2 (by decide) hi2 (gd_rf (IS_lit shk_1 ltk_1) hrf hi2) ?_
      refine G_callV1i (b := 53) (ci := 7) (N := 2) pX9_howManyRest_29 (g_X7_stays (1 + 2 + x2.toNatClampNeg) (gd_in (IS_lit shk_1 ltk_1) hi2) hrf _ h) mV_X7_stays ml_RX9_140 (by decide) ⟨Nat.le_refl _, Nat.le_refl _, Nat.le_refl _⟩ (Nat.le_of_ble_eq_true rfl) ltk_53 shk_53 rfl ?_
      intro r4 rf m3 hrf h hr4
      refine G_if_eq pX9_howManyRest_32 (fun c5 => ?_) (fun c5 => ?_)
      · have h := h.1 c5
        refine G_iconst pX9_howManyRest_39 ic_0 ?_
        refine G_wk (L2 := [some (.ref 0), none, some (.int x2)]) ⟨Or.inr rfl, Or.inl rfl, Or.inr rfl, trivial⟩ ?_
        exact gB_X9_howManyRest_40 hrf x2 (0 : Int32) x1 hX4 _ h
      · have h := h.2 c5
        refine G_iconst pX9_howManyRest_35 ic_1 ?_
        refine G_goto pX9_howManyRest_36 ?_
        refine G_wk (L2 := [some (.ref 0), none, some (.int x2)]) ⟨Or.inr rfl, Or.inl rfl, Or.inr rfl, trivial⟩ ?_
        exact gB_X9_howManyRest_40 hrf x2 (1 : Int32) x1 hX4 _ h
  exact key n rf _ _ _ hrf h0
def L_X9_howManyRest (mem : MMt) (Q : Int32 → MMt → Prop) : Prop := B_X9_howManyRest_4 (0 : Int32) (0 : Int32) mem Q
set_option maxRecDepth 4000 in
theorem g_X9_howManyRest {sx : Nat × (Nat → Int32)} {rf : RFt} {Q : Int32 → MMt → Prop} (hrf : RFok rf) (mem : MMt) (h : L_X9_howManyRest mem Q) : Ct sx yX9_howManyRest cX9_howManyRest 3 (some .int) 7 [.ref 0] NX NX rf mem (QQi (RFok) Q) := by
  refine Ct_of [some (.ref 0), none, none] (by decide +kernel) (by simp [Lof, Value.category]) rfl ?_
  unfold L_X9_howManyRest at h
  refine G_iconst pX9_howManyRest_0 ic_0 ?_
  refine G_istore_n (i := 1) (L' := [some (.ref 0), some (.int (0 : Int32)), none]) pX9_howManyRest_1 rfl rfl ?_
  refine G_iconst pX9_howManyRest_2 ic_0 ?_
  refine G_istore_n (i := 2) (L' := [some (.ref 0), some (.int (0 : Int32)), some (.int (0 : Int32))]) pX9_howManyRest_3 rfl rfl ?_
  exact gB_X9_howManyRest_4 hrf (0 : Int32) (0 : Int32) _ h
def B_X9_steps_40 (x1 : Int32) (x2 : Int32) (mem : MMt) (Q : Int32 → MMt → Prop) : Prop := LOOP (σ := Int32 × MMt) (fun X40 z => (fun (x2 : Int32) (mem : MMt) => ((x1 ≤ x2 → L_X9_howManyRest mem (fun r3 m2 => Q r3 m2)) ∧ (¬ x1 ≤ x2 → L_X0_goOn 1 mem (fun m4 => (∀ v5 : Int32, v5 = x2 + (1 : Int32) → X40 (v5, m4)))))) z.1 z.2) (x2, mem)
set_option maxRecDepth 4000 in
theorem gB_X9_steps_40 {sx : Nat × (Nat → Int32)} {rf : RFt} {Q : Int32 → MMt → Prop} (hrf : RFok rf) (x1 : Int32) (x2 : Int32) (mem : MMt) (h : B_X9_steps_40 x1 x2 mem Q) : G sx yX9_steps cX9_steps 3 (some .int) 8 NX NX (QQi (RFok) Q) NX rf mem 40 [some (.ref 0), some (.int x1), some (.int x2)] [] := by
  obtain ⟨I, ⟨n, h0⟩, hI⟩ := h
  have key : ∀ (n : Nat) (rf : RFt) (x2 : Int32) (mem : MMt), RFok rf → I n (x2, mem) → G sx yX9_steps cX9_steps 3 (some .int) 8 NX NX (QQi (RFok) Q) NX rf mem 40 [some (.ref 0), some (.int x1), some (.int x2)] [] := by
    intro n
    induction n using Nat.strongRecOn with
    | _ n ih =>
    intro rf x2 mem hrf h0
    have hX40 : ∀ (rf : RFt) (x2 : Int32) (mem : MMt), RFok rf → (fun s' => ∃ m, m < n ∧ I m s') (x2, mem) → G sx yX9_steps cX9_steps 3 (some .int) 8 NX NX (QQi (RFok) Q) NX rf mem 40 [some (.ref 0), some (.int x1), some (.int x2)] [] := fun rf x2 mem hrf ⟨m, hm, hi⟩ => ih m hm rf x2 mem hrf hi
    have h := hI n _ h0
    clear ih h0
    try dsimp only at h
    refine G_iload_n (i := 2) pX9_steps_40 rfl rfl ?_
    refine G_iload_n (i := 1) pX9_steps_41 rfl rfl ?_
    refine G_icmp_ge pX9_steps_42 (fun c1 => ?_) (fun c1 => ?_)
    · have h := h.1 c1
      refine G_aload_n (i := 0) pX9_steps_62 rfl rfl ?_
      refine G_callV0i (b := 0) (ci := 9) (N := 12) pX9_steps_63 (g_X9_howManyRest hrf _ h) mV_X9_howManyRest ml_RX9_210 (by decide) ⟨Nat.le_refl _, Nat.le_refl _, Nat.le_refl _⟩ (Nat.le_of_ble_eq_true rfl) ltk_0 shk_0 rfl ?_
      intro r3 rf m2 hrf h hr3
      exact G_ireturn (len := 1) pX9_steps_66 ⟨hrf, _, rfl, h⟩ ⟨_, rfl, rfl⟩
    · have h := h.2 c1
      refine G_aload_n (i := 0) pX9_steps_45 rfl rfl ?_
      refine G_getR (ci := 9) (j := 0) (N := 12) pX9_steps_46 fl_RX9_10 rfl ltk_0 shk_0 (by decide) rfl (hrf.lit 0 0 rfl) ?_
      refine G_aload_n (i := 0) pX9_steps_49 rfl rfl ?_
      refine G_getR (ci := 9) (j := 1) (N := 12) pX9_steps_50 fl_RX9_19 rfl ltk_0 shk_0 (by decide) rfl (hrf.lit 0 1 rfl) ?_
      refine G_callV1v (b := 1) (ci := 0) (N := 4) pX9_steps_53 (g_X0_goOn 1 (IS_lit shk_1 ltk_1) hrf _ h) mV_X0_goOn ml_RX9_207 (by decide) ⟨Nat.le_refl _, Nat.le_refl _, Nat.le_refl _⟩ (Nat.le_of_ble_eq_true rfl) ltk_1 shk_1 rfl ?_
      intro rf m4 hrf h
      obtain ⟨v5, e5⟩ : ∃ z : Int32, z = x2 + (1 : Int32) := ⟨_, rfl⟩
      have h := h v5 e5
      refine G_iincW (L' := [some (.ref 0), some (.int x1), some (.int v5)]) pX9_steps_56 rfl ic_1 e5.symm rfl ?_
      refine G_goto pX9_steps_59 ?_
      exact hX40 _ _ _ hrf h
  exact key n rf _ _ hrf h0
def L_X9_steps (a1 : Int32) (mem : MMt) (Q : Int32 → MMt → Prop) : Prop := L_X9_within a1 (1 : Int32) (200 : Int32) mem (fun r2 m1 => ((¬ r2 = 0 → ((((m1 1 2) + a1) ≤ (9999 : Int32) → B_X9_steps_40 a1 (0 : Int32) m1 Q) ∧ (¬ ((m1 1 2) + a1) ≤ (9999 : Int32) → L_X9_error (3 : Int32) m1 (fun r6 m5 => Q r6 m5)))) ∧ (r2 = 0 → L_X9_error (1 : Int32) m1 (fun r8 m7 => Q r8 m7))))
set_option maxRecDepth 4000 in
theorem g_X9_steps {sx : Nat × (Nat → Int32)} {rf : RFt} {Q : Int32 → MMt → Prop} (a1 : Int32) (hrf : RFok rf) (mem : MMt) (h : L_X9_steps a1 mem Q) : Ct sx yX9_steps cX9_steps 3 (some .int) 8 [.ref 0, .int a1] NX NX rf mem (QQi (RFok) Q) := by
  refine Ct_of [some (.ref 0), some (.int a1), none] (by decide +kernel) (by simp [Lof, Value.category]) rfl ?_
  unfold L_X9_steps at h
  refine G_iload_n (i := 1) pX9_steps_0 rfl rfl ?_
  refine G_iconst pX9_steps_1 ic_1 ?_
  refine G_sipush pX9_steps_2 si_200 ?_
  refine G_callS3i pX9_steps_5 (g_X9_within a1 (1 : Int32) (200 : Int32) hrf _ h) mS_X9_within ml_RX9_104 (by decide) ⟨Nat.le_refl _, Nat.le_refl _, Nat.le_refl _⟩ (Nat.le_of_ble_eq_true rfl) ?_
  intro r2 rf m1 hrf h hr2
  refine G_if_ne pX9_steps_8 (fun c3 => ?_) (fun c3 => ?_)
  · have h := h.1 c3
    refine G_aload_n (i := 0) pX9_steps_17 rfl rfl ?_
    refine G_getR (ci := 9) (j := 0) (N := 12) pX9_steps_18 fl_RX9_10 rfl ltk_0 shk_0 (by decide) rfl (hrf.lit 0 0 rfl) ?_
    refine G_getI (ci := 0) (j := 2) (N := 4) pX9_steps_21 fl_RX9_166 rfl ltk_1 shk_1 (by decide) rfl ?_
    refine G_iload_n (i := 1) pX9_steps_24 rfl rfl ?_
    refine G_iadd pX9_steps_25 ?_
    refine G_sipush pX9_steps_26 si_9999 ?_
    refine G_icmp_le pX9_steps_29 (fun c4 => ?_) (fun c4 => ?_)
    · have h := h.1 c4
      refine G_iconst pX9_steps_38 ic_0 ?_
      refine G_istore_n (i := 2) (L' := [some (.ref 0), some (.int a1), some (.int (0 : Int32))]) pX9_steps_39 rfl rfl ?_
      exact gB_X9_steps_40 hrf a1 (0 : Int32) _ h
    · have h := h.2 c4
      refine G_aload_n (i := 0) pX9_steps_32 rfl rfl ?_
      refine G_iconst pX9_steps_33 ic_3 ?_
      refine G_callV1i (b := 0) (ci := 9) (N := 12) pX9_steps_34 (g_X9_error (3 : Int32) hrf _ h) mV_X9_error ml_RX9_80 (by decide) ⟨Nat.le_refl _, Nat.le_refl _, Nat.le_refl _⟩ (Nat.le_of_ble_eq_true rfl) ltk_0 shk_0 rfl ?_
      intro r6 rf m5 hrf h hr6
      exact G_ireturn (len := 1) pX9_steps_37 ⟨hrf, _, rfl, h⟩ ⟨_, rfl, rfl⟩
  · have h := h.2 c3
    refine G_aload_n (i := 0) pX9_steps_11 rfl rfl ?_
    refine G_iconst pX9_steps_12 ic_1 ?_
    refine G_callV1i (b := 0) (ci := 9) (N := 12) pX9_steps_13 (g_X9_error (1 : Int32) hrf _ h) mV_X9_error ml_RX9_80 (by decide) ⟨Nat.le_refl _, Nat.le_refl _, Nat.le_refl _⟩ (Nat.le_of_ble_eq_true rfl) ltk_0 shk_0 rfl ?_
    intro r8 rf m7 hrf h hr8
    exact G_ireturn (len := 1) pX9_steps_16 ⟨hrf, _, rfl, h⟩ ⟨_, rfl, rfl⟩
def L_X5_nextDraw (mem : MMt) (Q : Int32 → MMt → Prop) : Prop := (∀ m1 : MMt, m1 = up2 mem 11 2 (((mem 11 2) * (1103515245 : Int32)) + (12345 : Int32)) → Q (((m1 11 2).toUInt32 >>> ((8 : Int32).toUInt32 &&& Int32.toUInt32 31)).toInt32) m1)
set_option maxRecDepth 4000 in
theorem g_X5_nextDraw {sx : Nat × (Nat → Int32)} {M : RFt → Prop} {rf : RFt} {Q : Int32 → MMt → Prop} (hrf : M rf) (mem : MMt) (h : L_X5_nextDraw mem Q) : Ct sx yX5_nextDraw cX5_nextDraw 1 (some .int) 1 [.ref 11] NX NX rf mem (QQi (M) Q) := by
  refine Ct_of [some (.ref 11)] (by decide +kernel) (by simp [Lof, Value.category]) rfl ?_
  unfold L_X5_nextDraw at h
  refine G_aload_n (i := 0) pX5_nextDraw_0 rfl rfl ?_
  refine G_aload_n (i := 0) pX5_nextDraw_1 rfl rfl ?_
  refine G_getI (ci := 5) (j := 2) (N := 10) pX5_nextDraw_2 fl_RX5_19 rfl ltk_11 shk_11 (by decide) rfl ?_
  refine G_ldc pX5_nextDraw_5 rfl wc_RX5_97 ?_
  refine G_imul pX5_nextDraw_7 ?_
  refine G_sipush pX5_nextDraw_8 si_12345 ?_
  refine G_iadd pX5_nextDraw_11 ?_
  obtain ⟨m1, em1⟩ : ∃ z : MMt, z = up2 mem 11 2 (((mem 11 2) * (1103515245 : Int32)) + (12345 : Int32)) := ⟨_, rfl⟩
  have h := h m1 em1
  refine G_putIW (ci := 5) (j := 2) (N := 10) pX5_nextDraw_12 fw_RX5_19 rfl ltk_11 shk_11 (by decide) rfl (fun _ => ⟨rfl, rfl⟩) em1.symm ?_
  refine G_aload_n (i := 0) pX5_nextDraw_15 rfl rfl ?_
  refine G_getI (ci := 5) (j := 2) (N := 10) pX5_nextDraw_16 fl_RX5_19 rfl ltk_11 shk_11 (by decide) rfl ?_
  refine G_bipush pX5_nextDraw_19 bi_8 ?_
  refine G_iushr pX5_nextDraw_21 ?_
  exact G_ireturn (len := 1) pX5_nextDraw_22 ⟨hrf, _, rfl, h⟩ ⟨_, rfl, rfl⟩
def B_X0_quake_2 (q0 : Nat) (x0 : Nat) (x2 : Int32) (mem : MMt) (Q : MMt → Prop) : Prop := LOOP (σ := Int32 × MMt) (fun X2 z => (fun (x2 : Int32) (mem : MMt) => (((mem x0 1) ≤ x2 → Q mem) ∧ (¬ (mem x0 1) ≤ x2 → (vp_in x2 8 ∧ L_X5_nextDraw mem (fun r4 m3 => L_X1_shove (x0 + 2 + x2.toNatClampNeg) ((r4 - r4 / (3 : Int32) * (3 : Int32)) - (1 : Int32)) m3 (fun m5 => (∀ v6 : Int32, v6 = x2 + (1 : Int32) → X2 (v6, m5)))))))) z.1 z.2) (x2, mem)
set_option maxRecDepth 4000 in
theorem gB_X0_quake_2 {sx : Nat × (Nat → Int32)} {rf : RFt} {Q : MMt → Prop} (q0 : Nat) (hq0 : IS 0 q0) (hrf : RFok rf) (x0 : Nat) (x2 : Int32) (hx0 : IS 0 x0) (mem : MMt) (h : B_X0_quake_2 q0 x0 x2 mem Q) : G sx yX0_quake cX0_quake 3 none 4 NX NX (QQv (RFok) Q) NX rf mem 2 [some (.ref x0), some (.ref 11), some (.int x2)] [] := by
  obtain ⟨I, ⟨n, h0⟩, hI⟩ := h
  have key : ∀ (n : Nat) (rf : RFt) (x2 : Int32) (mem : MMt), RFok rf → I n (x2, mem) → G sx yX0_quake cX0_quake 3 none 4 NX NX (QQv (RFok) Q) NX rf mem 2 [some (.ref x0), some (.ref 11), some (.int x2)] [] := by
    intro n
    induction n using Nat.strongRecOn with
    | _ n ih =>
    intro rf x2 mem hrf h0
    have hX2 : ∀ (rf : RFt) (x2 : Int32) (mem : MMt), RFok rf → (fun s' => ∃ m, m < n ∧ I m s') (x2, mem) → G sx yX0_quake cX0_quake 3 none 4 NX NX (QQv (RFok) Q) NX rf mem 2 [some (.ref x0), some (.ref 11), some (.int x2)] [] := fun rf x2 mem hrf ⟨m, hm, hi⟩ => ih m hm rf x2 mem hrf hi
    have h := hI n _ h0
    clear ih h0
    try dsimp only at h
    refine G_iload_n (i := 2) pX0_quake_2 rfl rfl ?_
    refine G_aload_n (i := 0) pX0_quake_3 rfl rfl ?_
    refine G_getI (ci := 0) (j := 1) (N := 4) pX0_quake_4 fl_RX0_18 rfl hx0.2 hx0.sh0 (by decide) rfl ?_
    refine G_icmp_ge pX0_quake_7 (fun c1 => ?_) (fun c1 => ?_)
    · have h := h.1 c1
      exact G_return (len := 1) pX0_quake_33 ⟨hrf, rfl, h⟩ rfl
    · have h := h.2 c1
      refine G_aload_n (i := 0) pX0_quake_10 rfl rfl ?_
      refine G_getR (ci := 0) (j := 0) (N := 4) pX0_quake_11 fl_RX0_11 rfl hx0.2 hx0.sh0 (by decide) rfl ((lay_0_0 hx0).2.2 hrf) ?_
      refine G_iload_n (i := 2) pX0_quake_14 rfl rfl ?_
      obtain ⟨hi2, h⟩ := h
      refine G_aald pX0_quake_15 (lay_0_0 hx0).2.1 (lay_0_0 hx0).1 (by decide) hi2 (gd_rf hx0 hrf hi2) ?_
      refine G_aload_n (i := 1) pX0_quake_16 rfl rfl ?_
      refine G_callV0i (b := 11) (ci := 5) (N := 10) pX0_quake_17 (g_X5_nextDraw hrf _ h) mV_X5_nextDraw ml_RX0_64 (by decide) ⟨Nat.le_refl _, Nat.le_refl _, Nat.le_refl _⟩ (Nat.le_of_ble_eq_true rfl) ltk_11 shk_11 rfl ?_
      intro r4 rf m3 hrf h hr4
      refine G_iconst pX0_quake_20 ic_3 ?_
      refine G_irem pX0_quake_21 (by decide) ?_
      refine G_iconst pX0_quake_22 ic_1 ?_
      refine G_isub pX0_quake_23 ?_
      refine G_callV1v (b := x0 + 2 + x2.toNatClampNeg) (ci := 1) (N := 5) pX0_quake_24 (g_X1_shove (x0 + 2 + x2.toNatClampNeg) ((r4 - r4 / (3 : Int32) * (3 : Int32)) - (1 : Int32)) (gd_in hx0 hi2) hrf _ h) mV_X1_shove ml_RX0_67 (by decide) ⟨Nat.le_refl _, Nat.le_refl _, Nat.le_refl _⟩ (Nat.le_of_ble_eq_true rfl) (gd_in hx0 hi2).2 (gd_in hx0 hi2).sh1 rfl ?_
      intro rf m5 hrf h
      obtain ⟨v6, e6⟩ : ∃ z : Int32, z = x2 + (1 : Int32) := ⟨_, rfl⟩
      have h := h v6 e6
      refine G_iincW (L' := [some (.ref x0), some (.ref 11), some (.int v6)]) pX0_quake_27 rfl ic_1 e6.symm rfl ?_
      refine G_goto pX0_quake_30 ?_
      exact hX2 _ _ _ hrf h
  exact key n rf _ _ hrf h0
def L_X0_quake (q0 : Nat) (mem : MMt) (Q : MMt → Prop) : Prop := B_X0_quake_2 q0 q0 (0 : Int32) mem Q
set_option maxRecDepth 4000 in
theorem g_X0_quake {sx : Nat × (Nat → Int32)} {rf : RFt} {Q : MMt → Prop} (q0 : Nat) (hq0 : IS 0 q0) (hrf : RFok rf) (mem : MMt) (h : L_X0_quake q0 mem Q) : Ct sx yX0_quake cX0_quake 3 none 4 [.ref q0, .ref 11] NX NX rf mem (QQv (RFok) Q) := by
  refine Ct_of [some (.ref q0), some (.ref 11), none] (by decide +kernel) (by simp [Lof, Value.category]) rfl ?_
  unfold L_X0_quake at h
  refine G_iconst pX0_quake_0 ic_0 ?_
  refine G_istore_n (i := 2) (L' := [some (.ref q0), some (.ref 11), some (.int (0 : Int32))]) pX0_quake_1 rfl rfl ?_
  exact gB_X0_quake_2 q0 hq0 hrf q0 (0 : Int32) hq0 _ h
def B_X9_loose_40 (x1 : Int32) (x2 : Int32) (mem : MMt) (Q : Int32 → MMt → Prop) : Prop := LOOP (σ := Int32 × MMt) (fun X40 z => (fun (x2 : Int32) (mem : MMt) => ((x1 ≤ x2 → L_X9_howManyRest mem (fun r3 m2 => Q r3 m2)) ∧ (¬ x1 ≤ x2 → L_X0_quake 1 mem (fun m4 => L_X0_goOn 1 m4 (fun m5 => (∀ v6 : Int32, v6 = x2 + (1 : Int32) → X40 (v6, m5))))))) z.1 z.2) (x2, mem)
set_option maxRecDepth 4000 in
theorem gB_X9_loose_40 {sx : Nat × (Nat → Int32)} {rf : RFt} {Q : Int32 → MMt → Prop} (hrf : RFok rf) (x1 : Int32) (x2 : Int32) (mem : MMt) (h : B_X9_loose_40 x1 x2 mem Q) : G sx yX9_loose cX9_loose 3 (some .int) 8 NX NX (QQi (RFok) Q) NX rf mem 40 [some (.ref 0), some (.int x1), some (.int x2)] [] := by
  obtain ⟨I, ⟨n, h0⟩, hI⟩ := h
  have key : ∀ (n : Nat) (rf : RFt) (x2 : Int32) (mem : MMt), RFok rf → I n (x2, mem) → G sx yX9_loose cX9_loose 3 (some .int) 8 NX NX (QQi (RFok) Q) NX rf mem 40 [some (.ref 0), some (.int x1), some (.int x2)] [] := by
    intro n
    induction n using Nat.strongRecOn with
    | _ n ih =>
    intro rf x2 mem hrf h0
    have hX40 : ∀ (rf : RFt) (x2 : Int32) (mem : MMt), RFok rf → (fun s' => ∃ m, m < n ∧ I m s') (x2, mem) → G sx yX9_loose cX9_loose 3 (some .int) 8 NX NX (QQi (RFok) Q) NX rf mem 40 [some (.ref 0), some (.int x1), some (.int x2)] [] := fun rf x2 mem hrf ⟨m, hm, hi⟩ => ih m hm rf x2 mem hrf hi
    have h := hI n _ h0
    clear ih h0
    try dsimp only at h
    refine G_iload_n (i := 2) pX9_loose_40 rfl rfl ?_
    refine G_iload_n (i := 1) pX9_loose_41 rfl rfl ?_
    refine G_icmp_ge pX9_loose_42 (fun c1 => ?_) (fun c1 => ?_)
    · have h := h.1 c1
      refine G_aload_n (i := 0) pX9_loose_73 rfl rfl ?_
      refine G_callV0i (b := 0) (ci := 9) (N := 12) pX9_loose_74 (g_X9_howManyRest hrf _ h) mV_X9_howManyRest ml_RX9_210 (by decide) ⟨Nat.le_refl _, Nat.le_refl _, Nat.le_refl _⟩ (Nat.le_of_ble_eq_true rfl) ltk_0 shk_0 rfl ?_
      intro r3 rf m2 hrf h hr3
      exact G_ireturn (len := 1) pX9_loose_77 ⟨hrf, _, rfl, h⟩ ⟨_, rfl, rfl⟩
    · have h := h.2 c1
      refine G_aload_n (i := 0) pX9_loose_45 rfl rfl ?_
      refine G_getR (ci := 9) (j := 0) (N := 12) pX9_loose_46 fl_RX9_10 rfl ltk_0 shk_0 (by decide) rfl (hrf.lit 0 0 rfl) ?_
      refine G_aload_n (i := 0) pX9_loose_49 rfl rfl ?_
      refine G_getR (ci := 9) (j := 1) (N := 12) pX9_loose_50 fl_RX9_19 rfl ltk_0 shk_0 (by decide) rfl (hrf.lit 0 1 rfl) ?_
      refine G_callV1v (b := 1) (ci := 0) (N := 4) pX9_loose_53 (g_X0_quake 1 (IS_lit shk_1 ltk_1) hrf _ h) mV_X0_quake ml_RX9_213 (by decide) ⟨Nat.le_refl _, Nat.le_refl _, Nat.le_refl _⟩ (Nat.le_of_ble_eq_true rfl) ltk_1 shk_1 rfl ?_
      intro rf m4 hrf h
      refine G_aload_n (i := 0) pX9_loose_56 rfl rfl ?_
      refine G_getR (ci := 9) (j := 0) (N := 12) pX9_loose_57 fl_RX9_10 rfl ltk_0 shk_0 (by decide) rfl (hrf.lit 0 0 rfl) ?_
      refine G_aload_n (i := 0) pX9_loose_60 rfl rfl ?_
      refine G_getR (ci := 9) (j := 1) (N := 12) pX9_loose_61 fl_RX9_19 rfl ltk_0 shk_0 (by decide) rfl (hrf.lit 0 1 rfl) ?_
      refine G_callV1v (b := 1) (ci := 0) (N := 4) pX9_loose_64 (g_X0_goOn 1 (IS_lit shk_1 ltk_1) hrf _ h) mV_X0_goOn ml_RX9_207 (by decide) ⟨Nat.le_refl _, Nat.le_refl _, Nat.le_refl _⟩ (Nat.le_of_ble_eq_true rfl) ltk_1 shk_1 rfl ?_
      intro rf m5 hrf h
      obtain ⟨v6, e6⟩ : ∃ z : Int32, z = x2 + (1 : Int32) := ⟨_, rfl⟩
      have h := h v6 e6
      refine G_iincW (L' := [some (.ref 0), some (.int x1), some (.int v6)]) pX9_loose_67 rfl ic_1 e6.symm rfl ?_
      refine G_goto pX9_loose_70 ?_
      exact hX40 _ _ _ hrf h
  exact key n rf _ _ hrf h0
def L_X9_loose (a1 : Int32) (mem : MMt) (Q : Int32 → MMt → Prop) : Prop := L_X9_within a1 (1 : Int32) (200 : Int32) mem (fun r2 m1 => ((¬ r2 = 0 → ((((m1 1 2) + a1) ≤ (9999 : Int32) → B_X9_loose_40 a1 (0 : Int32) m1 Q) ∧ (¬ ((m1 1 2) + a1) ≤ (9999 : Int32) → L_X9_error (3 : Int32) m1 (fun r6 m5 => Q r6 m5)))) ∧ (r2 = 0 → L_X9_error (1 : Int32) m1 (fun r8 m7 => Q r8 m7))))
set_option maxRecDepth 4000 in
theorem g_X9_loose {sx : Nat × (Nat → Int32)} {rf : RFt} {Q : Int32 → MMt → Prop} (a1 : Int32) (hrf : RFok rf) (mem : MMt) (h : L_X9_loose a1 mem Q) : Ct sx yX9_loose cX9_loose 3 (some .int) 8 [.ref 0, .int a1] NX NX rf mem (QQi (RFok) Q) := by
  refine Ct_of [some (.ref 0), some (.int a1), none] (by decide +kernel) (by simp [Lof, Value.category]) rfl ?_
  unfold L_X9_loose at h
  refine G_iload_n (i := 1) pX9_loose_0 rfl rfl ?_
  refine G_iconst pX9_loose_1 ic_1 ?_
  refine G_sipush pX9_loose_2 si_200 ?_
  refine G_callS3i pX9_loose_5 (g_X9_within a1 (1 : Int32) (200 : Int32) hrf _ h) mS_X9_within ml_RX9_104 (by decide) ⟨Nat.le_refl _, Nat.le_refl _, Nat.le_refl _⟩ (Nat.le_of_ble_eq_true rfl) ?_
  intro r2 rf m1 hrf h hr2
  refine G_if_ne pX9_loose_8 (fun c3 => ?_) (fun c3 => ?_)
  · have h := h.1 c3
    refine G_aload_n (i := 0) pX9_loose_17 rfl rfl ?_
    refine G_getR (ci := 9) (j := 0) (N := 12) pX9_loose_18 fl_RX9_10 rfl ltk_0 shk_0 (by decide) rfl (hrf.lit 0 0 rfl) ?_
    refine G_getI (ci := 0) (j := 2) (N := 4) pX9_loose_21 fl_RX9_166 rfl ltk_1 shk_1 (by decide) rfl ?_
    refine G_iload_n (i := 1) pX9_loose_24 rfl rfl ?_
    refine G_iadd pX9_loose_25 ?_
    refine G_sipush pX9_loose_26 si_9999 ?_
    refine G_icmp_le pX9_loose_29 (fun c4 => ?_) (fun c4 => ?_)
    · have h := h.1 c4
      refine G_iconst pX9_loose_38 ic_0 ?_
      refine G_istore_n (i := 2) (L' := [some (.ref 0), some (.int a1), some (.int (0 : Int32))]) pX9_loose_39 rfl rfl ?_
      exact gB_X9_loose_40 hrf a1 (0 : Int32) _ h
    · have h := h.2 c4
      refine G_aload_n (i := 0) pX9_loose_32 rfl rfl ?_
      refine G_iconst pX9_loose_33 ic_3 ?_
      refine G_callV1i (b := 0) (ci := 9) (N := 12) pX9_loose_34 (g_X9_error (3 : Int32) hrf _ h) mV_X9_error ml_RX9_80 (by decide) ⟨Nat.le_refl _, Nat.le_refl _, Nat.le_refl _⟩ (Nat.le_of_ble_eq_true rfl) ltk_0 shk_0 rfl ?_
      intro r6 rf m5 hrf h hr6
      exact G_ireturn (len := 1) pX9_loose_37 ⟨hrf, _, rfl, h⟩ ⟨_, rfl, rfl⟩
  · have h := h.2 c3
    refine G_aload_n (i := 0) pX9_loose_11 rfl rfl ?_
    refine G_iconst pX9_loose_12 ic_1 ?_
    refine G_callV1i (b := 0) (ci := 9) (N := 12) pX9_loose_13 (g_X9_error (1 : Int32) hrf _ h) mV_X9_error ml_RX9_80 (by decide) ⟨Nat.le_refl _, Nat.le_refl _, Nat.le_refl _⟩ (Nat.le_of_ble_eq_true rfl) ltk_0 shk_0 rfl ?_
    intro r8 rf m7 hrf h hr8
    exact G_ireturn (len := 1) pX9_loose_16 ⟨hrf, _, rfl, h⟩ ⟨_, rfl, rfl⟩
def B_X0_copyFrom_26 (q0 : Nat) (a1 : Nat) (x0 : Nat) (x1 : Nat) (x2 : Int32) (mem : MMt) (Q : MMt → Prop) : Prop := LOOP (σ := Int32 × MMt) (fun X26 z => (fun (x2 : Int32) (mem : MMt) => (((mem x0 1) ≤ x2 → Q mem) ∧ (¬ (mem x0 1) ≤ x2 → (vp_in x2 8 ∧ (vp_in x2 8 ∧ L_X1_copyFrom (x0 + 2 + x2.toNatClampNeg) (x1 + 2 + x2.toNatClampNeg) mem (fun m4 => (∀ v5 : Int32, v5 = x2 + (1 : Int32) → X26 (v5, m4)))))))) z.1 z.2) (x2, mem)
set_option maxRecDepth 4000 in
theorem gB_X0_copyFrom_26 {sx : Nat × (Nat → Int32)} {rf : RFt} {Q : MMt → Prop} (q0 : Nat) (a1 : Nat) (hq0 : IS 0 q0) (ha1 : IS 0 a1) (hrf : RFok rf) (x0 : Nat) (x1 : Nat) (x2 : Int32) (hx0 : IS 0 x0) (hx1 : IS 0 x1) (mem : MMt) (h : B_X0_copyFrom_26 q0 a1 x0 x1 x2 mem Q) : G sx yX0_copyFrom cX0_copyFrom 3 none 2 NX NX (QQv (RFok) Q) NX rf mem 26 [some (.ref x0), some (.ref x1), some (.int x2)] [] := by
  obtain ⟨I, ⟨n, h0⟩, hI⟩ := h
  have key : ∀ (n : Nat) (rf : RFt) (x2 : Int32) (mem : MMt), RFok rf → I n (x2, mem) → G sx yX0_copyFrom cX0_copyFrom 3 none 2 NX NX (QQv (RFok) Q) NX rf mem 26 [some (.ref x0), some (.ref x1), some (.int x2)] [] := by
    intro n
    induction n using Nat.strongRecOn with
    | _ n ih =>
    intro rf x2 mem hrf h0
    have hX26 : ∀ (rf : RFt) (x2 : Int32) (mem : MMt), RFok rf → (fun s' => ∃ m, m < n ∧ I m s') (x2, mem) → G sx yX0_copyFrom cX0_copyFrom 3 none 2 NX NX (QQv (RFok) Q) NX rf mem 26 [some (.ref x0), some (.ref x1), some (.int x2)] [] := fun rf x2 mem hrf ⟨m, hm, hi⟩ => ih m hm rf x2 mem hrf hi
    have h := hI n _ h0
    clear ih h0
    try dsimp only at h
    refine G_iload_n (i := 2) pX0_copyFrom_26 rfl rfl ?_
    refine G_aload_n (i := 0) pX0_copyFrom_27 rfl rfl ?_
    refine G_getI (ci := 0) (j := 1) (N := 4) pX0_copyFrom_28 fl_RX0_18 rfl hx0.2 hx0.sh0 (by decide) rfl ?_
    refine G_icmp_ge pX0_copyFrom_31 (fun c1 => ?_) (fun c1 => ?_)
    · have h := h.1 c1
      exact G_return (len := 1) pX0_copyFrom_55 ⟨hrf, rfl, h⟩ rfl
    · have h := h.2 c1
      refine G_aload_n (i := 0) pX0_copyFrom_34 rfl rfl ?_
      refine G_getR (ci := 0) (j := 0) (N := 4) pX0_copyFrom_35 fl_RX0_11 rfl hx0.2 hx0.sh0 (by decide) rfl ((lay_0_0 hx0).2.2 hrf) ?_
      refine G_iload_n (i := 2) pX0_copyFrom_38 rfl rfl ?_
      obtain ⟨hi2, h⟩ := h
      refine G_aald pX0_copyFrom_39 (lay_0_0 hx0).2.1 (lay_0_0 hx0).1 (by decide) hi2 (gd_rf hx0 hrf hi2) ?_
      refine G_aload_n (i := 1) pX0_copyFrom_40 rfl rfl ?_
      refine G_getR (ci := 0) (j := 0) (N := 4) pX0_copyFrom_41 fl_RX0_11 rfl hx1.2 hx1.sh0 (by decide) rfl ((lay_0_0 hx1).2.2 hrf) ?_
      refine G_iload_n (i := 2) pX0_copyFrom_44 rfl rfl ?_
      obtain ⟨hi3, h⟩ := h
      refine G_aald pX0_copyFrom_45 (lay_0_0 hx1).2.1 (lay_0_0 hx1).1 (by decide) hi3 (gd_rf hx1 hrf hi3) ?_
      refine G_callV1v (b := x0 + 2 + x2.toNatClampNeg) (ci := 1) (N := 5) pX0_copyFrom_46 (g_X1_copyFrom (x0 + 2 + x2.toNatClampNeg) (x1 + 2 + x2.toNatClampNeg) (gd_in hx0 hi2) (gd_in hx1 hi3) hrf _ h) mV_X1_copyFrom ml_RX0_28 (by decide) ⟨Nat.le_refl _, Nat.le_refl _, Nat.le_refl _⟩ (Nat.le_of_ble_eq_true rfl) (gd_in hx0 hi2).2 (gd_in hx0 hi2).sh1 rfl ?_
      intro rf m4 hrf h
      obtain ⟨v5, e5⟩ : ∃ z : Int32, z = x2 + (1 : Int32) := ⟨_, rfl⟩
      have h := h v5 e5
      refine G_iincW (L' := [some (.ref x0), some (.ref x1), some (.int v5)]) pX0_copyFrom_49 rfl ic_1 e5.symm rfl ?_
      refine G_goto pX0_copyFrom_52 ?_
      exact hX26 _ _ _ hrf h
  exact key n rf _ _ hrf h0
def L_X0_copyFrom (q0 : Nat) (a1 : Nat) (mem : MMt) (Q : MMt → Prop) : Prop := (∀ m1 : MMt, m1 = up2 mem q0 1 (mem a1 1) → (∀ m2 : MMt, m2 = up2 m1 q0 2 (m1 a1 2) → (∀ m3 : MMt, m3 = up2 m2 q0 3 (m2 a1 3) → B_X0_copyFrom_26 q0 a1 q0 a1 (0 : Int32) m3 Q)))
set_option maxRecDepth 4000 in
theorem g_X0_copyFrom {sx : Nat × (Nat → Int32)} {rf : RFt} {Q : MMt → Prop} (q0 : Nat) (a1 : Nat) (hq0 : IS 0 q0) (ha1 : IS 0 a1) (hrf : RFok rf) (mem : MMt) (h : L_X0_copyFrom q0 a1 mem Q) : Ct sx yX0_copyFrom cX0_copyFrom 3 none 2 [.ref q0, .ref a1] NX NX rf mem (QQv (RFok) Q) := by
  refine Ct_of [some (.ref q0), some (.ref a1), none] (by decide +kernel) (by simp [Lof, Value.category]) rfl ?_
  unfold L_X0_copyFrom at h
  refine G_aload_n (i := 0) pX0_copyFrom_0 rfl rfl ?_
  refine G_aload_n (i := 1) pX0_copyFrom_1 rfl rfl ?_
  refine G_getI (ci := 0) (j := 1) (N := 4) pX0_copyFrom_2 fl_RX0_18 rfl ha1.2 ha1.sh0 (by decide) rfl ?_
  obtain ⟨m1, em1⟩ : ∃ z : MMt, z = up2 mem q0 1 (mem a1 1) := ⟨_, rfl⟩
  have h := h m1 em1
  refine G_putIW (ci := 0) (j := 1) (N := 4) pX0_copyFrom_5 fw_RX0_18 rfl hq0.2 hq0.sh0 (by decide) rfl (fun _ => ⟨rfl, rfl⟩) em1.symm ?_
  refine G_aload_n (i := 0) pX0_copyFrom_8 rfl rfl ?_
  refine G_aload_n (i := 1) pX0_copyFrom_9 rfl rfl ?_
  refine G_getI (ci := 0) (j := 2) (N := 4) pX0_copyFrom_10 fl_RX0_22 rfl ha1.2 ha1.sh0 (by decide) rfl ?_
  obtain ⟨m2, em2⟩ : ∃ z : MMt, z = up2 m1 q0 2 (m1 a1 2) := ⟨_, rfl⟩
  have h := h m2 em2
  refine G_putIW (ci := 0) (j := 2) (N := 4) pX0_copyFrom_13 fw_RX0_22 rfl hq0.2 hq0.sh0 (by decide) rfl (fun _ => ⟨rfl, rfl⟩) em2.symm ?_
  refine G_aload_n (i := 0) pX0_copyFrom_16 rfl rfl ?_
  refine G_aload_n (i := 1) pX0_copyFrom_17 rfl rfl ?_
  refine G_getI (ci := 0) (j := 3) (N := 4) pX0_copyFrom_18 fl_RX0_25 rfl ha1.2 ha1.sh0 (by decide) rfl ?_
  obtain ⟨m3, em3⟩ : ∃ z : MMt, z = up2 m2 q0 3 (m2 a1 3) := ⟨_, rfl⟩
  have h := h m3 em3
  refine G_putIW (ci := 0) (j := 3) (N := 4) pX0_copyFrom_21 fw_RX0_25 rfl hq0.2 hq0.sh0 (by decide) rfl (fun _ => ⟨rfl, rfl⟩) em3.symm ?_
  refine G_iconst pX0_copyFrom_24 ic_0 ?_
  refine G_istore_n (i := 2) (L' := [some (.ref q0), some (.ref a1), some (.int (0 : Int32))]) pX0_copyFrom_25 rfl rfl ?_
  exact gB_X0_copyFrom_26 q0 a1 hq0 ha1 hrf q0 a1 (0 : Int32) hq0 ha1 _ h
def B_X9_then_48 (x1 : Int32) (x2 : Int32) (x3 : Int32) (x4 : Int32) (mem : MMt) (Q : Int32 → MMt → Prop) : Prop := LOOP (σ := Int32 × MMt) (fun X48 z => (fun (x4 : Int32) (mem : MMt) => ((x1 ≤ x4 → ((¬ x3 = (2 : Int32) → ((¬ x3 = 0 → (vp_in x2 8 ∧ Q (mem (43 + 2 + x2.toNatClampNeg) 3) mem)) ∧ (x3 = 0 → (vp_in x2 8 ∧ Q (mem (43 + 2 + x2.toNatClampNeg) 2) mem)))) ∧ (x3 = (2 : Int32) → Q (mem 43 3) mem))) ∧ (¬ x1 ≤ x4 → L_X0_goOn 43 mem (fun m6 => (∀ v7 : Int32, v7 = x4 + (1 : Int32) → X48 (v7, m6)))))) z.1 z.2) (x4, mem)
set_option maxRecDepth 4000 in
theorem gB_X9_then_48 {sx : Nat × (Nat → Int32)} {rf : RFt} {Q : Int32 → MMt → Prop} (hrf : RFok rf) (x1 : Int32) (x2 : Int32) (x3 : Int32) (x4 : Int32) (mem : MMt) (h : B_X9_then_48 x1 x2 x3 x4 mem Q) : G sx yX9_then cX9_then 5 (some .int) 6 NX NX (QQi (RFok) Q) NX rf mem 48 [some (.ref 0), some (.int x1), some (.int x2), some (.int x3), some (.int x4)] [] := by
  obtain ⟨I, ⟨n, h0⟩, hI⟩ := h
  have key : ∀ (n : Nat) (rf : RFt) (x4 : Int32) (mem : MMt), RFok rf → I n (x4, mem) → G sx yX9_then cX9_then 5 (some .int) 6 NX NX (QQi (RFok) Q) NX rf mem 48 [some (.ref 0), some (.int x1), some (.int x2), some (.int x3), some (.int x4)] [] := by
    intro n
    induction n using Nat.strongRecOn with
    | _ n ih =>
    intro rf x4 mem hrf h0
    have hX48 : ∀ (rf : RFt) (x4 : Int32) (mem : MMt), RFok rf → (fun s' => ∃ m, m < n ∧ I m s') (x4, mem) → G sx yX9_then cX9_then 5 (some .int) 6 NX NX (QQi (RFok) Q) NX rf mem 48 [some (.ref 0), some (.int x1), some (.int x2), some (.int x3), some (.int x4)] [] := fun rf x4 mem hrf ⟨m, hm, hi⟩ => ih m hm rf x4 mem hrf hi
    have h := hI n _ h0
    clear ih h0
    try dsimp only at h
    refine G_iload (i := 4) pX9_then_48 rfl ?_
    refine G_iload_n (i := 1) pX9_then_50 rfl rfl ?_
    refine G_icmp_ge pX9_then_51 (fun c1 => ?_) (fun c1 => ?_)
    · have h := h.1 c1
      refine G_iload_n (i := 3) pX9_then_71 rfl rfl ?_
      refine G_iconst pX9_then_72 ic_2 ?_
      refine G_icmp_ne pX9_then_73 (fun c2 => ?_) (fun c2 => ?_)
      · have h := h.1 c2
        refine G_iload_n (i := 3) pX9_then_84 rfl rfl ?_
        refine G_if_ne pX9_then_85 (fun c3 => ?_) (fun c3 => ?_)
        · have h := h.1 c3
          refine G_aload_n (i := 0) pX9_then_103 rfl rfl ?_
          refine G_getR (ci := 9) (j := 4) (N := 12) pX9_then_104 fl_RX9_29 rfl ltk_0 shk_0 (by decide) rfl (hrf.lit 0 4 rfl) ?_
          refine G_getR (ci := 0) (j := 0) (N := 4) pX9_then_107 fl_RX9_88 rfl ltk_43 shk_43 (by decide) rfl (hrf.lit 43 0 rfl) ?_
          refine G_iload_n (i := 2) pX9_then_110 rfl rfl ?_
          obtain ⟨hi4, h⟩ := h
          refine G_aald pX9_then_111 ltk_44 shk_44 (by decide) hi4 (gd_rf (IS_lit shk_43 ltk_43) hrf hi4) ?_
          refine G_getI (ci := 1) (j := 3) (N := 5) pX9_then_112 fl_RX9_117 rfl (gd_in (IS_lit shk_43 ltk_43) hi4).2 (gd_in (IS_lit shk_43 ltk_43) hi4).sh1 (by decide) rfl ?_
          exact G_ireturn (len := 1) pX9_then_115 ⟨hrf, _, rfl, h⟩ ⟨_, rfl, rfl⟩
        · have h := h.2 c3
          refine G_aload_n (i := 0) pX9_then_88 rfl rfl ?_
          refine G_getR (ci := 9) (j := 4) (N := 12) pX9_then_89 fl_RX9_29 rfl ltk_0 shk_0 (by decide) rfl (hrf.lit 0 4 rfl) ?_
          refine G_getR (ci := 0) (j := 0) (N := 4) pX9_then_92 fl_RX9_88 rfl ltk_43 shk_43 (by decide) rfl (hrf.lit 43 0 rfl) ?_
          refine G_iload_n (i := 2) pX9_then_95 rfl rfl ?_
          obtain ⟨hi5, h⟩ := h
          refine G_aald pX9_then_96 ltk_44 shk_44 (by decide) hi5 (gd_rf (IS_lit shk_43 ltk_43) hrf hi5) ?_
          refine G_getI (ci := 1) (j := 2) (N := 5) pX9_then_97 fl_RX9_114 rfl (gd_in (IS_lit shk_43 ltk_43) hi5).2 (gd_in (IS_lit shk_43 ltk_43) hi5).sh1 (by decide) rfl ?_
          refine G_goto pX9_then_100 ?_
          exact G_ireturn (len := 1) pX9_then_115 ⟨hrf, _, rfl, h⟩ ⟨_, rfl, rfl⟩
      · have h := h.2 c2
        refine G_aload_n (i := 0) pX9_then_76 rfl rfl ?_
        refine G_getR (ci := 9) (j := 4) (N := 12) pX9_then_77 fl_RX9_29 rfl ltk_0 shk_0 (by decide) rfl (hrf.lit 0 4 rfl) ?_
        refine G_getI (ci := 0) (j := 3) (N := 4) pX9_then_80 fl_RX9_220 rfl ltk_43 shk_43 (by decide) rfl ?_
        exact G_ireturn (len := 1) pX9_then_83 ⟨hrf, _, rfl, h⟩ ⟨_, rfl, rfl⟩
    · have h := h.2 c1
      refine G_aload_n (i := 0) pX9_then_54 rfl rfl ?_
      refine G_getR (ci := 9) (j := 4) (N := 12) pX9_then_55 fl_RX9_29 rfl ltk_0 shk_0 (by decide) rfl (hrf.lit 0 4 rfl) ?_
      refine G_aload_n (i := 0) pX9_then_58 rfl rfl ?_
      refine G_getR (ci := 9) (j := 1) (N := 12) pX9_then_59 fl_RX9_19 rfl ltk_0 shk_0 (by decide) rfl (hrf.lit 0 1 rfl) ?_
      refine G_callV1v (b := 43) (ci := 0) (N := 4) pX9_then_62 (g_X0_goOn 43 (IS_lit shk_43 ltk_43) hrf _ h) mV_X0_goOn ml_RX9_207 (by decide) ⟨Nat.le_refl _, Nat.le_refl _, Nat.le_refl _⟩ (Nat.le_of_ble_eq_true rfl) ltk_43 shk_43 rfl ?_
      intro rf m6 hrf h
      obtain ⟨v7, e7⟩ : ∃ z : Int32, z = x4 + (1 : Int32) := ⟨_, rfl⟩
      have h := h v7 e7
      refine G_iincW (L' := [some (.ref 0), some (.int x1), some (.int x2), some (.int x3), some (.int v7)]) pX9_then_65 rfl ic_1 e7.symm rfl ?_
      refine G_goto pX9_then_68 ?_
      exact hX48 _ _ _ hrf h
  exact key n rf _ _ hrf h0
def L_X9_then (a1 : Int32) (a2 : Int32) (a3 : Int32) (mem : MMt) (Q : Int32 → MMt → Prop) : Prop := L_X9_within a1 (0 : Int32) (200 : Int32) mem (fun r2 m1 => ((r2 = 0 → L_X9_error (1 : Int32) m1 (fun r5 m4 => Q r5 m4)) ∧ (¬ r2 = 0 → L_X9_isGood a2 m1 (fun r7 m6 => ((r7 = 0 → L_X9_error (1 : Int32) m6 (fun r10 m9 => Q r10 m9)) ∧ (¬ r7 = 0 → L_X9_within a3 (0 : Int32) (2 : Int32) m6 (fun r12 m11 => ((¬ r12 = 0 → L_X0_copyFrom 43 1 m11 (fun m14 => B_X9_then_48 a1 a2 a3 (0 : Int32) m14 Q)) ∧ (r12 = 0 → L_X9_error (1 : Int32) m11 (fun r16 m15 => Q r16 m15))))))))))
set_option maxRecDepth 4000 in
theorem g_X9_then {sx : Nat × (Nat → Int32)} {rf : RFt} {Q : Int32 → MMt → Prop} (a1 : Int32) (a2 : Int32) (a3 : Int32) (hrf : RFok rf) (mem : MMt) (h : L_X9_then a1 a2 a3 mem Q) : Ct sx yX9_then cX9_then 5 (some .int) 6 [.ref 0, .int a1, .int a2, .int a3] NX NX rf mem (QQi (RFok) Q) := by
  refine Ct_of [some (.ref 0), some (.int a1), some (.int a2), some (.int a3), none] (by decide +kernel) (by simp [Lof, Value.category]) rfl ?_
  unfold L_X9_then at h
  refine G_iload_n (i := 1) pX9_then_0 rfl rfl ?_
  refine G_iconst pX9_then_1 ic_0 ?_
  refine G_sipush pX9_then_2 si_200 ?_
  refine G_callS3i pX9_then_5 (g_X9_within a1 (0 : Int32) (200 : Int32) hrf _ h) mS_X9_within ml_RX9_104 (by decide) ⟨Nat.le_refl _, Nat.le_refl _, Nat.le_refl _⟩ (Nat.le_of_ble_eq_true rfl) ?_
  intro r2 rf m1 hrf h hr2
  refine G_if_eq pX9_then_8 (fun c3 => ?_) (fun c3 => ?_)
  · have h := h.1 c3
    refine G_aload_n (i := 0) pX9_then_28 rfl rfl ?_
    refine G_iconst pX9_then_29 ic_1 ?_
    refine G_callV1i (b := 0) (ci := 9) (N := 12) pX9_then_30 (g_X9_error (1 : Int32) hrf _ h) mV_X9_error ml_RX9_80 (by decide) ⟨Nat.le_refl _, Nat.le_refl _, Nat.le_refl _⟩ (Nat.le_of_ble_eq_true rfl) ltk_0 shk_0 rfl ?_
    intro r5 rf m4 hrf h hr5
    exact G_ireturn (len := 1) pX9_then_33 ⟨hrf, _, rfl, h⟩ ⟨_, rfl, rfl⟩
  · have h := h.2 c3
    refine G_aload_n (i := 0) pX9_then_11 rfl rfl ?_
    refine G_iload_n (i := 2) pX9_then_12 rfl rfl ?_
    refine G_callV1i (b := 0) (ci := 9) (N := 12) pX9_then_13 (g_X9_isGood a2 hrf _ h) mV_X9_isGood ml_RX9_101 (by decide) ⟨Nat.le_refl _, Nat.le_refl _, Nat.le_refl _⟩ (Nat.le_of_ble_eq_true rfl) ltk_0 shk_0 rfl ?_
    intro r7 rf m6 hrf h hr7
    refine G_if_eq pX9_then_16 (fun c8 => ?_) (fun c8 => ?_)
    · have h := h.1 c8
      refine G_aload_n (i := 0) pX9_then_28 rfl rfl ?_
      refine G_iconst pX9_then_29 ic_1 ?_
      refine G_callV1i (b := 0) (ci := 9) (N := 12) pX9_then_30 (g_X9_error (1 : Int32) hrf _ h) mV_X9_error ml_RX9_80 (by decide) ⟨Nat.le_refl _, Nat.le_refl _, Nat.le_refl _⟩ (Nat.le_of_ble_eq_true rfl) ltk_0 shk_0 rfl ?_
      intro r10 rf m9 hrf h hr10
      exact G_ireturn (len := 1) pX9_then_33 ⟨hrf, _, rfl, h⟩ ⟨_, rfl, rfl⟩
    · have h := h.2 c8
      refine G_iload_n (i := 3) pX9_then_19 rfl rfl ?_
      refine G_iconst pX9_then_20 ic_0 ?_
      refine G_iconst pX9_then_21 ic_2 ?_
      refine G_callS3i pX9_then_22 (g_X9_within a3 (0 : Int32) (2 : Int32) hrf _ h) mS_X9_within ml_RX9_104 (by decide) ⟨Nat.le_refl _, Nat.le_refl _, Nat.le_refl _⟩ (Nat.le_of_ble_eq_true rfl) ?_
      intro r12 rf m11 hrf h hr12
      refine G_if_ne pX9_then_25 (fun c13 => ?_) (fun c13 => ?_)
      · have h := h.1 c13
        refine G_aload_n (i := 0) pX9_then_34 rfl rfl ?_
        refine G_getR (ci := 9) (j := 4) (N := 12) pX9_then_35 fl_RX9_29 rfl ltk_0 shk_0 (by decide) rfl (hrf.lit 0 4 rfl) ?_
        refine G_aload_n (i := 0) pX9_then_38 rfl rfl ?_
        refine G_getR (ci := 9) (j := 0) (N := 12) pX9_then_39 fl_RX9_10 rfl ltk_0 shk_0 (by decide) rfl (hrf.lit 0 0 rfl) ?_
        refine G_callV1v (b := 43) (ci := 0) (N := 4) pX9_then_42 (g_X0_copyFrom 43 1 (IS_lit shk_43 ltk_43) (IS_lit shk_1 ltk_1) hrf _ h) mV_X0_copyFrom ml_RX9_216 (by decide) ⟨Nat.le_refl _, Nat.le_refl _, Nat.le_refl _⟩ (Nat.le_of_ble_eq_true rfl) ltk_43 shk_43 rfl ?_
        intro rf m14 hrf h
        refine G_iconst pX9_then_45 ic_0 ?_
        refine G_istore (i := 4) (L' := [some (.ref 0), some (.int a1), some (.int a2), some (.int a3), some (.int (0 : Int32))]) pX9_then_46 rfl ?_
        exact gB_X9_then_48 hrf a1 a2 a3 (0 : Int32) _ h
      · have h := h.2 c13
        refine G_aload_n (i := 0) pX9_then_28 rfl rfl ?_
        refine G_iconst pX9_then_29 ic_1 ?_
        refine G_callV1i (b := 0) (ci := 9) (N := 12) pX9_then_30 (g_X9_error (1 : Int32) hrf _ h) mV_X9_error ml_RX9_80 (by decide) ⟨Nat.le_refl _, Nat.le_refl _, Nat.le_refl _⟩ (Nat.le_of_ble_eq_true rfl) ltk_0 shk_0 rfl ?_
        intro r16 rf m15 hrf h hr16
        exact G_ireturn (len := 1) pX9_then_33 ⟨hrf, _, rfl, h⟩ ⟨_, rfl, rfl⟩
def B_X7_restsBehind_10 (a1 : Nat) (x2 : Int32) (mem : MMt) (Q : Int32 → MMt → Prop) : Prop := LOOP (σ := Int32 × MMt) (fun X10 z => (fun (x2 : Int32) (mem : MMt) => (((200 : Int32) < x2 → Q (-1 : Int32) mem) ∧ (¬ (200 : Int32) < x2 → L_X7_goesOn mem (fun r3 m2 => ((¬ r3 = 0 → (∀ v5 : Int32, v5 = x2 + (1 : Int32) → X10 (v5, m2))) ∧ (r3 = 0 → Q x2 m2)))))) z.1 z.2) (x2, mem)
set_option maxRecDepth 4000 in
theorem gB_X7_restsBehind_10 {sx : Nat × (Nat → Int32)} {rf : RFt} {Q : Int32 → MMt → Prop} (a1 : Nat) (ha1 : IS 1 a1) (hrf : RFok rf) (x2 : Int32) (mem : MMt) (h : B_X7_restsBehind_10 a1 x2 mem Q) : G sx yX7_restsBehind cX7_restsBehind 3 (some .int) 6 NX NX (QQi (RFok) Q) NX rf mem 10 [some (.ref 53), none, some (.int x2)] [] := by
  obtain ⟨I, ⟨n, h0⟩, hI⟩ := h
  have key : ∀ (n : Nat) (rf : RFt) (x2 : Int32) (mem : MMt), RFok rf → I n (x2, mem) → G sx yX7_restsBehind cX7_restsBehind 3 (some .int) 6 NX NX (QQi (RFok) Q) NX rf mem 10 [some (.ref 53), none, some (.int x2)] [] := by
    intro n
    induction n using Nat.strongRecOn with
    | _ n ih =>
    intro rf x2 mem hrf h0
    have hX10 : ∀ (rf : RFt) (x2 : Int32) (mem : MMt), RFok rf → (fun s' => ∃ m, m < n ∧ I m s') (x2, mem) → G sx yX7_restsBehind cX7_restsBehind 3 (some .int) 6 NX NX (QQi (RFok) Q) NX rf mem 10 [some (.ref 53), none, some (.int x2)] [] := fun rf x2 mem hrf ⟨m, hm, hi⟩ => ih m hm rf x2 mem hrf hi
    have h := hI n _ h0
    clear ih h0
    try dsimp only at h
    refine G_iload_n (i := 2) pX7_restsBehind_10 rfl rfl ?_
    refine G_sipush pX7_restsBehind_11 si_200 ?_
    refine G_icmp_gt pX7_restsBehind_14 (fun c1 => ?_) (fun c1 => ?_)
    · have h := h.1 c1
      refine G_iconst pX7_restsBehind_32 ic_m1 ?_
      exact G_ireturn (len := 1) pX7_restsBehind_33 ⟨hrf, _, rfl, h⟩ ⟨_, rfl, rfl⟩
    · have h := h.2 c1
      refine G_aload_n (i := 0) pX7_restsBehind_17 rfl rfl ?_
      refine G_callV0i (b := 53) (ci := 7) (N := 2) pX7_restsBehind_18 (g_X7_goesOn hrf _ h) mV_X7_goesOn ml_RX7_36 (by decide) ⟨Nat.le_refl _, Nat.le_refl _, Nat.le_refl _⟩ (Nat.le_of_ble_eq_true rfl) ltk_53 shk_53 rfl ?_
      intro r3 rf m2 hrf h hr3
      refine G_if_ne pX7_restsBehind_21 (fun c4 => ?_) (fun c4 => ?_)
      · have h := h.1 c4
        obtain ⟨v5, e5⟩ : ∃ z : Int32, z = x2 + (1 : Int32) := ⟨_, rfl⟩
        have h := h v5 e5
        refine G_iincW (L' := [some (.ref 53), none, some (.int v5)]) pX7_restsBehind_26 rfl ic_1 e5.symm rfl ?_
        refine G_goto pX7_restsBehind_29 ?_
        exact hX10 _ _ _ hrf h
      · have h := h.2 c4
        refine G_iload_n (i := 2) pX7_restsBehind_24 rfl rfl ?_
        exact G_ireturn (len := 1) pX7_restsBehind_25 ⟨hrf, _, rfl, h⟩ ⟨_, rfl, rfl⟩
  exact key n rf _ _ hrf h0
def L_X7_restsBehind (a1 : Nat) (mem : MMt) (Q : Int32 → MMt → Prop) : Prop := L_X1_copyFrom 54 a1 mem (fun m1 => B_X7_restsBehind_10 a1 (0 : Int32) m1 Q)
set_option maxRecDepth 4000 in
theorem g_X7_restsBehind {sx : Nat × (Nat → Int32)} {rf : RFt} {Q : Int32 → MMt → Prop} (a1 : Nat) (ha1 : IS 1 a1) (hrf : RFok rf) (mem : MMt) (h : L_X7_restsBehind a1 mem Q) : Ct sx yX7_restsBehind cX7_restsBehind 3 (some .int) 6 [.ref 53, .ref a1] NX NX rf mem (QQi (RFok) Q) := by
  refine Ct_of [some (.ref 53), some (.ref a1), none] (by decide +kernel) (by simp [Lof, Value.category]) rfl ?_
  unfold L_X7_restsBehind at h
  refine G_aload_n (i := 0) pX7_restsBehind_0 rfl rfl ?_
  refine G_getR (ci := 7) (j := 0) (N := 2) pX7_restsBehind_1 fl_RX7_12 rfl ltk_53 shk_53 (by decide) rfl (hrf.lit 53 0 rfl) ?_
  refine G_aload_n (i := 1) pX7_restsBehind_4 rfl rfl ?_
  refine G_callV1v (b := 54) (ci := 1) (N := 5) pX7_restsBehind_5 (g_X1_copyFrom 54 a1 (IS_lit shk_54 ltk_54) ha1 hrf _ h) mV_X1_copyFrom ml_RX7_32 (by decide) ⟨Nat.le_refl _, Nat.le_refl _, Nat.le_refl _⟩ (Nat.le_of_ble_eq_true rfl) ltk_54 shk_54 rfl ?_
  intro rf m1 hrf h
  refine G_iconst pX7_restsBehind_8 ic_0 ?_
  refine G_istore_n (i := 2) (L' := [some (.ref 53), some (.ref a1), some (.int (0 : Int32))]) pX7_restsBehind_9 rfl rfl ?_
  refine G_wk (L2 := [some (.ref 53), none, some (.int (0 : Int32))]) ⟨Or.inr rfl, Or.inl rfl, Or.inr rfl, trivial⟩ ?_
  exact gB_X7_restsBehind_10 a1 ha1 hrf (0 : Int32) _ h
def L_X9_rests (a1 : Int32) (a2 : Int32) (mem : MMt) (Q : Int32 → MMt → Prop) : Prop := L_X9_isGood a1 mem (fun r2 m1 => ((r2 = 0 → L_X9_error (1 : Int32) m1 (fun r5 m4 => Q r5 m4)) ∧ (¬ r2 = 0 → L_X9_within a2 (0 : Int32) (1 : Int32) m1 (fun r7 m6 => ((¬ r7 = 0 → (vp_in a1 8 ∧ L_X7_restsBehind (1 + 2 + a1.toNatClampNeg) m6 (fun r11 m10 => ((0 ≤ r11 → ((¬ a2 = 0 → Q (m10 54 2) m10) ∧ (a2 = 0 → Q r11 m10))) ∧ (¬ 0 ≤ r11 → L_X9_error (2 : Int32) m10 (fun r15 m14 => Q r15 m14)))))) ∧ (r7 = 0 → L_X9_error (1 : Int32) m6 (fun r17 m16 => Q r17 m16)))))))
set_option maxRecDepth 4000 in
theorem g_X9_rests {sx : Nat × (Nat → Int32)} {rf : RFt} {Q : Int32 → MMt → Prop} (a1 : Int32) (a2 : Int32) (hrf : RFok rf) (mem : MMt) (h : L_X9_rests a1 a2 mem Q) : Ct sx yX9_rests cX9_rests 4 (some .int) 7 [.ref 0, .int a1, .int a2] NX NX rf mem (QQi (RFok) Q) := by
  refine Ct_of [some (.ref 0), some (.int a1), some (.int a2), none] (by decide +kernel) (by simp [Lof, Value.category]) rfl ?_
  unfold L_X9_rests at h
  refine G_aload_n (i := 0) pX9_rests_0 rfl rfl ?_
  refine G_iload_n (i := 1) pX9_rests_1 rfl rfl ?_
  refine G_callV1i (b := 0) (ci := 9) (N := 12) pX9_rests_2 (g_X9_isGood a1 hrf _ h) mV_X9_isGood ml_RX9_101 (by decide) ⟨Nat.le_refl _, Nat.le_refl _, Nat.le_refl _⟩ (Nat.le_of_ble_eq_true rfl) ltk_0 shk_0 rfl ?_
  intro r2 rf m1 hrf h hr2
  refine G_if_eq pX9_rests_5 (fun c3 => ?_) (fun c3 => ?_)
  · have h := h.1 c3
    refine G_aload_n (i := 0) pX9_rests_17 rfl rfl ?_
    refine G_iconst pX9_rests_18 ic_1 ?_
    refine G_callV1i (b := 0) (ci := 9) (N := 12) pX9_rests_19 (g_X9_error (1 : Int32) hrf _ h) mV_X9_error ml_RX9_80 (by decide) ⟨Nat.le_refl _, Nat.le_refl _, Nat.le_refl _⟩ (Nat.le_of_ble_eq_true rfl) ltk_0 shk_0 rfl ?_
    intro r5 rf m4 hrf h hr5
    exact G_ireturn (len := 1) pX9_rests_22 ⟨hrf, _, rfl, h⟩ ⟨_, rfl, rfl⟩
  · have h := h.2 c3
    refine G_iload_n (i := 2) pX9_rests_8 rfl rfl ?_
    refine G_iconst pX9_rests_9 ic_0 ?_
    refine G_iconst pX9_rests_10 ic_1 ?_
    refine G_callS3i pX9_rests_11 (g_X9_within a2 (0 : Int32) (1 : Int32) hrf _ h) mS_X9_within ml_RX9_104 (by decide) ⟨Nat.le_refl _, Nat.le_refl _, Nat.le_refl _⟩ (Nat.le_of_ble_eq_true rfl) ?_
    intro r7 rf m6 hrf h hr7
    refine G_if_ne pX9_rests_14 (fun c8 => ?_) (fun c8 => ?_)
    · have h := h.1 c8
      refine G_aload_n (i := 0) pX9_rests_23 rfl rfl ?_
      refine G_getR (ci := 9) (j := 5) (N := 12) pX9_rests_24 fl_RX9_37 rfl ltk_0 shk_0 (by decide) rfl (hrf.lit 0 5 rfl) ?_
      refine G_aload_n (i := 0) pX9_rests_27 rfl rfl ?_
      refine G_getR (ci := 9) (j := 0) (N := 12) pX9_rests_28 fl_RX9_10 rfl ltk_0 shk_0 (by decide) rfl (hrf.lit 0 0 rfl) ?_
      refine G_getR (ci := 0) (j := 0) (N := 4) pX9_rests_31 fl_RX9_88 rfl ltk_1 shk_1 (by decide) rfl (hrf.lit 1 0 rfl) ?_
      refine G_iload_n (i := 1) pX9_rests_34 rfl rfl ?_
      obtain ⟨hi9, h⟩ := h
      refine G_aald pX9_rests_35 ltk_2 shk_2 (by decide) hi9 (gd_rf (IS_lit shk_1 ltk_1) hrf hi9) ?_
      refine G_callV1i (b := 53) (ci := 7) (N := 2) pX9_rests_36 (g_X7_restsBehind (1 + 2 + a1.toNatClampNeg) (gd_in (IS_lit shk_1 ltk_1) hi9) hrf _ h) mV_X7_restsBehind ml_RX9_223 (by decide) ⟨Nat.le_refl _, Nat.le_refl _, Nat.le_refl _⟩ (Nat.le_of_ble_eq_true rfl) ltk_53 shk_53 rfl ?_
      intro r11 rf m10 hrf h hr11
      refine G_istore_n (i := 3) (L' := [some (.ref 0), some (.int a1), some (.int a2), some (.int r11)]) pX9_rests_39 rfl rfl ?_
      refine G_iload_n (i := 3) pX9_rests_40 rfl rfl ?_
      refine G_if_ge pX9_rests_41 (fun c12 => ?_) (fun c12 => ?_)
      · have h := h.1 c12
        refine G_iload_n (i := 2) pX9_rests_50 rfl rfl ?_
        refine G_if_ne pX9_rests_51 (fun c13 => ?_) (fun c13 => ?_)
        · have h := h.1 c13
          refine G_aload_n (i := 0) pX9_rests_58 rfl rfl ?_
          refine G_getR (ci := 9) (j := 5) (N := 12) pX9_rests_59 fl_RX9_37 rfl ltk_0 shk_0 (by decide) rfl (hrf.lit 0 5 rfl) ?_
          refine G_getR (ci := 7) (j := 0) (N := 2) pX9_rests_62 fl_RX9_226 rfl ltk_53 shk_53 (by decide) rfl (hrf.lit 53 0 rfl) ?_
          refine G_getI (ci := 1) (j := 2) (N := 5) pX9_rests_65 fl_RX9_114 rfl ltk_54 shk_54 (by decide) rfl ?_
          exact G_ireturn (len := 1) pX9_rests_68 ⟨hrf, _, rfl, h⟩ ⟨_, rfl, rfl⟩
        · have h := h.2 c13
          refine G_iload_n (i := 3) pX9_rests_54 rfl rfl ?_
          refine G_goto pX9_rests_55 ?_
          exact G_ireturn (len := 1) pX9_rests_68 ⟨hrf, _, rfl, h⟩ ⟨_, rfl, rfl⟩
      · have h := h.2 c12
        refine G_aload_n (i := 0) pX9_rests_44 rfl rfl ?_
        refine G_iconst pX9_rests_45 ic_2 ?_
        refine G_callV1i (b := 0) (ci := 9) (N := 12) pX9_rests_46 (g_X9_error (2 : Int32) hrf _ h) mV_X9_error ml_RX9_80 (by decide) ⟨Nat.le_refl _, Nat.le_refl _, Nat.le_refl _⟩ (Nat.le_of_ble_eq_true rfl) ltk_0 shk_0 rfl ?_
        intro r15 rf m14 hrf h hr15
        exact G_ireturn (len := 1) pX9_rests_49 ⟨hrf, _, rfl, h⟩ ⟨_, rfl, rfl⟩
    · have h := h.2 c8
      refine G_aload_n (i := 0) pX9_rests_17 rfl rfl ?_
      refine G_iconst pX9_rests_18 ic_1 ?_
      refine G_callV1i (b := 0) (ci := 9) (N := 12) pX9_rests_19 (g_X9_error (1 : Int32) hrf _ h) mV_X9_error ml_RX9_80 (by decide) ⟨Nat.le_refl _, Nat.le_refl _, Nat.le_refl _⟩ (Nat.le_of_ble_eq_true rfl) ltk_0 shk_0 rfl ?_
      intro r17 rf m16 hrf h hr17
      exact G_ireturn (len := 1) pX9_rests_22 ⟨hrf, _, rfl, h⟩ ⟨_, rfl, rfl⟩
def L_X9_isMiddle (a1 : Int32) (mem : MMt) (Q : Int32 → MMt → Prop) : Prop := L_X9_within a1 (16 : Int32) (24 : Int32) mem (fun r2 m1 => Q r2 m1)
set_option maxRecDepth 4000 in
theorem g_X9_isMiddle {sx : Nat × (Nat → Int32)} {M : RFt → Prop} {rf : RFt} {Q : Int32 → MMt → Prop} (a1 : Int32) (hrf : M rf) (mem : MMt) (h : L_X9_isMiddle a1 mem Q) : Ct sx yX9_isMiddle cX9_isMiddle 1 (some .boolean) 2 [.int a1] NX NX rf mem (QQi (M) Q) := by
  refine Ct_of [some (.int a1)] (by decide +kernel) (by simp [Lof, Value.category]) rfl ?_
  unfold L_X9_isMiddle at h
  refine G_iload_n (i := 0) pX9_isMiddle_0 rfl rfl ?_
  refine G_bipush pX9_isMiddle_1 bi_16 ?_
  refine G_bipush pX9_isMiddle_3 bi_24 ?_
  refine G_callS3i pX9_isMiddle_5 (g_X9_within a1 (16 : Int32) (24 : Int32) hrf _ h) mS_X9_within ml_RX9_104 (by decide) ⟨Nat.le_refl _, Nat.le_refl _, Nat.le_refl _⟩ (Nat.le_of_ble_eq_true rfl) ?_
  intro r2 rf m1 hrf h hr2
  exact G_ireturn (len := 1) pX9_isMiddle_8 ⟨hrf, _, rfl, h⟩ hr2
def B_X9_first_8 (x1 : Int32) (x2 : Int32) (x3 : Int32) (mem : MMt) (Q : Int32 → MMt → Prop) : Prop := LOOP (σ := Int32 × Int32 × Int32 × MMt) (fun X8 z => (fun (x1 : Int32) (x2 : Int32) (x3 : Int32) (mem : MMt) => (((mem 1 1) ≤ x3 → ((0 ≤ x1 → Q x1 mem) ∧ (¬ 0 ≤ x1 → L_X9_error (2 : Int32) mem (fun r4 m3 => Q r4 m3)))) ∧ (¬ (mem 1 1) ≤ x3 → (vp_in x3 8 ∧ L_X7_restsBehind (1 + 2 + x3.toNatClampNeg) mem (fun r7 m6 => ((r7 < 0 → (∀ v9 : Int32, v9 = x3 + (1 : Int32) → X8 (x1, x2, v9, m6))) ∧ (¬ r7 < 0 → ((x2 ≤ r7 → (∀ v11 : Int32, v11 = x3 + (1 : Int32) → X8 (x1, x2, v11, m6))) ∧ (¬ x2 ≤ r7 → L_X9_isMiddle (m6 54 2) m6 (fun r13 m12 => ((r13 = 0 → (∀ v15 : Int32, v15 = x3 + (1 : Int32) → X8 (x1, x2, v15, m12))) ∧ (¬ r13 = 0 → (∀ v16 : Int32, v16 = x3 + (1 : Int32) → X8 (x3, r7, v16, m12)))))))))))))) z.1 z.2.1 z.2.2.1 z.2.2.2) (x1, x2, x3, mem)
set_option maxRecDepth 4000 in
theorem gB_X9_first_8 {sx : Nat × (Nat → Int32)} {rf : RFt} {Q : Int32 → MMt → Prop} (hrf : RFok rf) (x1 : Int32) (x2 : Int32) (x3 : Int32) (mem : MMt) (h : B_X9_first_8 x1 x2 x3 mem Q) : G sx yX9_first cX9_first 5 (some .int) 7 NX NX (QQi (RFok) Q) NX rf mem 8 [some (.ref 0), some (.int x1), some (.int x2), some (.int x3), none] [] := by
  obtain ⟨I, ⟨n, h0⟩, hI⟩ := h
  have key : ∀ (n : Nat) (rf : RFt) (x1 : Int32) (x2 : Int32) (x3 : Int32) (mem : MMt), RFok rf → I n (x1, x2, x3, mem) → G sx yX9_first cX9_first 5 (some .int) 7 NX NX (QQi (RFok) Q) NX rf mem 8 [some (.ref 0), some (.int x1), some (.int x2), some (.int x3), none] [] := by
    intro n
    induction n using Nat.strongRecOn with
    | _ n ih =>
    intro rf x1 x2 x3 mem hrf h0
    have hX8 : ∀ (rf : RFt) (x1 : Int32) (x2 : Int32) (x3 : Int32) (mem : MMt), RFok rf → (fun s' => ∃ m, m < n ∧ I m s') (x1, x2, x3, mem) → G sx yX9_first cX9_first 5 (some .int) 7 NX NX (QQi (RFok) Q) NX rf mem 8 [some (.ref 0), some (.int x1), some (.int x2), some (.int x3), none] [] := fun rf x1 x2 x3 mem hrf ⟨m, hm, hi⟩ => ih m hm rf x1 x2 x3 mem hrf hi
    have h := hI n _ h0
    clear ih h0
    try dsimp only at h
    refine G_iload_n (i := 3) pX9_first_8 rfl rfl ?_
    refine G_aload_n (i := 0) pX9_first_9 rfl rfl ?_
    refine G_getR (ci := 9) (j := 0) (N := 12) pX9_first_10 fl_RX9_10 rfl ltk_0 shk_0 (by decide) rfl (hrf.lit 0 0 rfl) ?_
    refine G_getI (ci := 0) (j := 1) (N := 4) pX9_first_13 fl_RX9_84 rfl ltk_1 shk_1 (by decide) rfl ?_
    refine G_icmp_ge pX9_first_16 (fun c1 => ?_) (fun c1 => ?_)
    · have h := h.1 c1
      refine G_iload_n (i := 1) pX9_first_75 rfl rfl ?_
      refine G_if_ge pX9_first_76 (fun c2 => ?_) (fun c2 => ?_)
      · have h := h.1 c2
        refine G_iload_n (i := 1) pX9_first_87 rfl rfl ?_
        exact G_ireturn (len := 1) pX9_first_88 ⟨hrf, _, rfl, h⟩ ⟨_, rfl, rfl⟩
      · have h := h.2 c2
        refine G_aload_n (i := 0) pX9_first_79 rfl rfl ?_
        refine G_iconst pX9_first_80 ic_2 ?_
        refine G_callV1i (b := 0) (ci := 9) (N := 12) pX9_first_81 (g_X9_error (2 : Int32) hrf _ h) mV_X9_error ml_RX9_80 (by decide) ⟨Nat.le_refl _, Nat.le_refl _, Nat.le_refl _⟩ (Nat.le_of_ble_eq_true rfl) ltk_0 shk_0 rfl ?_
        intro r4 rf m3 hrf h hr4
        refine G_goto pX9_first_84 ?_
        exact G_ireturn (len := 1) pX9_first_88 ⟨hrf, _, rfl, h⟩ ⟨_, rfl, rfl⟩
    · have h := h.2 c1
      refine G_aload_n (i := 0) pX9_first_19 rfl rfl ?_
      refine G_getR (ci := 9) (j := 5) (N := 12) pX9_first_20 fl_RX9_37 rfl ltk_0 shk_0 (by decide) rfl (hrf.lit 0 5 rfl) ?_
      refine G_aload_n (i := 0) pX9_first_23 rfl rfl ?_
      refine G_getR (ci := 9) (j := 0) (N := 12) pX9_first_24 fl_RX9_10 rfl ltk_0 shk_0 (by decide) rfl (hrf.lit 0 0 rfl) ?_
      refine G_getR (ci := 0) (j := 0) (N := 4) pX9_first_27 fl_RX9_88 rfl ltk_1 shk_1 (by decide) rfl (hrf.lit 1 0 rfl) ?_
      refine G_iload_n (i := 3) pX9_first_30 rfl rfl ?_
      obtain ⟨hi5, h⟩ := h
      refine G_aald pX9_first_31 ltk_2 shk_2 (by decide) hi5 (gd_rf (IS_lit shk_1 ltk_1) hrf hi5) ?_
      refine G_callV1i (b := 53) (ci := 7) (N := 2) pX9_first_32 (g_X7_restsBehind (1 + 2 + x3.toNatClampNeg) (gd_in (IS_lit shk_1 ltk_1) hi5) hrf _ h) mV_X7_restsBehind ml_RX9_223 (by decide) ⟨Nat.le_refl _, Nat.le_refl _, Nat.le_refl _⟩ (Nat.le_of_ble_eq_true rfl) ltk_53 shk_53 rfl ?_
      intro r7 rf m6 hrf h hr7
      refine G_istore (i := 4) (L' := [some (.ref 0), some (.int x1), some (.int x2), some (.int x3), some (.int r7)]) pX9_first_35 rfl ?_
      refine G_iload (i := 4) pX9_first_37 rfl ?_
      refine G_if_lt pX9_first_39 (fun c8 => ?_) (fun c8 => ?_)
      · have h := h.1 c8
        obtain ⟨v9, e9⟩ : ∃ z : Int32, z = x3 + (1 : Int32) := ⟨_, rfl⟩
        have h := h v9 e9
        refine G_iincW (L' := [some (.ref 0), some (.int x1), some (.int x2), some (.int v9), some (.int r7)]) pX9_first_69 rfl ic_1 e9.symm rfl ?_
        refine G_goto pX9_first_72 ?_
        refine G_wk (L2 := [some (.ref 0), some (.int x1), some (.int x2), some (.int v9), none]) ⟨Or.inr rfl, Or.inr rfl, Or.inr rfl, Or.inr rfl, Or.inl rfl, trivial⟩ ?_
        exact hX8 _ _ _ _ _ hrf h
      · have h := h.2 c8
        refine G_iload (i := 4) pX9_first_42 rfl ?_
        refine G_iload_n (i := 2) pX9_first_44 rfl rfl ?_
        refine G_icmp_ge pX9_first_45 (fun c10 => ?_) (fun c10 => ?_)
        · have h := h.1 c10
          obtain ⟨v11, e11⟩ : ∃ z : Int32, z = x3 + (1 : Int32) := ⟨_, rfl⟩
          have h := h v11 e11
          refine G_iincW (L' := [some (.ref 0), some (.int x1), some (.int x2), some (.int v11), some (.int r7)]) pX9_first_69 rfl ic_1 e11.symm rfl ?_
          refine G_goto pX9_first_72 ?_
          refine G_wk (L2 := [some (.ref 0), some (.int x1), some (.int x2), some (.int v11), none]) ⟨Or.inr rfl, Or.inr rfl, Or.inr rfl, Or.inr rfl, Or.inl rfl, trivial⟩ ?_
          exact hX8 _ _ _ _ _ hrf h
        · have h := h.2 c10
          refine G_aload_n (i := 0) pX9_first_48 rfl rfl ?_
          refine G_getR (ci := 9) (j := 5) (N := 12) pX9_first_49 fl_RX9_37 rfl ltk_0 shk_0 (by decide) rfl (hrf.lit 0 5 rfl) ?_
          refine G_getR (ci := 7) (j := 0) (N := 2) pX9_first_52 fl_RX9_226 rfl ltk_53 shk_53 (by decide) rfl (hrf.lit 53 0 rfl) ?_
          refine G_getI (ci := 1) (j := 2) (N := 5) pX9_first_55 fl_RX9_114 rfl ltk_54 shk_54 (by decide) rfl ?_
          refine G_callS1i pX9_first_58 (g_X9_isMiddle (m6 54 2) hrf _ h) mS_X9_isMiddle ml_RX9_230 (by decide) ⟨Nat.le_refl _, Nat.le_refl _, Nat.le_refl _⟩ (Nat.le_of_ble_eq_true rfl) ?_
          intro r13 rf m12 hrf h hr13
          refine G_if_eq pX9_first_61 (fun c14 => ?_) (fun c14 => ?_)
          · have h := h.1 c14
            obtain ⟨v15, e15⟩ : ∃ z : Int32, z = x3 + (1 : Int32) := ⟨_, rfl⟩
            have h := h v15 e15
            refine G_iincW (L' := [some (.ref 0), some (.int x1), some (.int x2), some (.int v15), some (.int r7)]) pX9_first_69 rfl ic_1 e15.symm rfl ?_
            refine G_goto pX9_first_72 ?_
            refine G_wk (L2 := [some (.ref 0), some (.int x1), some (.int x2), some (.int v15), none]) ⟨Or.inr rfl, Or.inr rfl, Or.inr rfl, Or.inr rfl, Or.inl rfl, trivial⟩ ?_
            exact hX8 _ _ _ _ _ hrf h
          · have h := h.2 c14
            refine G_iload_n (i := 3) pX9_first_64 rfl rfl ?_
            refine G_istore_n (i := 1) (L' := [some (.ref 0), some (.int x3), some (.int x2), some (.int x3), some (.int r7)]) pX9_first_65 rfl rfl ?_
            refine G_iload (i := 4) pX9_first_66 rfl ?_
            refine G_istore_n (i := 2) (L' := [some (.ref 0), some (.int x3), some (.int r7), some (.int x3), some (.int r7)]) pX9_first_68 rfl rfl ?_
            obtain ⟨v16, e16⟩ : ∃ z : Int32, z = x3 + (1 : Int32) := ⟨_, rfl⟩
            have h := h v16 e16
            refine G_iincW (L' := [some (.ref 0), some (.int x3), some (.int r7), some (.int v16), some (.int r7)]) pX9_first_69 rfl ic_1 e16.symm rfl ?_
            refine G_goto pX9_first_72 ?_
            refine G_wk (L2 := [some (.ref 0), some (.int x3), some (.int r7), some (.int v16), none]) ⟨Or.inr rfl, Or.inr rfl, Or.inr rfl, Or.inr rfl, Or.inl rfl, trivial⟩ ?_
            exact hX8 _ _ _ _ _ hrf h
  exact key n rf _ _ _ _ hrf h0
def L_X9_first (mem : MMt) (Q : Int32 → MMt → Prop) : Prop := B_X9_first_8 (-1 : Int32) (201 : Int32) (0 : Int32) mem Q
set_option maxRecDepth 4000 in
theorem g_X9_first {sx : Nat × (Nat → Int32)} {rf : RFt} {Q : Int32 → MMt → Prop} (hrf : RFok rf) (mem : MMt) (h : L_X9_first mem Q) : Ct sx yX9_first cX9_first 5 (some .int) 7 [.ref 0] NX NX rf mem (QQi (RFok) Q) := by
  refine Ct_of [some (.ref 0), none, none, none, none] (by decide +kernel) (by simp [Lof, Value.category]) rfl ?_
  unfold L_X9_first at h
  refine G_iconst pX9_first_0 ic_m1 ?_
  refine G_istore_n (i := 1) (L' := [some (.ref 0), some (.int (-1 : Int32)), none, none, none]) pX9_first_1 rfl rfl ?_
  refine G_sipush pX9_first_2 si_201 ?_
  refine G_istore_n (i := 2) (L' := [some (.ref 0), some (.int (-1 : Int32)), some (.int (201 : Int32)), none, none]) pX9_first_5 rfl rfl ?_
  refine G_iconst pX9_first_6 ic_0 ?_
  refine G_istore_n (i := 3) (L' := [some (.ref 0), some (.int (-1 : Int32)), some (.int (201 : Int32)), some (.int (0 : Int32)), none]) pX9_first_7 rfl rfl ?_
  exact gB_X9_first_8 hrf (-1 : Int32) (201 : Int32) (0 : Int32) _ h
def B_X7_overBehind_19 (a1 : Nat) (x2 : Int32) (x4 : Int32) (mem : MMt) (Q : Int32 → MMt → Prop) : Prop := LOOP (σ := Int32 × MMt) (fun X19 z => (fun (x4 : Int32) (mem : MMt) => (((100 : Int32) < x4 → Q (-1 : Int32) mem) ∧ (¬ (100 : Int32) < x4 → ((¬ (mem 54 2) = (x2 * (40 : Int32)) → L_X7_goesOn mem (fun r4 m3 => ((¬ r4 = 0 → (∀ v6 : Int32, v6 = x4 + (1 : Int32) → X19 (v6, m3))) ∧ (r4 = 0 → Q (-1 : Int32) m3)))) ∧ ((mem 54 2) = (x2 * (40 : Int32)) → Q x4 mem))))) z.1 z.2) (x4, mem)
set_option maxRecDepth 4000 in
theorem gB_X7_overBehind_19 {sx : Nat × (Nat → Int32)} {rf : RFt} {Q : Int32 → MMt → Prop} (a1 : Nat) (ha1 : IS 1 a1) (hrf : RFok rf) (x2 : Int32) (x4 : Int32) (mem : MMt) (h : B_X7_overBehind_19 a1 x2 x4 mem Q) : G sx yX7_overBehind cX7_overBehind 5 (some .int) 6 NX NX (QQi (RFok) Q) NX rf mem 19 [some (.ref 53), none, some (.int x2), none, some (.int x4)] [] := by
  obtain ⟨I, ⟨n, h0⟩, hI⟩ := h
  have key : ∀ (n : Nat) (rf : RFt) (x4 : Int32) (mem : MMt), RFok rf → I n (x4, mem) → G sx yX7_overBehind cX7_overBehind 5 (some .int) 6 NX NX (QQi (RFok) Q) NX rf mem 19 [some (.ref 53), none, some (.int x2), none, some (.int x4)] [] := by
    intro n
    induction n using Nat.strongRecOn with
    | _ n ih =>
    intro rf x4 mem hrf h0
    have hX19 : ∀ (rf : RFt) (x4 : Int32) (mem : MMt), RFok rf → (fun s' => ∃ m, m < n ∧ I m s') (x4, mem) → G sx yX7_overBehind cX7_overBehind 5 (some .int) 6 NX NX (QQi (RFok) Q) NX rf mem 19 [some (.ref 53), none, some (.int x2), none, some (.int x4)] [] := fun rf x4 mem hrf ⟨m, hm, hi⟩ => ih m hm rf x4 mem hrf hi
    have h := hI n _ h0
    clear ih h0
    try dsimp only at h
    refine G_iload (i := 4) pX7_overBehind_19 rfl ?_
    refine G_bipush pX7_overBehind_21 bi_100 ?_
    refine G_icmp_gt pX7_overBehind_23 (fun c1 => ?_) (fun c1 => ?_)
    · have h := h.1 c1
      refine G_iconst pX7_overBehind_58 ic_m1 ?_
      exact G_ireturn (len := 1) pX7_overBehind_59 ⟨hrf, _, rfl, h⟩ ⟨_, rfl, rfl⟩
    · have h := h.2 c1
      refine G_aload_n (i := 0) pX7_overBehind_26 rfl rfl ?_
      refine G_getR (ci := 7) (j := 0) (N := 2) pX7_overBehind_27 fl_RX7_12 rfl ltk_53 shk_53 (by decide) rfl (hrf.lit 53 0 rfl) ?_
      refine G_getI (ci := 1) (j := 2) (N := 5) pX7_overBehind_30 fl_RX7_44 rfl ltk_54 shk_54 (by decide) rfl ?_
      refine G_iload_n (i := 2) pX7_overBehind_33 rfl rfl ?_
      refine G_bipush pX7_overBehind_34 bi_40 ?_
      refine G_imul pX7_overBehind_36 ?_
      refine G_icmp_ne pX7_overBehind_37 (fun c2 => ?_) (fun c2 => ?_)
      · have h := h.1 c2
        refine G_aload_n (i := 0) pX7_overBehind_43 rfl rfl ?_
        refine G_callV0i (b := 53) (ci := 7) (N := 2) pX7_overBehind_44 (g_X7_goesOn hrf _ h) mV_X7_goesOn ml_RX7_36 (by decide) ⟨Nat.le_refl _, Nat.le_refl _, Nat.le_refl _⟩ (Nat.le_of_ble_eq_true rfl) ltk_53 shk_53 rfl ?_
        intro r4 rf m3 hrf h hr4
        refine G_if_ne pX7_overBehind_47 (fun c5 => ?_) (fun c5 => ?_)
        · have h := h.1 c5
          obtain ⟨v6, e6⟩ : ∃ z : Int32, z = x4 + (1 : Int32) := ⟨_, rfl⟩
          have h := h v6 e6
          refine G_iincW (L' := [some (.ref 53), none, some (.int x2), none, some (.int v6)]) pX7_overBehind_52 rfl ic_1 e6.symm rfl ?_
          refine G_goto pX7_overBehind_55 ?_
          exact hX19 _ _ _ hrf h
        · have h := h.2 c5
          refine G_iconst pX7_overBehind_50 ic_m1 ?_
          exact G_ireturn (len := 1) pX7_overBehind_51 ⟨hrf, _, rfl, h⟩ ⟨_, rfl, rfl⟩
      · have h := h.2 c2
        refine G_iload (i := 4) pX7_overBehind_40 rfl ?_
        exact G_ireturn (len := 1) pX7_overBehind_42 ⟨hrf, _, rfl, h⟩ ⟨_, rfl, rfl⟩
  exact key n rf _ _ hrf h0
def L_X7_overBehind (a1 : Nat) (a2 : Int32) (a3 : Int32) (mem : MMt) (Q : Int32 → MMt → Prop) : Prop := L_X1_copyFrom 54 a1 mem (fun m1 => L_X1_shove 54 a3 m1 (fun m2 => B_X7_overBehind_19 a1 a2 (0 : Int32) m2 Q))
set_option maxRecDepth 4000 in
theorem g_X7_overBehind {sx : Nat × (Nat → Int32)} {rf : RFt} {Q : Int32 → MMt → Prop} (a1 : Nat) (a2 : Int32) (a3 : Int32) (ha1 : IS 1 a1) (hrf : RFok rf) (mem : MMt) (h : L_X7_overBehind a1 a2 a3 mem Q) : Ct sx yX7_overBehind cX7_overBehind 5 (some .int) 6 [.ref 53, .ref a1, .int a2, .int a3] NX NX rf mem (QQi (RFok) Q) := by
  refine Ct_of [some (.ref 53), some (.ref a1), some (.int a2), some (.int a3), none] (by decide +kernel) (by simp [Lof, Value.category]) rfl ?_
  unfold L_X7_overBehind at h
  refine G_aload_n (i := 0) pX7_overBehind_0 rfl rfl ?_
  refine G_getR (ci := 7) (j := 0) (N := 2) pX7_overBehind_1 fl_RX7_12 rfl ltk_53 shk_53 (by decide) rfl (hrf.lit 53 0 rfl) ?_
  refine G_aload_n (i := 1) pX7_overBehind_4 rfl rfl ?_
  refine G_callV1v (b := 54) (ci := 1) (N := 5) pX7_overBehind_5 (g_X1_copyFrom 54 a1 (IS_lit shk_54 ltk_54) ha1 hrf _ h) mV_X1_copyFrom ml_RX7_32 (by decide) ⟨Nat.le_refl _, Nat.le_refl _, Nat.le_refl _⟩ (Nat.le_of_ble_eq_true rfl) ltk_54 shk_54 rfl ?_
  intro rf m1 hrf h
  refine G_aload_n (i := 0) pX7_overBehind_8 rfl rfl ?_
  refine G_getR (ci := 7) (j := 0) (N := 2) pX7_overBehind_9 fl_RX7_12 rfl ltk_53 shk_53 (by decide) rfl (hrf.lit 53 0 rfl) ?_
  refine G_iload_n (i := 3) pX7_overBehind_12 rfl rfl ?_
  refine G_callV1v (b := 54) (ci := 1) (N := 5) pX7_overBehind_13 (g_X1_shove 54 a3 (IS_lit shk_54 ltk_54) hrf _ h) mV_X1_shove ml_RX7_40 (by decide) ⟨Nat.le_refl _, Nat.le_refl _, Nat.le_refl _⟩ (Nat.le_of_ble_eq_true rfl) ltk_54 shk_54 rfl ?_
  intro rf m2 hrf h
  refine G_iconst pX7_overBehind_16 ic_0 ?_
  refine G_istore (i := 4) (L' := [some (.ref 53), some (.ref a1), some (.int a2), some (.int a3), some (.int (0 : Int32))]) pX7_overBehind_17 rfl ?_
  refine G_wk (L2 := [some (.ref 53), none, some (.int a2), none, some (.int (0 : Int32))]) ⟨Or.inr rfl, Or.inl rfl, Or.inr rfl, Or.inl rfl, Or.inr rfl, trivial⟩ ?_
  exact gB_X7_overBehind_19 a1 ha1 hrf a2 (0 : Int32) _ h
def L_X9_over (a1 : Int32) (a2 : Int32) (a3 : Int32) (mem : MMt) (Q : Int32 → MMt → Prop) : Prop := L_X9_isGood a1 mem (fun r2 m1 => ((r2 = 0 → L_X9_error (1 : Int32) m1 (fun r5 m4 => Q r5 m4)) ∧ (¬ r2 = 0 → L_X9_isSide a2 m1 (fun r7 m6 => ((r7 = 0 → L_X9_error (1 : Int32) m6 (fun r10 m9 => Q r10 m9)) ∧ (¬ r7 = 0 → L_X9_isPush a3 m6 (fun r12 m11 => ((¬ r12 = 0 → (vp_in a1 8 ∧ L_X7_overBehind (1 + 2 + a1.toNatClampNeg) a2 a3 m11 (fun r16 m15 => ((0 ≤ r16 → Q r16 m15) ∧ (¬ 0 ≤ r16 → L_X9_error (2 : Int32) m15 (fun r19 m18 => Q r19 m18)))))) ∧ (r12 = 0 → L_X9_error (1 : Int32) m11 (fun r21 m20 => Q r21 m20))))))))))
set_option maxRecDepth 4000 in
theorem g_X9_over {sx : Nat × (Nat → Int32)} {rf : RFt} {Q : Int32 → MMt → Prop} (a1 : Int32) (a2 : Int32) (a3 : Int32) (hrf : RFok rf) (mem : MMt) (h : L_X9_over a1 a2 a3 mem Q) : Ct sx yX9_over cX9_over 5 (some .int) 7 [.ref 0, .int a1, .int a2, .int a3] NX NX rf mem (QQi (RFok) Q) := by
  refine Ct_of [some (.ref 0), some (.int a1), some (.int a2), some (.int a3), none] (by decide +kernel) (by simp [Lof, Value.category]) rfl ?_
  unfold L_X9_over at h
  refine G_aload_n (i := 0) pX9_over_0 rfl rfl ?_
  refine G_iload_n (i := 1) pX9_over_1 rfl rfl ?_
  refine G_callV1i (b := 0) (ci := 9) (N := 12) pX9_over_2 (g_X9_isGood a1 hrf _ h) mV_X9_isGood ml_RX9_101 (by decide) ⟨Nat.le_refl _, Nat.le_refl _, Nat.le_refl _⟩ (Nat.le_of_ble_eq_true rfl) ltk_0 shk_0 rfl ?_
  intro r2 rf m1 hrf h hr2
  refine G_if_eq pX9_over_5 (fun c3 => ?_) (fun c3 => ?_)
  · have h := h.1 c3
    refine G_aload_n (i := 0) pX9_over_22 rfl rfl ?_
    refine G_iconst pX9_over_23 ic_1 ?_
    refine G_callV1i (b := 0) (ci := 9) (N := 12) pX9_over_24 (g_X9_error (1 : Int32) hrf _ h) mV_X9_error ml_RX9_80 (by decide) ⟨Nat.le_refl _, Nat.le_refl _, Nat.le_refl _⟩ (Nat.le_of_ble_eq_true rfl) ltk_0 shk_0 rfl ?_
    intro r5 rf m4 hrf h hr5
    exact G_ireturn (len := 1) pX9_over_27 ⟨hrf, _, rfl, h⟩ ⟨_, rfl, rfl⟩
  · have h := h.2 c3
    refine G_iload_n (i := 2) pX9_over_8 rfl rfl ?_
    refine G_callS1i pX9_over_9 (g_X9_isSide a2 hrf _ h) mS_X9_isSide ml_RX9_160 (by decide) ⟨Nat.le_refl _, Nat.le_refl _, Nat.le_refl _⟩ (Nat.le_of_ble_eq_true rfl) ?_
    intro r7 rf m6 hrf h hr7
    refine G_if_eq pX9_over_12 (fun c8 => ?_) (fun c8 => ?_)
    · have h := h.1 c8
      refine G_aload_n (i := 0) pX9_over_22 rfl rfl ?_
      refine G_iconst pX9_over_23 ic_1 ?_
      refine G_callV1i (b := 0) (ci := 9) (N := 12) pX9_over_24 (g_X9_error (1 : Int32) hrf _ h) mV_X9_error ml_RX9_80 (by decide) ⟨Nat.le_refl _, Nat.le_refl _, Nat.le_refl _⟩ (Nat.le_of_ble_eq_true rfl) ltk_0 shk_0 rfl ?_
      intro r10 rf m9 hrf h hr10
      exact G_ireturn (len := 1) pX9_over_27 ⟨hrf, _, rfl, h⟩ ⟨_, rfl, rfl⟩
    · have h := h.2 c8
      refine G_iload_n (i := 3) pX9_over_15 rfl rfl ?_
      refine G_callS1i pX9_over_16 (g_X9_isPush a3 hrf _ h) mS_X9_isPush ml_RX9_148 (by decide) ⟨Nat.le_refl _, Nat.le_refl _, Nat.le_refl _⟩ (Nat.le_of_ble_eq_true rfl) ?_
      intro r12 rf m11 hrf h hr12
      refine G_if_ne pX9_over_19 (fun c13 => ?_) (fun c13 => ?_)
      · have h := h.1 c13
        refine G_aload_n (i := 0) pX9_over_28 rfl rfl ?_
        refine G_getR (ci := 9) (j := 5) (N := 12) pX9_over_29 fl_RX9_37 rfl ltk_0 shk_0 (by decide) rfl (hrf.lit 0 5 rfl) ?_
        refine G_aload_n (i := 0) pX9_over_32 rfl rfl ?_
        refine G_getR (ci := 9) (j := 0) (N := 12) pX9_over_33 fl_RX9_10 rfl ltk_0 shk_0 (by decide) rfl (hrf.lit 0 0 rfl) ?_
        refine G_getR (ci := 0) (j := 0) (N := 4) pX9_over_36 fl_RX9_88 rfl ltk_1 shk_1 (by decide) rfl (hrf.lit 1 0 rfl) ?_
        refine G_iload_n (i := 1) pX9_over_39 rfl rfl ?_
        obtain ⟨hi14, h⟩ := h
        refine G_aald pX9_over_40 ltk_2 shk_2 (by decide) hi14 (gd_rf (IS_lit shk_1 ltk_1) hrf hi14) ?_
        refine G_iload_n (i := 2) pX9_over_41 rfl rfl ?_
        refine G_iload_n (i := 3) pX9_over_42 rfl rfl ?_
        refine G_callV3i (b := 53) (ci := 7) (N := 2) pX9_over_43 (g_X7_overBehind (1 + 2 + a1.toNatClampNeg) a2 a3 (gd_in (IS_lit shk_1 ltk_1) hi14) hrf _ h) mV_X7_overBehind ml_RX9_233 (by decide) ⟨Nat.le_refl _, Nat.le_refl _, Nat.le_refl _⟩ (Nat.le_of_ble_eq_true rfl) ltk_53 shk_53 rfl ?_
        intro r16 rf m15 hrf h hr16
        refine G_istore (i := 4) (L' := [some (.ref 0), some (.int a1), some (.int a2), some (.int a3), some (.int r16)]) pX9_over_46 rfl ?_
        refine G_iload (i := 4) pX9_over_48 rfl ?_
        refine G_if_ge pX9_over_50 (fun c17 => ?_) (fun c17 => ?_)
        · have h := h.1 c17
          refine G_iload (i := 4) pX9_over_61 rfl ?_
          exact G_ireturn (len := 1) pX9_over_63 ⟨hrf, _, rfl, h⟩ ⟨_, rfl, rfl⟩
        · have h := h.2 c17
          refine G_aload_n (i := 0) pX9_over_53 rfl rfl ?_
          refine G_iconst pX9_over_54 ic_2 ?_
          refine G_callV1i (b := 0) (ci := 9) (N := 12) pX9_over_55 (g_X9_error (2 : Int32) hrf _ h) mV_X9_error ml_RX9_80 (by decide) ⟨Nat.le_refl _, Nat.le_refl _, Nat.le_refl _⟩ (Nat.le_of_ble_eq_true rfl) ltk_0 shk_0 rfl ?_
          intro r19 rf m18 hrf h hr19
          refine G_goto pX9_over_58 ?_
          exact G_ireturn (len := 1) pX9_over_63 ⟨hrf, _, rfl, h⟩ ⟨_, rfl, rfl⟩
      · have h := h.2 c13
        refine G_aload_n (i := 0) pX9_over_22 rfl rfl ?_
        refine G_iconst pX9_over_23 ic_1 ?_
        refine G_callV1i (b := 0) (ci := 9) (N := 12) pX9_over_24 (g_X9_error (1 : Int32) hrf _ h) mV_X9_error ml_RX9_80 (by decide) ⟨Nat.le_refl _, Nat.le_refl _, Nat.le_refl _⟩ (Nat.le_of_ble_eq_true rfl) ltk_0 shk_0 rfl ?_
        intro r21 rf m20 hrf h hr21
        exact G_ireturn (len := 1) pX9_over_27 ⟨hrf, _, rfl, h⟩ ⟨_, rfl, rfl⟩
def L_X9_pushBySize (a1 : Int32) (mem : MMt) (Q : Int32 → MMt → Prop) : Prop := ((¬ (a1 - a1 / (2 : Int32) * (2 : Int32)) = (1 : Int32) → Q (a1 / (2 : Int32)) mem) ∧ ((a1 - a1 / (2 : Int32) * (2 : Int32)) = (1 : Int32) → Q ((-(a1 + (1 : Int32))) / (2 : Int32)) mem))
set_option maxRecDepth 4000 in
theorem g_X9_pushBySize {sx : Nat × (Nat → Int32)} {M : RFt → Prop} {rf : RFt} {Q : Int32 → MMt → Prop} (a1 : Int32) (hrf : M rf) (mem : MMt) (h : L_X9_pushBySize a1 mem Q) : Ct sx yX9_pushBySize cX9_pushBySize 1 (some .int) 1 [.int a1] NX NX rf mem (QQi (M) Q) := by
  refine Ct_of [some (.int a1)] (by decide +kernel) (by simp [Lof, Value.category]) rfl ?_
  unfold L_X9_pushBySize at h
  refine G_iload_n (i := 0) pX9_pushBySize_0 rfl rfl ?_
  refine G_iconst pX9_pushBySize_1 ic_2 ?_
  refine G_irem pX9_pushBySize_2 (by decide) ?_
  refine G_iconst pX9_pushBySize_3 ic_1 ?_
  refine G_icmp_ne pX9_pushBySize_4 (fun c1 => ?_) (fun c1 => ?_)
  · have h := h.1 c1
    refine G_iload_n (i := 0) pX9_pushBySize_16 rfl rfl ?_
    refine G_iconst pX9_pushBySize_17 ic_2 ?_
    refine G_idiv pX9_pushBySize_18 (by decide) ?_
    exact G_ireturn (len := 1) pX9_pushBySize_19 ⟨hrf, _, rfl, h⟩ ⟨_, rfl, rfl⟩
  · have h := h.2 c1
    refine G_iload_n (i := 0) pX9_pushBySize_7 rfl rfl ?_
    refine G_iconst pX9_pushBySize_8 ic_1 ?_
    refine G_iadd pX9_pushBySize_9 ?_
    refine G_ineg pX9_pushBySize_10 ?_
    refine G_iconst pX9_pushBySize_11 ic_2 ?_
    refine G_idiv pX9_pushBySize_12 (by decide) ?_
    refine G_goto pX9_pushBySize_13 ?_
    exact G_ireturn (len := 1) pX9_pushBySize_19 ⟨hrf, _, rfl, h⟩ ⟨_, rfl, rfl⟩
def B_X9_soonest_87 (X39 : Int32 × Int32 × Int32 × MMt → Prop) (x1 : Int32) (x2 : Int32) (x3 : Int32) (x6 : Int32) (x7 : Int32) (mem : MMt) (Q : Int32 → MMt → Prop) : Prop := L_X9_pushBySize x6 mem (fun r2 m1 => (∀ v3 : Int32, v3 = x6 + (1 : Int32) → X39 (r2, x7, v3, m1)))
set_option maxRecDepth 4000 in
theorem gB_X9_soonest_87 {sx : Nat × (Nat → Int32)} {X39 : Int32 × Int32 × Int32 × MMt → Prop} {rf : RFt} {Q : Int32 → MMt → Prop} (hrf : RFok rf) (x1 : Int32) (x2 : Int32) (x3 : Int32) (x6 : Int32) (x7 : Int32) (hX39 : ∀ (rf : RFt) (x4 : Int32) (x5 : Int32) (x6 : Int32) (mem : MMt), RFok rf → X39 (x4, x5, x6, mem) → G sx yX9_soonest cX9_soonest 8 (some .int) 7 NX NX (QQi (RFok) Q) NX rf mem 39 [some (.ref 0), some (.int x1), some (.int x2), some (.int x3), some (.int x4), some (.int x5), some (.int x6), none] []) (mem : MMt) (h : B_X9_soonest_87 X39 x1 x2 x3 x6 x7 mem Q) : G sx yX9_soonest cX9_soonest 8 (some .int) 7 NX NX (QQi (RFok) Q) NX rf mem 87 [some (.ref 0), some (.int x1), some (.int x2), some (.int x3), none, none, some (.int x6), some (.int x7)] [] := by
  unfold B_X9_soonest_87 at h
  refine G_iload (i := 6) pX9_soonest_87 rfl ?_
  refine G_callS1i pX9_soonest_89 (g_X9_pushBySize x6 hrf _ h) mS_X9_pushBySize ml_RX9_237 (by decide) ⟨Nat.le_refl _, Nat.le_refl _, Nat.le_refl _⟩ (Nat.le_of_ble_eq_true rfl) ?_
  intro r2 rf m1 hrf h hr2
  refine G_istore (i := 4) (L' := [some (.ref 0), some (.int x1), some (.int x2), some (.int x3), some (.int r2), none, some (.int x6), some (.int x7)]) pX9_soonest_92 rfl ?_
  refine G_iload (i := 7) pX9_soonest_94 rfl ?_
  refine G_istore (i := 5) (L' := [some (.ref 0), some (.int x1), some (.int x2), some (.int x3), some (.int r2), some (.int x7), some (.int x6), some (.int x7)]) pX9_soonest_96 rfl ?_
  obtain ⟨v3, e3⟩ : ∃ z : Int32, z = x6 + (1 : Int32) := ⟨_, rfl⟩
  have h := h v3 e3
  refine G_iincW (L' := [some (.ref 0), some (.int x1), some (.int x2), some (.int x3), some (.int r2), some (.int x7), some (.int v3), some (.int x7)]) pX9_soonest_98 rfl ic_1 e3.symm rfl ?_
  refine G_goto pX9_soonest_101 ?_
  refine G_wk (L2 := [some (.ref 0), some (.int x1), some (.int x2), some (.int x3), some (.int r2), some (.int x7), some (.int v3), none]) ⟨Or.inr rfl, Or.inr rfl, Or.inr rfl, Or.inr rfl, Or.inr rfl, Or.inr rfl, Or.inr rfl, Or.inl rfl, trivial⟩ ?_
  exact hX39 _ _ _ _ _ hrf h
def B_X9_soonest_39 (x1 : Int32) (x2 : Int32) (x3 : Int32) (x4 : Int32) (x5 : Int32) (x6 : Int32) (mem : MMt) (Q : Int32 → MMt → Prop) : Prop := LOOP (σ := Int32 × Int32 × Int32 × MMt) (fun X39 z => (fun (x4 : Int32) (x5 : Int32) (x6 : Int32) (mem : MMt) => (((18 : Int32) < x6 → ((0 ≤ x5 → ((¬ x3 = 0 → Q x5 mem) ∧ (x3 = 0 → Q x4 mem))) ∧ (¬ 0 ≤ x5 → L_X9_error (2 : Int32) mem (fun r5 m4 => Q r5 m4)))) ∧ (¬ (18 : Int32) < x6 → (vp_in x1 8 ∧ L_X9_pushBySize x6 mem (fun r8 m7 => L_X7_overBehind (1 + 2 + x1.toNatClampNeg) x2 r8 m7 (fun r10 m9 => ((r10 < 0 → (∀ v12 : Int32, v12 = x6 + (1 : Int32) → X39 (x4, x5, v12, m9))) ∧ (¬ r10 < 0 → ((x5 < 0 → B_X9_soonest_87 X39 x1 x2 x3 x6 r10 m9 Q) ∧ (¬ x5 < 0 → ((x5 ≤ r10 → (∀ v15 : Int32, v15 = x6 + (1 : Int32) → X39 (x4, x5, v15, m9))) ∧ (¬ x5 ≤ r10 → B_X9_soonest_87 X39 x1 x2 x3 x6 r10 m9 Q)))))))))))) z.1 z.2.1 z.2.2.1 z.2.2.2) (x4, x5, x6, mem)
set_option maxRecDepth 4000 in
theorem gB_X9_soonest_39 {sx : Nat × (Nat → Int32)} {rf : RFt} {Q : Int32 → MMt → Prop} (hrf : RFok rf) (x1 : Int32) (x2 : Int32) (x3 : Int32) (x4 : Int32) (x5 : Int32) (x6 : Int32) (mem : MMt) (h : B_X9_soonest_39 x1 x2 x3 x4 x5 x6 mem Q) : G sx yX9_soonest cX9_soonest 8 (some .int) 7 NX NX (QQi (RFok) Q) NX rf mem 39 [some (.ref 0), some (.int x1), some (.int x2), some (.int x3), some (.int x4), some (.int x5), some (.int x6), none] [] := by
  obtain ⟨I, ⟨n, h0⟩, hI⟩ := h
  have key : ∀ (n : Nat) (rf : RFt) (x4 : Int32) (x5 : Int32) (x6 : Int32) (mem : MMt), RFok rf → I n (x4, x5, x6, mem) → G sx yX9_soonest cX9_soonest 8 (some .int) 7 NX NX (QQi (RFok) Q) NX rf mem 39 [some (.ref 0), some (.int x1), some (.int x2), some (.int x3), some (.int x4), some (.int x5), some (.int x6), none] [] := by
    intro n
    induction n using Nat.strongRecOn with
    | _ n ih =>
    intro rf x4 x5 x6 mem hrf h0
    have hX39 : ∀ (rf : RFt) (x4 : Int32) (x5 : Int32) (x6 : Int32) (mem : MMt), RFok rf → (fun s' => ∃ m, m < n ∧ I m s') (x4, x5, x6, mem) → G sx yX9_soonest cX9_soonest 8 (some .int) 7 NX NX (QQi (RFok) Q) NX rf mem 39 [some (.ref 0), some (.int x1), some (.int x2), some (.int x3), some (.int x4), some (.int x5), some (.int x6), none] [] := fun rf x4 x5 x6 mem hrf ⟨m, hm, hi⟩ => ih m hm rf x4 x5 x6 mem hrf hi
    have h := hI n _ h0
    clear ih h0
    try dsimp only at h
    refine G_iload (i := 6) pX9_soonest_39 rfl ?_
    refine G_bipush pX9_soonest_41 bi_18 ?_
    refine G_icmp_gt pX9_soonest_43 (fun c1 => ?_) (fun c1 => ?_)
    · have h := h.1 c1
      refine G_iload (i := 5) pX9_soonest_104 rfl ?_
      refine G_if_ge pX9_soonest_106 (fun c2 => ?_) (fun c2 => ?_)
      · have h := h.1 c2
        refine G_iload_n (i := 3) pX9_soonest_115 rfl rfl ?_
        refine G_if_ne pX9_soonest_116 (fun c3 => ?_) (fun c3 => ?_)
        · have h := h.1 c3
          refine G_iload (i := 5) pX9_soonest_124 rfl ?_
          exact G_ireturn (len := 1) pX9_soonest_126 ⟨hrf, _, rfl, h⟩ ⟨_, rfl, rfl⟩
        · have h := h.2 c3
          refine G_iload (i := 4) pX9_soonest_119 rfl ?_
          refine G_goto pX9_soonest_121 ?_
          exact G_ireturn (len := 1) pX9_soonest_126 ⟨hrf, _, rfl, h⟩ ⟨_, rfl, rfl⟩
      · have h := h.2 c2
        refine G_aload_n (i := 0) pX9_soonest_109 rfl rfl ?_
        refine G_iconst pX9_soonest_110 ic_2 ?_
        refine G_callV1i (b := 0) (ci := 9) (N := 12) pX9_soonest_111 (g_X9_error (2 : Int32) hrf _ h) mV_X9_error ml_RX9_80 (by decide) ⟨Nat.le_refl _, Nat.le_refl _, Nat.le_refl _⟩ (Nat.le_of_ble_eq_true rfl) ltk_0 shk_0 rfl ?_
        intro r5 rf m4 hrf h hr5
        exact G_ireturn (len := 1) pX9_soonest_114 ⟨hrf, _, rfl, h⟩ ⟨_, rfl, rfl⟩
    · have h := h.2 c1
      refine G_aload_n (i := 0) pX9_soonest_46 rfl rfl ?_
      refine G_getR (ci := 9) (j := 5) (N := 12) pX9_soonest_47 fl_RX9_37 rfl ltk_0 shk_0 (by decide) rfl (hrf.lit 0 5 rfl) ?_
      refine G_aload_n (i := 0) pX9_soonest_50 rfl rfl ?_
      refine G_getR (ci := 9) (j := 0) (N := 12) pX9_soonest_51 fl_RX9_10 rfl ltk_0 shk_0 (by decide) rfl (hrf.lit 0 0 rfl) ?_
      refine G_getR (ci := 0) (j := 0) (N := 4) pX9_soonest_54 fl_RX9_88 rfl ltk_1 shk_1 (by decide) rfl (hrf.lit 1 0 rfl) ?_
      refine G_iload_n (i := 1) pX9_soonest_57 rfl rfl ?_
      obtain ⟨hi6, h⟩ := h
      refine G_aald pX9_soonest_58 ltk_2 shk_2 (by decide) hi6 (gd_rf (IS_lit shk_1 ltk_1) hrf hi6) ?_
      refine G_iload_n (i := 2) pX9_soonest_59 rfl rfl ?_
      refine G_iload (i := 6) pX9_soonest_60 rfl ?_
      refine G_callS1i pX9_soonest_62 (g_X9_pushBySize x6 hrf _ h) mS_X9_pushBySize ml_RX9_237 (by decide) ⟨Nat.le_refl _, Nat.le_refl _, Nat.le_refl _⟩ (Nat.le_of_ble_eq_true rfl) ?_
      intro r8 rf m7 hrf h hr8
      refine G_callV3i (b := 53) (ci := 7) (N := 2) pX9_soonest_65 (g_X7_overBehind (1 + 2 + x1.toNatClampNeg) x2 r8 (gd_in (IS_lit shk_1 ltk_1) hi6) hrf _ h) mV_X7_overBehind ml_RX9_233 (by decide) ⟨Nat.le_refl _, Nat.le_refl _, Nat.le_refl _⟩ (Nat.le_of_ble_eq_true rfl) ltk_53 shk_53 rfl ?_
      intro r10 rf m9 hrf h hr10
      refine G_istore (i := 7) (L' := [some (.ref 0), some (.int x1), some (.int x2), some (.int x3), some (.int x4), some (.int x5), some (.int x6), some (.int r10)]) pX9_soonest_68 rfl ?_
      refine G_iload (i := 7) pX9_soonest_70 rfl ?_
      refine G_if_lt pX9_soonest_72 (fun c11 => ?_) (fun c11 => ?_)
      · have h := h.1 c11
        obtain ⟨v12, e12⟩ : ∃ z : Int32, z = x6 + (1 : Int32) := ⟨_, rfl⟩
        have h := h v12 e12
        refine G_iincW (L' := [some (.ref 0), some (.int x1), some (.int x2), some (.int x3), some (.int x4), some (.int x5), some (.int v12), some (.int r10)]) pX9_soonest_98 rfl ic_1 e12.symm rfl ?_
        refine G_goto pX9_soonest_101 ?_
        refine G_wk (L2 := [some (.ref 0), some (.int x1), some (.int x2), some (.int x3), some (.int x4), some (.int x5), some (.int v12), none]) ⟨Or.inr rfl, Or.inr rfl, Or.inr rfl, Or.inr rfl, Or.inr rfl, Or.inr rfl, Or.inr rfl, Or.inl rfl, trivial⟩ ?_
        exact hX39 _ _ _ _ _ hrf h
      · have h := h.2 c11
        refine G_iload (i := 5) pX9_soonest_75 rfl ?_
        refine G_if_lt pX9_soonest_77 (fun c13 => ?_) (fun c13 => ?_)
        · have h := h.1 c13
          refine G_wk (L2 := [some (.ref 0), some (.int x1), some (.int x2), some (.int x3), none, none, some (.int x6), some (.int r10)]) ⟨Or.inr rfl, Or.inr rfl, Or.inr rfl, Or.inr rfl, Or.inl rfl, Or.inl rfl, Or.inr rfl, Or.inr rfl, trivial⟩ ?_
          exact gB_X9_soonest_87 hrf x1 x2 x3 x6 r10 hX39 _ h
        · have h := h.2 c13
          refine G_iload (i := 7) pX9_soonest_80 rfl ?_
          refine G_iload (i := 5) pX9_soonest_82 rfl ?_
          refine G_icmp_ge pX9_soonest_84 (fun c14 => ?_) (fun c14 => ?_)
          · have h := h.1 c14
            obtain ⟨v15, e15⟩ : ∃ z : Int32, z = x6 + (1 : Int32) := ⟨_, rfl⟩
            have h := h v15 e15
            refine G_iincW (L' := [some (.ref 0), some (.int x1), some (.int x2), some (.int x3), some (.int x4), some (.int x5), some (.int v15), some (.int r10)]) pX9_soonest_98 rfl ic_1 e15.symm rfl ?_
            refine G_goto pX9_soonest_101 ?_
            refine G_wk (L2 := [some (.ref 0), some (.int x1), some (.int x2), some (.int x3), some (.int x4), some (.int x5), some (.int v15), none]) ⟨Or.inr rfl, Or.inr rfl, Or.inr rfl, Or.inr rfl, Or.inr rfl, Or.inr rfl, Or.inr rfl, Or.inl rfl, trivial⟩ ?_
            exact hX39 _ _ _ _ _ hrf h
          · have h := h.2 c14
            refine G_wk (L2 := [some (.ref 0), some (.int x1), some (.int x2), some (.int x3), none, none, some (.int x6), some (.int r10)]) ⟨Or.inr rfl, Or.inr rfl, Or.inr rfl, Or.inr rfl, Or.inl rfl, Or.inl rfl, Or.inr rfl, Or.inr rfl, trivial⟩ ?_
            exact gB_X9_soonest_87 hrf x1 x2 x3 x6 r10 hX39 _ h
  exact key n rf _ _ _ _ hrf h0
def L_X9_soonest (a1 : Int32) (a2 : Int32) (a3 : Int32) (mem : MMt) (Q : Int32 → MMt → Prop) : Prop := L_X9_isGood a1 mem (fun r2 m1 => ((r2 = 0 → L_X9_error (1 : Int32) m1 (fun r5 m4 => Q r5 m4)) ∧ (¬ r2 = 0 → L_X9_isSide a2 m1 (fun r7 m6 => ((r7 = 0 → L_X9_error (1 : Int32) m6 (fun r10 m9 => Q r10 m9)) ∧ (¬ r7 = 0 → L_X9_within a3 (0 : Int32) (1 : Int32) m6 (fun r12 m11 => ((¬ r12 = 0 → B_X9_soonest_39 a1 a2 a3 (0 : Int32) (-1 : Int32) (0 : Int32) m11 Q) ∧ (r12 = 0 → L_X9_error (1 : Int32) m11 (fun r15 m14 => Q r15 m14))))))))))
set_option maxRecDepth 4000 in
theorem g_X9_soonest {sx : Nat × (Nat → Int32)} {rf : RFt} {Q : Int32 → MMt → Prop} (a1 : Int32) (a2 : Int32) (a3 : Int32) (hrf : RFok rf) (mem : MMt) (h : L_X9_soonest a1 a2 a3 mem Q) : Ct sx yX9_soonest cX9_soonest 8 (some .int) 7 [.ref 0, .int a1, .int a2, .int a3] NX NX rf mem (QQi (RFok) Q) := by
  refine Ct_of [some (.ref 0), some (.int a1), some (.int a2), some (.int a3), none, none, none, none] (by decide +kernel) (by simp [Lof, Value.category]) rfl ?_
  unfold L_X9_soonest at h
  refine G_aload_n (i := 0) pX9_soonest_0 rfl rfl ?_
  refine G_iload_n (i := 1) pX9_soonest_1 rfl rfl ?_
  refine G_callV1i (b := 0) (ci := 9) (N := 12) pX9_soonest_2 (g_X9_isGood a1 hrf _ h) mV_X9_isGood ml_RX9_101 (by decide) ⟨Nat.le_refl _, Nat.le_refl _, Nat.le_refl _⟩ (Nat.le_of_ble_eq_true rfl) ltk_0 shk_0 rfl ?_
  intro r2 rf m1 hrf h hr2
  refine G_if_eq pX9_soonest_5 (fun c3 => ?_) (fun c3 => ?_)
  · have h := h.1 c3
    refine G_aload_n (i := 0) pX9_soonest_24 rfl rfl ?_
    refine G_iconst pX9_soonest_25 ic_1 ?_
    refine G_callV1i (b := 0) (ci := 9) (N := 12) pX9_soonest_26 (g_X9_error (1 : Int32) hrf _ h) mV_X9_error ml_RX9_80 (by decide) ⟨Nat.le_refl _, Nat.le_refl _, Nat.le_refl _⟩ (Nat.le_of_ble_eq_true rfl) ltk_0 shk_0 rfl ?_
    intro r5 rf m4 hrf h hr5
    exact G_ireturn (len := 1) pX9_soonest_29 ⟨hrf, _, rfl, h⟩ ⟨_, rfl, rfl⟩
  · have h := h.2 c3
    refine G_iload_n (i := 2) pX9_soonest_8 rfl rfl ?_
    refine G_callS1i pX9_soonest_9 (g_X9_isSide a2 hrf _ h) mS_X9_isSide ml_RX9_160 (by decide) ⟨Nat.le_refl _, Nat.le_refl _, Nat.le_refl _⟩ (Nat.le_of_ble_eq_true rfl) ?_
    intro r7 rf m6 hrf h hr7
    refine G_if_eq pX9_soonest_12 (fun c8 => ?_) (fun c8 => ?_)
    · have h := h.1 c8
      refine G_aload_n (i := 0) pX9_soonest_24 rfl rfl ?_
      refine G_iconst pX9_soonest_25 ic_1 ?_
      refine G_callV1i (b := 0) (ci := 9) (N := 12) pX9_soonest_26 (g_X9_error (1 : Int32) hrf _ h) mV_X9_error ml_RX9_80 (by decide) ⟨Nat.le_refl _, Nat.le_refl _, Nat.le_refl _⟩ (Nat.le_of_ble_eq_true rfl) ltk_0 shk_0 rfl ?_
      intro r10 rf m9 hrf h hr10
      exact G_ireturn (len := 1) pX9_soonest_29 ⟨hrf, _, rfl, h⟩ ⟨_, rfl, rfl⟩
    · have h := h.2 c8
      refine G_iload_n (i := 3) pX9_soonest_15 rfl rfl ?_
      refine G_iconst pX9_soonest_16 ic_0 ?_
      refine G_iconst pX9_soonest_17 ic_1 ?_
      refine G_callS3i pX9_soonest_18 (g_X9_within a3 (0 : Int32) (1 : Int32) hrf _ h) mS_X9_within ml_RX9_104 (by decide) ⟨Nat.le_refl _, Nat.le_refl _, Nat.le_refl _⟩ (Nat.le_of_ble_eq_true rfl) ?_
      intro r12 rf m11 hrf h hr12
      refine G_if_ne pX9_soonest_21 (fun c13 => ?_) (fun c13 => ?_)
      · have h := h.1 c13
        refine G_iconst pX9_soonest_30 ic_0 ?_
        refine G_istore (i := 4) (L' := [some (.ref 0), some (.int a1), some (.int a2), some (.int a3), some (.int (0 : Int32)), none, none, none]) pX9_soonest_31 rfl ?_
        refine G_iconst pX9_soonest_33 ic_m1 ?_
        refine G_istore (i := 5) (L' := [some (.ref 0), some (.int a1), some (.int a2), some (.int a3), some (.int (0 : Int32)), some (.int (-1 : Int32)), none, none]) pX9_soonest_34 rfl ?_
        refine G_iconst pX9_soonest_36 ic_0 ?_
        refine G_istore (i := 6) (L' := [some (.ref 0), some (.int a1), some (.int a2), some (.int a3), some (.int (0 : Int32)), some (.int (-1 : Int32)), some (.int (0 : Int32)), none]) pX9_soonest_37 rfl ?_
        exact gB_X9_soonest_39 hrf a1 a2 a3 (0 : Int32) (-1 : Int32) (0 : Int32) _ h
      · have h := h.2 c13
        refine G_aload_n (i := 0) pX9_soonest_24 rfl rfl ?_
        refine G_iconst pX9_soonest_25 ic_1 ?_
        refine G_callV1i (b := 0) (ci := 9) (N := 12) pX9_soonest_26 (g_X9_error (1 : Int32) hrf _ h) mV_X9_error ml_RX9_80 (by decide) ⟨Nat.le_refl _, Nat.le_refl _, Nat.le_refl _⟩ (Nat.le_of_ble_eq_true rfl) ltk_0 shk_0 rfl ?_
        intro r15 rf m14 hrf h hr15
        exact G_ireturn (len := 1) pX9_soonest_29 ⟨hrf, _, rfl, h⟩ ⟨_, rfl, rfl⟩
def B_X9_least_23 (x1 : Int32) (x2 : Int32) (x3 : Int32) (mem : MMt) (Q : Int32 → MMt → Prop) : Prop := LOOP (σ := Int32 × MMt) (fun X23 z => (fun (x3 : Int32) (mem : MMt) => (((18 : Int32) < x3 → L_X9_error (2 : Int32) mem (fun r3 m2 => Q r3 m2)) ∧ (¬ (18 : Int32) < x3 → (vp_in x1 8 ∧ L_X9_pushBySize x3 mem (fun r6 m5 => L_X7_overBehind (1 + 2 + x1.toNatClampNeg) x2 r6 m5 (fun r8 m7 => ((r8 < 0 → (∀ v10 : Int32, v10 = x3 + (1 : Int32) → X23 (v10, m7))) ∧ (¬ r8 < 0 → L_X9_pushBySize x3 m7 (fun r12 m11 => Q r12 m11))))))))) z.1 z.2) (x3, mem)
set_option maxRecDepth 4000 in
theorem gB_X9_least_23 {sx : Nat × (Nat → Int32)} {rf : RFt} {Q : Int32 → MMt → Prop} (hrf : RFok rf) (x1 : Int32) (x2 : Int32) (x3 : Int32) (mem : MMt) (h : B_X9_least_23 x1 x2 x3 mem Q) : G sx yX9_least cX9_least 4 (some .int) 7 NX NX (QQi (RFok) Q) NX rf mem 23 [some (.ref 0), some (.int x1), some (.int x2), some (.int x3)] [] := by
  obtain ⟨I, ⟨n, h0⟩, hI⟩ := h
  have key : ∀ (n : Nat) (rf : RFt) (x3 : Int32) (mem : MMt), RFok rf → I n (x3, mem) → G sx yX9_least cX9_least 4 (some .int) 7 NX NX (QQi (RFok) Q) NX rf mem 23 [some (.ref 0), some (.int x1), some (.int x2), some (.int x3)] [] := by
    intro n
    induction n using Nat.strongRecOn with
    | _ n ih =>
    intro rf x3 mem hrf h0
    have hX23 : ∀ (rf : RFt) (x3 : Int32) (mem : MMt), RFok rf → (fun s' => ∃ m, m < n ∧ I m s') (x3, mem) → G sx yX9_least cX9_least 4 (some .int) 7 NX NX (QQi (RFok) Q) NX rf mem 23 [some (.ref 0), some (.int x1), some (.int x2), some (.int x3)] [] := fun rf x3 mem hrf ⟨m, hm, hi⟩ => ih m hm rf x3 mem hrf hi
    have h := hI n _ h0
    clear ih h0
    try dsimp only at h
    refine G_iload_n (i := 3) pX9_least_23 rfl rfl ?_
    refine G_bipush pX9_least_24 bi_18 ?_
    refine G_icmp_gt pX9_least_26 (fun c1 => ?_) (fun c1 => ?_)
    · have h := h.1 c1
      refine G_aload_n (i := 0) pX9_least_64 rfl rfl ?_
      refine G_iconst pX9_least_65 ic_2 ?_
      refine G_callV1i (b := 0) (ci := 9) (N := 12) pX9_least_66 (g_X9_error (2 : Int32) hrf _ h) mV_X9_error ml_RX9_80 (by decide) ⟨Nat.le_refl _, Nat.le_refl _, Nat.le_refl _⟩ (Nat.le_of_ble_eq_true rfl) ltk_0 shk_0 rfl ?_
      intro r3 rf m2 hrf h hr3
      exact G_ireturn (len := 1) pX9_least_69 ⟨hrf, _, rfl, h⟩ ⟨_, rfl, rfl⟩
    · have h := h.2 c1
      refine G_aload_n (i := 0) pX9_least_29 rfl rfl ?_
      refine G_getR (ci := 9) (j := 5) (N := 12) pX9_least_30 fl_RX9_37 rfl ltk_0 shk_0 (by decide) rfl (hrf.lit 0 5 rfl) ?_
      refine G_aload_n (i := 0) pX9_least_33 rfl rfl ?_
      refine G_getR (ci := 9) (j := 0) (N := 12) pX9_least_34 fl_RX9_10 rfl ltk_0 shk_0 (by decide) rfl (hrf.lit 0 0 rfl) ?_
      refine G_getR (ci := 0) (j := 0) (N := 4) pX9_least_37 fl_RX9_88 rfl ltk_1 shk_1 (by decide) rfl (hrf.lit 1 0 rfl) ?_
      refine G_iload_n (i := 1) pX9_least_40 rfl rfl ?_
      obtain ⟨hi4, h⟩ := h
      refine G_aald pX9_least_41 ltk_2 shk_2 (by decide) hi4 (gd_rf (IS_lit shk_1 ltk_1) hrf hi4) ?_
      refine G_iload_n (i := 2) pX9_least_42 rfl rfl ?_
      refine G_iload_n (i := 3) pX9_least_43 rfl rfl ?_
      refine G_callS1i pX9_least_44 (g_X9_pushBySize x3 hrf _ h) mS_X9_pushBySize ml_RX9_237 (by decide) ⟨Nat.le_refl _, Nat.le_refl _, Nat.le_refl _⟩ (Nat.le_of_ble_eq_true rfl) ?_
      intro r6 rf m5 hrf h hr6
      refine G_callV3i (b := 53) (ci := 7) (N := 2) pX9_least_47 (g_X7_overBehind (1 + 2 + x1.toNatClampNeg) x2 r6 (gd_in (IS_lit shk_1 ltk_1) hi4) hrf _ h) mV_X7_overBehind ml_RX9_233 (by decide) ⟨Nat.le_refl _, Nat.le_refl _, Nat.le_refl _⟩ (Nat.le_of_ble_eq_true rfl) ltk_53 shk_53 rfl ?_
      intro r8 rf m7 hrf h hr8
      refine G_if_lt pX9_least_50 (fun c9 => ?_) (fun c9 => ?_)
      · have h := h.1 c9
        obtain ⟨v10, e10⟩ : ∃ z : Int32, z = x3 + (1 : Int32) := ⟨_, rfl⟩
        have h := h v10 e10
        refine G_iincW (L' := [some (.ref 0), some (.int x1), some (.int x2), some (.int v10)]) pX9_least_58 rfl ic_1 e10.symm rfl ?_
        refine G_goto pX9_least_61 ?_
        exact hX23 _ _ _ hrf h
      · have h := h.2 c9
        refine G_iload_n (i := 3) pX9_least_53 rfl rfl ?_
        refine G_callS1i pX9_least_54 (g_X9_pushBySize x3 hrf _ h) mS_X9_pushBySize ml_RX9_237 (by decide) ⟨Nat.le_refl _, Nat.le_refl _, Nat.le_refl _⟩ (Nat.le_of_ble_eq_true rfl) ?_
        intro r12 rf m11 hrf h hr12
        exact G_ireturn (len := 1) pX9_least_57 ⟨hrf, _, rfl, h⟩ ⟨_, rfl, rfl⟩
  exact key n rf _ _ hrf h0
def L_X9_least (a1 : Int32) (a2 : Int32) (mem : MMt) (Q : Int32 → MMt → Prop) : Prop := L_X9_isGood a1 mem (fun r2 m1 => ((r2 = 0 → L_X9_error (1 : Int32) m1 (fun r5 m4 => Q r5 m4)) ∧ (¬ r2 = 0 → L_X9_isSide a2 m1 (fun r7 m6 => ((¬ r7 = 0 → B_X9_least_23 a1 a2 (0 : Int32) m6 Q) ∧ (r7 = 0 → L_X9_error (1 : Int32) m6 (fun r10 m9 => Q r10 m9)))))))
set_option maxRecDepth 4000 in
theorem g_X9_least {sx : Nat × (Nat → Int32)} {rf : RFt} {Q : Int32 → MMt → Prop} (a1 : Int32) (a2 : Int32) (hrf : RFok rf) (mem : MMt) (h : L_X9_least a1 a2 mem Q) : Ct sx yX9_least cX9_least 4 (some .int) 7 [.ref 0, .int a1, .int a2] NX NX rf mem (QQi (RFok) Q) := by
  refine Ct_of [some (.ref 0), some (.int a1), some (.int a2), none] (by decide +kernel) (by simp [Lof, Value.category]) rfl ?_
  unfold L_X9_least at h
  refine G_aload_n (i := 0) pX9_least_0 rfl rfl ?_
  refine G_iload_n (i := 1) pX9_least_1 rfl rfl ?_
  refine G_callV1i (b := 0) (ci := 9) (N := 12) pX9_least_2 (g_X9_isGood a1 hrf _ h) mV_X9_isGood ml_RX9_101 (by decide) ⟨Nat.le_refl _, Nat.le_refl _, Nat.le_refl _⟩ (Nat.le_of_ble_eq_true rfl) ltk_0 shk_0 rfl ?_
  intro r2 rf m1 hrf h hr2
  refine G_if_eq pX9_least_5 (fun c3 => ?_) (fun c3 => ?_)
  · have h := h.1 c3
    refine G_aload_n (i := 0) pX9_least_15 rfl rfl ?_
    refine G_iconst pX9_least_16 ic_1 ?_
    refine G_callV1i (b := 0) (ci := 9) (N := 12) pX9_least_17 (g_X9_error (1 : Int32) hrf _ h) mV_X9_error ml_RX9_80 (by decide) ⟨Nat.le_refl _, Nat.le_refl _, Nat.le_refl _⟩ (Nat.le_of_ble_eq_true rfl) ltk_0 shk_0 rfl ?_
    intro r5 rf m4 hrf h hr5
    exact G_ireturn (len := 1) pX9_least_20 ⟨hrf, _, rfl, h⟩ ⟨_, rfl, rfl⟩
  · have h := h.2 c3
    refine G_iload_n (i := 2) pX9_least_8 rfl rfl ?_
    refine G_callS1i pX9_least_9 (g_X9_isSide a2 hrf _ h) mS_X9_isSide ml_RX9_160 (by decide) ⟨Nat.le_refl _, Nat.le_refl _, Nat.le_refl _⟩ (Nat.le_of_ble_eq_true rfl) ?_
    intro r7 rf m6 hrf h hr7
    refine G_if_ne pX9_least_12 (fun c8 => ?_) (fun c8 => ?_)
    · have h := h.1 c8
      refine G_iconst pX9_least_21 ic_0 ?_
      refine G_istore_n (i := 3) (L' := [some (.ref 0), some (.int a1), some (.int a2), some (.int (0 : Int32))]) pX9_least_22 rfl rfl ?_
      exact gB_X9_least_23 hrf a1 a2 (0 : Int32) _ h
    · have h := h.2 c8
      refine G_aload_n (i := 0) pX9_least_15 rfl rfl ?_
      refine G_iconst pX9_least_16 ic_1 ?_
      refine G_callV1i (b := 0) (ci := 9) (N := 12) pX9_least_17 (g_X9_error (1 : Int32) hrf _ h) mV_X9_error ml_RX9_80 (by decide) ⟨Nat.le_refl _, Nat.le_refl _, Nat.le_refl _⟩ (Nat.le_of_ble_eq_true rfl) ltk_0 shk_0 rfl ?_
      intro r10 rf m9 hrf h hr10
      exact G_ireturn (len := 1) pX9_least_20 ⟨hrf, _, rfl, h⟩ ⟨_, rfl, rfl⟩
def B_J7_fill_53178_5 (a1 : Nat) (n0 : Nat) (x1 : Int32) (x2 : Int32) (x3 : Int32) (mem : MMt) (Q : MMt → Prop) : Prop := LOOP (σ := Int32 × MMt) (fun X5 z => (fun (x2 : Int32) (mem : MMt) => ((x3 ≤ x2 → Q mem) ∧ (¬ x3 ≤ x2 → (vp_in x2 n0 ∧ ∀ m2 : MMt, m2 = up2 mem a1 x2.toNatClampNeg x1 → (∀ v4 : Int32, v4 = x2 + (1 : Int32) → X5 (v4, m2)))))) z.1 z.2) (x2, mem)
set_option maxRecDepth 4000 in
theorem gB_J7_fill_53178_5 {sx : Nat × (Nat → Int32)} {nx : Nat} {M : RFt → Prop} {rf : RFt} {Q : MMt → Prop} (a1 : Nat) (n0 : Nat) (hs : SH a1 = (0, n0)) (hl : a1 < nx) (hrf : M rf) (x1 : Int32) (x2 : Int32) (x3 : Int32) (mem : MMt) (h : B_J7_fill_53178_5 a1 n0 x1 x2 x3 mem Q) : G sx yJ7_fill_53178 cJ7_fill_53178 4 none 1 nx nx (QQv (M) Q) nx rf mem 5 [some (.ref a1), some (.int x1), some (.int x2), some (.int x3)] [] := by
  obtain ⟨I, ⟨n, h0⟩, hI⟩ := h
  have key : ∀ (n : Nat) (rf : RFt) (x2 : Int32) (mem : MMt), M rf → I n (x2, mem) → G sx yJ7_fill_53178 cJ7_fill_53178 4 none 1 nx nx (QQv (M) Q) nx rf mem 5 [some (.ref a1), some (.int x1), some (.int x2), some (.int x3)] [] := by
    intro n
    induction n using Nat.strongRecOn with
    | _ n ih =>
    intro rf x2 mem hrf h0
    have hX5 : ∀ (rf : RFt) (x2 : Int32) (mem : MMt), M rf → (fun s' => ∃ m, m < n ∧ I m s') (x2, mem) → G sx yJ7_fill_53178 cJ7_fill_53178 4 none 1 nx nx (QQv (M) Q) nx rf mem 5 [some (.ref a1), some (.int x1), some (.int x2), some (.int x3)] [] := fun rf x2 mem hrf ⟨m, hm, hi⟩ => ih m hm rf x2 mem hrf hi
    have h := hI n _ h0
    clear ih h0
    try dsimp only at h
    refine G_iload_n (i := 2) pJ7_fill_53178_5 rfl rfl ?_
    refine G_iload_n (i := 3) pJ7_fill_53178_6 rfl rfl ?_
    refine G_icmp_ge pJ7_fill_53178_7 (fun c1 => ?_) (fun c1 => ?_)
    · have h := h.1 c1
      exact G_return (len := 1) pJ7_fill_53178_20 ⟨hrf, rfl, h⟩ rfl
    · have h := h.2 c1
      refine G_aload_n (i := 0) pJ7_fill_53178_10 rfl rfl ?_
      refine G_iload_n (i := 2) pJ7_fill_53178_11 rfl rfl ?_
      refine G_iload_n (i := 1) pJ7_fill_53178_12 rfl rfl ?_
      obtain ⟨hi3, h⟩ := h
      obtain ⟨m2, em2⟩ : ∃ z : MMt, z = up2 mem a1 x2.toNatClampNeg x1 := ⟨_, rfl⟩
      have h := h m2 em2
      refine G_iastW pJ7_fill_53178_13 hl hs hi3 em2.symm ?_
      obtain ⟨v4, e4⟩ : ∃ z : Int32, z = x2 + (1 : Int32) := ⟨_, rfl⟩
      have h := h v4 e4
      refine G_iincW (L' := [some (.ref a1), some (.int x1), some (.int v4), some (.int x3)]) pJ7_fill_53178_14 rfl ic_1 e4.symm rfl ?_
      refine G_goto pJ7_fill_53178_17 ?_
      exact hX5 _ _ _ hrf h
  exact key n rf _ _ hrf h0
def L_J7_fill_53178 (a1 : Nat) (n0 : Nat) (a2 : Int32) (mem : MMt) (Q : MMt → Prop) : Prop := (∀ v1 : Int32, v1 = Int32.ofNat n0 → B_J7_fill_53178_5 a1 n0 a2 (0 : Int32) v1 mem Q)
set_option maxRecDepth 4000 in
theorem g_J7_fill_53178 {sx : Nat × (Nat → Int32)} {nx : Nat} {M : RFt → Prop} {rf : RFt} {Q : MMt → Prop} (a1 : Nat) (n0 : Nat) (a2 : Int32) (hs : SH a1 = (0, n0)) (hl : a1 < nx) (hrf : M rf) (mem : MMt) (h : L_J7_fill_53178 a1 n0 a2 mem Q) : Ct sx yJ7_fill_53178 cJ7_fill_53178 4 none 1 [.ref a1, .int a2] nx nx rf mem (QQv (M) Q) := by
  refine Ct_of [some (.ref a1), some (.int a2), none, none] (by decide +kernel) (by simp [Lof, Value.category]) rfl ?_
  unfold L_J7_fill_53178 at h
  refine G_iconst pJ7_fill_53178_0 ic_0 ?_
  refine G_istore_n (i := 2) (L' := [some (.ref a1), some (.int a2), some (.int (0 : Int32)), none]) pJ7_fill_53178_1 rfl rfl ?_
  refine G_aload_n (i := 0) pJ7_fill_53178_2 rfl rfl ?_
  refine G_alen (v := Int32.ofNat n0) pJ7_fill_53178_3 hl hs (by decide) rfl ?_
  obtain ⟨v1, e1⟩ : ∃ z : Int32, z = Int32.ofNat n0 := ⟨_, rfl⟩
  have h := h v1 e1
  refine G_istore_nW (L' := [some (.ref a1), some (.int a2), some (.int (0 : Int32)), some (.int v1)]) pJ7_fill_53178_4 rfl e1.symm rfl ?_
  exact gB_J7_fill_53178_5 a1 n0 hs hl hrf a2 (0 : Int32) v1 _ h
def B_X3_keepIfBetter_31 (x2 : Int32) (mem : MMt) (Q : MMt → Prop) : Prop := LOOP (σ := Int32 × MMt) (fun X31 z => (fun (x2 : Int32) (mem : MMt) => (((mem 58 4) ≤ x2 → Q mem) ∧ (¬ (mem 58 4) ≤ x2 → (vp_in x2 8 ∧ (((mem 61 x2.toNatClampNeg) < 0 → (∀ v4 : Int32, v4 = x2 + (1 : Int32) → X31 (v4, mem))) ∧ (¬ (mem 61 x2.toNatClampNeg) < 0 → (vp_in x2 8 ∧ (vp_in x2 8 ∧ (vp_in (mem 61 x2.toNatClampNeg) 8 ∧ (vp_in (mem 59 x2.toNatClampNeg) 8 ∧ ∀ m8 : MMt, m8 = up2 mem 63 (mem 59 x2.toNatClampNeg).toNatClampNeg (mem 60 (mem 61 x2.toNatClampNeg).toNatClampNeg) → (vp_in x2 8 ∧ (vp_in (m8 61 x2.toNatClampNeg) 8 ∧ (vp_in x2 8 ∧ (vp_in (m8 60 (m8 61 x2.toNatClampNeg).toNatClampNeg) 8 ∧ ∀ m13 : MMt, m13 = up2 m8 63 (m8 60 (m8 61 x2.toNatClampNeg).toNatClampNeg).toNatClampNeg (m8 59 x2.toNatClampNeg) → (∀ v15 : Int32, v15 = x2 + (1 : Int32) → X31 (v15, m13)))))))))))))))) z.1 z.2) (x2, mem)
set_option maxRecDepth 4000 in
theorem gB_X3_keepIfBetter_31 {sx : Nat × (Nat → Int32)} {rf : RFt} {Q : MMt → Prop} (hrf : RFok rf) (x2 : Int32) (mem : MMt) (h : B_X3_keepIfBetter_31 x2 mem Q) : G sx yX3_keepIfBetter cX3_keepIfBetter 3 none 2 NX NX (QQv (RFok) Q) NX rf mem 31 [some (.ref 58), none, some (.int x2)] [] := by
  obtain ⟨I, ⟨n, h0⟩, hI⟩ := h
  have key : ∀ (n : Nat) (rf : RFt) (x2 : Int32) (mem : MMt), RFok rf → I n (x2, mem) → G sx yX3_keepIfBetter cX3_keepIfBetter 3 none 2 NX NX (QQv (RFok) Q) NX rf mem 31 [some (.ref 58), none, some (.int x2)] [] := by
    intro n
    induction n using Nat.strongRecOn with
    | _ n ih =>
    intro rf x2 mem hrf h0
    have hX31 : ∀ (rf : RFt) (x2 : Int32) (mem : MMt), RFok rf → (fun s' => ∃ m, m < n ∧ I m s') (x2, mem) → G sx yX3_keepIfBetter cX3_keepIfBetter 3 none 2 NX NX (QQv (RFok) Q) NX rf mem 31 [some (.ref 58), none, some (.int x2)] [] := fun rf x2 mem hrf ⟨m, hm, hi⟩ => ih m hm rf x2 mem hrf hi
    have h := hI n _ h0
    clear ih h0
    try dsimp only at h
    refine G_iload_n (i := 2) pX3_keepIfBetter_31 rfl rfl ?_
    refine G_aload_n (i := 0) pX3_keepIfBetter_32 rfl rfl ?_
    refine G_getI (ci := 3) (j := 4) (N := 9) pX3_keepIfBetter_33 fl_RX3_27 rfl ltk_58 shk_58 (by decide) rfl ?_
    refine G_icmp_ge pX3_keepIfBetter_36 (fun c1 => ?_) (fun c1 => ?_)
    · have h := h.1 c1
      exact G_return (len := 1) pX3_keepIfBetter_98 ⟨hrf, rfl, h⟩ rfl
    · have h := h.2 c1
      refine G_aload_n (i := 0) pX3_keepIfBetter_39 rfl rfl ?_
      refine G_getR (ci := 3) (j := 2) (N := 9) pX3_keepIfBetter_40 fl_RX3_18 rfl ltk_58 shk_58 (by decide) rfl (hrf.lit 58 2 rfl) ?_
      refine G_iload_n (i := 2) pX3_keepIfBetter_43 rfl rfl ?_
      obtain ⟨hi2, h⟩ := h
      refine G_iald pX3_keepIfBetter_44 ltk_61 shk_61 hi2 ?_
      refine G_if_lt pX3_keepIfBetter_45 (fun c3 => ?_) (fun c3 => ?_)
      · have h := h.1 c3
        obtain ⟨v4, e4⟩ : ∃ z : Int32, z = x2 + (1 : Int32) := ⟨_, rfl⟩
        have h := h v4 e4
        refine G_iincW (L' := [some (.ref 58), none, some (.int v4)]) pX3_keepIfBetter_92 rfl ic_1 e4.symm rfl ?_
        refine G_goto pX3_keepIfBetter_95 ?_
        exact hX31 _ _ _ hrf h
      · have h := h.2 c3
        refine G_aload_n (i := 0) pX3_keepIfBetter_48 rfl rfl ?_
        refine G_getR (ci := 3) (j := 8) (N := 9) pX3_keepIfBetter_49 fl_RX3_24 rfl ltk_58 shk_58 (by decide) rfl (hrf.lit 58 8 rfl) ?_
        refine G_aload_n (i := 0) pX3_keepIfBetter_52 rfl rfl ?_
        refine G_getR (ci := 3) (j := 0) (N := 9) pX3_keepIfBetter_53 fl_RX3_9 rfl ltk_58 shk_58 (by decide) rfl (hrf.lit 58 0 rfl) ?_
        refine G_iload_n (i := 2) pX3_keepIfBetter_56 rfl rfl ?_
        obtain ⟨hi5, h⟩ := h
        refine G_iald pX3_keepIfBetter_57 ltk_59 shk_59 hi5 ?_
        refine G_aload_n (i := 0) pX3_keepIfBetter_58 rfl rfl ?_
        refine G_getR (ci := 3) (j := 1) (N := 9) pX3_keepIfBetter_59 fl_RX3_15 rfl ltk_58 shk_58 (by decide) rfl (hrf.lit 58 1 rfl) ?_
        refine G_aload_n (i := 0) pX3_keepIfBetter_62 rfl rfl ?_
        refine G_getR (ci := 3) (j := 2) (N := 9) pX3_keepIfBetter_63 fl_RX3_18 rfl ltk_58 shk_58 (by decide) rfl (hrf.lit 58 2 rfl) ?_
        refine G_iload_n (i := 2) pX3_keepIfBetter_66 rfl rfl ?_
        obtain ⟨hi6, h⟩ := h
        refine G_iald pX3_keepIfBetter_67 ltk_61 shk_61 hi6 ?_
        obtain ⟨hi7, h⟩ := h
        refine G_iald pX3_keepIfBetter_68 ltk_60 shk_60 hi7 ?_
        obtain ⟨hi9, h⟩ := h
        obtain ⟨m8, em8⟩ : ∃ z : MMt, z = up2 mem 63 (mem 59 x2.toNatClampNeg).toNatClampNeg (mem 60 (mem 61 x2.toNatClampNeg).toNatClampNeg) := ⟨_, rfl⟩
        have h := h m8 em8
        refine G_iastW pX3_keepIfBetter_69 ltk_63 shk_63 hi9 em8.symm ?_
        refine G_aload_n (i := 0) pX3_keepIfBetter_70 rfl rfl ?_
        refine G_getR (ci := 3) (j := 8) (N := 9) pX3_keepIfBetter_71 fl_RX3_24 rfl ltk_58 shk_58 (by decide) rfl (hrf.lit 58 8 rfl) ?_
        refine G_aload_n (i := 0) pX3_keepIfBetter_74 rfl rfl ?_
        refine G_getR (ci := 3) (j := 1) (N := 9) pX3_keepIfBetter_75 fl_RX3_15 rfl ltk_58 shk_58 (by decide) rfl (hrf.lit 58 1 rfl) ?_
        refine G_aload_n (i := 0) pX3_keepIfBetter_78 rfl rfl ?_
        refine G_getR (ci := 3) (j := 2) (N := 9) pX3_keepIfBetter_79 fl_RX3_18 rfl ltk_58 shk_58 (by decide) rfl (hrf.lit 58 2 rfl) ?_
        refine G_iload_n (i := 2) pX3_keepIfBetter_82 rfl rfl ?_
        obtain ⟨hi10, h⟩ := h
        refine G_iald pX3_keepIfBetter_83 ltk_61 shk_61 hi10 ?_
        obtain ⟨hi11, h⟩ := h
        refine G_iald pX3_keepIfBetter_84 ltk_60 shk_60 hi11 ?_
        refine G_aload_n (i := 0) pX3_keepIfBetter_85 rfl rfl ?_
        refine G_getR (ci := 3) (j := 0) (N := 9) pX3_keepIfBetter_86 fl_RX3_9 rfl ltk_58 shk_58 (by decide) rfl (hrf.lit 58 0 rfl) ?_
        refine G_iload_n (i := 2) pX3_keepIfBetter_89 rfl rfl ?_
        obtain ⟨hi12, h⟩ := h
        refine G_iald pX3_keepIfBetter_90 ltk_59 shk_59 hi12 ?_
        obtain ⟨hi14, h⟩ := h
        obtain ⟨m13, em13⟩ : ∃ z : MMt, z = up2 m8 63 (m8 60 (m8 61 x2.toNatClampNeg).toNatClampNeg).toNatClampNeg (m8 59 x2.toNatClampNeg) := ⟨_, rfl⟩
        have h := h m13 em13
        refine G_iastW pX3_keepIfBetter_91 ltk_63 shk_63 hi14 em13.symm ?_
        obtain ⟨v15, e15⟩ : ∃ z : Int32, z = x2 + (1 : Int32) := ⟨_, rfl⟩
        have h := h v15 e15
        refine G_iincW (L' := [some (.ref 58), none, some (.int v15)]) pX3_keepIfBetter_92 rfl ic_1 e15.symm rfl ?_
        refine G_goto pX3_keepIfBetter_95 ?_
        exact hX31 _ _ _ hrf h
  exact key n rf _ _ hrf h0
def B_X3_keepIfBetter_16 (x1 : Int32) (mem : MMt) (Q : MMt → Prop) : Prop := (∀ m1 : MMt, m1 = up2 mem 58 7 x1 → L_J7_fill_53178 63 8 (-1 : Int32) m1 (fun m2 => B_X3_keepIfBetter_31 (0 : Int32) m2 Q))
set_option maxRecDepth 4000 in
theorem gB_X3_keepIfBetter_16 {sx : Nat × (Nat → Int32)} {rf : RFt} {Q : MMt → Prop} (hrf : RFok rf) (x1 : Int32) (mem : MMt) (h : B_X3_keepIfBetter_16 x1 mem Q) : G sx yX3_keepIfBetter cX3_keepIfBetter 3 none 2 NX NX (QQv (RFok) Q) NX rf mem 16 [some (.ref 58), some (.int x1), none] [] := by
  unfold B_X3_keepIfBetter_16 at h
  refine G_aload_n (i := 0) pX3_keepIfBetter_16 rfl rfl ?_
  refine G_iload_n (i := 1) pX3_keepIfBetter_17 rfl rfl ?_
  obtain ⟨m1, em1⟩ : ∃ z : MMt, z = up2 mem 58 7 x1 := ⟨_, rfl⟩
  have h := h m1 em1
  refine G_putIW (ci := 3) (j := 7) (N := 9) pX3_keepIfBetter_18 fw_RX3_61 rfl ltk_58 shk_58 (by decide) rfl (fun _ => ⟨rfl, rfl⟩) em1.symm ?_
  refine G_aload_n (i := 0) pX3_keepIfBetter_21 rfl rfl ?_
  refine G_getR (ci := 3) (j := 8) (N := 9) pX3_keepIfBetter_22 fl_RX3_24 rfl ltk_58 shk_58 (by decide) rfl (hrf.lit 58 8 rfl) ?_
  refine G_iconst pX3_keepIfBetter_25 ic_m1 ?_
  refine G_callS2v pX3_keepIfBetter_26 (g_J7_fill_53178 63 8 (-1 : Int32) shk_63 ltk_63 hrf _ h) mS_J7_fill_53178 ml_RX3_81 (by decide) ⟨Nat.le_refl _, Nat.le_refl _, Nat.le_refl _⟩ (Nat.le_of_ble_eq_true rfl) ?_
  intro rf m2 hrf h
  refine G_iconst pX3_keepIfBetter_29 ic_0 ?_
  refine G_istore_n (i := 2) (L' := [some (.ref 58), some (.int x1), some (.int (0 : Int32))]) pX3_keepIfBetter_30 rfl rfl ?_
  refine G_wk (L2 := [some (.ref 58), none, some (.int (0 : Int32))]) ⟨Or.inr rfl, Or.inl rfl, Or.inr rfl, trivial⟩ ?_
  exact gB_X3_keepIfBetter_31 hrf (0 : Int32) _ h
def L_X3_keepIfBetter (a1 : Int32) (mem : MMt) (Q : MMt → Prop) : Prop := (((mem 58 7) < 0 → B_X3_keepIfBetter_16 a1 mem Q) ∧ (¬ (mem 58 7) < 0 → ((a1 < (mem 58 7) → B_X3_keepIfBetter_16 a1 mem Q) ∧ (¬ a1 < (mem 58 7) → Q mem))))
set_option maxRecDepth 4000 in
theorem g_X3_keepIfBetter {sx : Nat × (Nat → Int32)} {rf : RFt} {Q : MMt → Prop} (a1 : Int32) (hrf : RFok rf) (mem : MMt) (h : L_X3_keepIfBetter a1 mem Q) : Ct sx yX3_keepIfBetter cX3_keepIfBetter 3 none 2 [.ref 58, .int a1] NX NX rf mem (QQv (RFok) Q) := by
  refine Ct_of [some (.ref 58), some (.int a1), none] (by decide +kernel) (by simp [Lof, Value.category]) rfl ?_
  unfold L_X3_keepIfBetter at h
  refine G_aload_n (i := 0) pX3_keepIfBetter_0 rfl rfl ?_
  refine G_getI (ci := 3) (j := 7) (N := 9) pX3_keepIfBetter_1 fl_RX3_61 rfl ltk_58 shk_58 (by decide) rfl ?_
  refine G_if_lt pX3_keepIfBetter_4 (fun c1 => ?_) (fun c1 => ?_)
  · have h := h.1 c1
    exact gB_X3_keepIfBetter_16 hrf a1 _ h
  · have h := h.2 c1
    refine G_iload_n (i := 1) pX3_keepIfBetter_7 rfl rfl ?_
    refine G_aload_n (i := 0) pX3_keepIfBetter_8 rfl rfl ?_
    refine G_getI (ci := 3) (j := 7) (N := 9) pX3_keepIfBetter_9 fl_RX3_61 rfl ltk_58 shk_58 (by decide) rfl ?_
    refine G_icmp_lt pX3_keepIfBetter_12 (fun c2 => ?_) (fun c2 => ?_)
    · have h := h.1 c2
      exact gB_X3_keepIfBetter_16 hrf a1 _ h
    · have h := h.2 c2
      exact G_return (len := 1) pX3_keepIfBetter_15 ⟨hrf, rfl, h⟩ rfl
def L_J9_abs_0f7a4 (a1 : Int32) (mem : MMt) (Q : Int32 → MMt → Prop) : Prop := ((0 ≤ a1 → Q a1 mem) ∧ (¬ 0 ≤ a1 → Q (-a1) mem))
set_option maxRecDepth 4000 in
theorem g_J9_abs_0f7a4 {sx : Nat × (Nat → Int32)} {nx : Nat} {M : RFt → Prop} {rf : RFt} {Q : Int32 → MMt → Prop} (a1 : Int32) (hrf : M rf) (mem : MMt) (h : L_J9_abs_0f7a4 a1 mem Q) : Ct sx yJ9_abs_0f7a4 cJ9_abs_0f7a4 1 (some .int) 1 [.int a1] nx nx rf mem (QQi (M) Q) := by
  refine Ct_of [some (.int a1)] (by decide +kernel) (by simp [Lof, Value.category]) rfl ?_
  unfold L_J9_abs_0f7a4 at h
  refine G_iload_n (i := 0) pJ9_abs_0f7a4_0 rfl rfl ?_
  refine G_if_ge pJ9_abs_0f7a4_1 (fun c1 => ?_) (fun c1 => ?_)
  · have h := h.1 c1
    refine G_iload_n (i := 0) pJ9_abs_0f7a4_9 rfl rfl ?_
    exact G_ireturn (len := 1) pJ9_abs_0f7a4_10 ⟨hrf, _, rfl, h⟩ ⟨_, rfl, rfl⟩
  · have h := h.2 c1
    refine G_iload_n (i := 0) pJ9_abs_0f7a4_4 rfl rfl ?_
    refine G_ineg pJ9_abs_0f7a4_5 ?_
    refine G_goto pJ9_abs_0f7a4_6 ?_
    exact G_ireturn (len := 1) pJ9_abs_0f7a4_10 ⟨hrf, _, rfl, h⟩ ⟨_, rfl, rfl⟩
def L_J6_bitCount_0f7a4 (a1 : Int32) (mem : MMt) (Q : Int32 → MMt → Prop) : Prop := (∀ v1 : Int32, v1 = a1 - (((a1.toUInt32 >>> ((1 : Int32).toUInt32 &&& Int32.toUInt32 31)).toInt32) &&& (1431655765 : Int32)) → (∀ v2 : Int32, v2 = (v1 &&& (858993459 : Int32)) + (((v1.toUInt32 >>> ((2 : Int32).toUInt32 &&& Int32.toUInt32 31)).toInt32) &&& (858993459 : Int32)) → (∀ v3 : Int32, v3 = (v2 + ((v2.toUInt32 >>> ((4 : Int32).toUInt32 &&& Int32.toUInt32 31)).toInt32)) &&& (252645135 : Int32) → (∀ v4 : Int32, v4 = v3 + ((v3.toUInt32 >>> ((8 : Int32).toUInt32 &&& Int32.toUInt32 31)).toInt32) → (∀ v5 : Int32, v5 = v4 + ((v4.toUInt32 >>> ((16 : Int32).toUInt32 &&& Int32.toUInt32 31)).toInt32) → Q (v5 &&& (63 : Int32)) mem)))))
set_option maxRecDepth 4000 in
theorem g_J6_bitCount_0f7a4 {sx : Nat × (Nat → Int32)} {nx : Nat} {M : RFt → Prop} {rf : RFt} {Q : Int32 → MMt → Prop} (a1 : Int32) (hrf : M rf) (mem : MMt) (h : L_J6_bitCount_0f7a4 a1 mem Q) : Ct sx yJ6_bitCount_0f7a4 cJ6_bitCount_0f7a4 1 (some .int) 1 [.int a1] nx nx rf mem (QQi (M) Q) := by
  refine Ct_of [some (.int a1)] (by decide +kernel) (by simp [Lof, Value.category]) rfl ?_
  unfold L_J6_bitCount_0f7a4 at h
  refine G_iload_n (i := 0) pJ6_bitCount_0f7a4_0 rfl rfl ?_
  refine G_iload_n (i := 0) pJ6_bitCount_0f7a4_1 rfl rfl ?_
  refine G_iconst pJ6_bitCount_0f7a4_2 ic_1 ?_
  refine G_iushr pJ6_bitCount_0f7a4_3 ?_
  refine G_ldcw pJ6_bitCount_0f7a4_4 rfl wc_RJ6_265 ?_
  refine G_iand pJ6_bitCount_0f7a4_7 ?_
  refine G_isub pJ6_bitCount_0f7a4_8 ?_
  obtain ⟨v1, e1⟩ : ∃ z : Int32, z = a1 - (((a1.toUInt32 >>> ((1 : Int32).toUInt32 &&& Int32.toUInt32 31)).toInt32) &&& (1431655765 : Int32)) := ⟨_, rfl⟩
  have h := h v1 e1
  refine G_istore_nW (L' := [some (.int v1)]) pJ6_bitCount_0f7a4_9 rfl e1.symm rfl ?_
  refine G_iload_n (i := 0) pJ6_bitCount_0f7a4_10 rfl rfl ?_
  refine G_ldcw pJ6_bitCount_0f7a4_11 rfl wc_RJ6_266 ?_
  refine G_iand pJ6_bitCount_0f7a4_14 ?_
  refine G_iload_n (i := 0) pJ6_bitCount_0f7a4_15 rfl rfl ?_
  refine G_iconst pJ6_bitCount_0f7a4_16 ic_2 ?_
  refine G_iushr pJ6_bitCount_0f7a4_17 ?_
  refine G_ldcw pJ6_bitCount_0f7a4_18 rfl wc_RJ6_266 ?_
  refine G_iand pJ6_bitCount_0f7a4_21 ?_
  refine G_iadd pJ6_bitCount_0f7a4_22 ?_
  obtain ⟨v2, e2⟩ : ∃ z : Int32, z = (v1 &&& (858993459 : Int32)) + (((v1.toUInt32 >>> ((2 : Int32).toUInt32 &&& Int32.toUInt32 31)).toInt32) &&& (858993459 : Int32)) := ⟨_, rfl⟩
  have h := h v2 e2
  refine G_istore_nW (L' := [some (.int v2)]) pJ6_bitCount_0f7a4_23 rfl e2.symm rfl ?_
  refine G_iload_n (i := 0) pJ6_bitCount_0f7a4_24 rfl rfl ?_
  refine G_iload_n (i := 0) pJ6_bitCount_0f7a4_25 rfl rfl ?_
  refine G_iconst pJ6_bitCount_0f7a4_26 ic_4 ?_
  refine G_iushr pJ6_bitCount_0f7a4_27 ?_
  refine G_iadd pJ6_bitCount_0f7a4_28 ?_
  refine G_ldcw pJ6_bitCount_0f7a4_29 rfl wc_RJ6_267 ?_
  refine G_iand pJ6_bitCount_0f7a4_32 ?_
  obtain ⟨v3, e3⟩ : ∃ z : Int32, z = (v2 + ((v2.toUInt32 >>> ((4 : Int32).toUInt32 &&& Int32.toUInt32 31)).toInt32)) &&& (252645135 : Int32) := ⟨_, rfl⟩
  have h := h v3 e3
  refine G_istore_nW (L' := [some (.int v3)]) pJ6_bitCount_0f7a4_33 rfl e3.symm rfl ?_
  refine G_iload_n (i := 0) pJ6_bitCount_0f7a4_34 rfl rfl ?_
  refine G_iload_n (i := 0) pJ6_bitCount_0f7a4_35 rfl rfl ?_
  refine G_bipush pJ6_bitCount_0f7a4_36 bi_8 ?_
  refine G_iushr pJ6_bitCount_0f7a4_38 ?_
  refine G_iadd pJ6_bitCount_0f7a4_39 ?_
  obtain ⟨v4, e4⟩ : ∃ z : Int32, z = v3 + ((v3.toUInt32 >>> ((8 : Int32).toUInt32 &&& Int32.toUInt32 31)).toInt32) := ⟨_, rfl⟩
  have h := h v4 e4
  refine G_istore_nW (L' := [some (.int v4)]) pJ6_bitCount_0f7a4_40 rfl e4.symm rfl ?_
  refine G_iload_n (i := 0) pJ6_bitCount_0f7a4_41 rfl rfl ?_
  refine G_iload_n (i := 0) pJ6_bitCount_0f7a4_42 rfl rfl ?_
  refine G_bipush pJ6_bitCount_0f7a4_43 bi_16 ?_
  refine G_iushr pJ6_bitCount_0f7a4_45 ?_
  refine G_iadd pJ6_bitCount_0f7a4_46 ?_
  obtain ⟨v5, e5⟩ : ∃ z : Int32, z = v4 + ((v4.toUInt32 >>> ((16 : Int32).toUInt32 &&& Int32.toUInt32 31)).toInt32) := ⟨_, rfl⟩
  have h := h v5 e5
  refine G_istore_nW (L' := [some (.int v5)]) pJ6_bitCount_0f7a4_47 rfl e5.symm rfl ?_
  refine G_iload_n (i := 0) pJ6_bitCount_0f7a4_48 rfl rfl ?_
  refine G_bipush pJ6_bitCount_0f7a4_49 bi_63 ?_
  refine G_iand pJ6_bitCount_0f7a4_51 ?_
  exact G_ireturn (len := 1) pJ6_bitCount_0f7a4_52 ⟨hrf, _, rfl, h⟩ ⟨_, rfl, rfl⟩
def B_X3_pairFrom_17 (R_X3_pairFrom : Int32 → Int32 → Int32 → MMt → (MMt → Prop) → Prop) (x1 : Int32) (x2 : Int32) (x3 : Int32) (x4 : Int32) (mem : MMt) (Q : MMt → Prop) : Prop := LOOP (σ := Int32 × MMt) (fun X17 z => (fun (x4 : Int32) (mem : MMt) => (((mem 58 5) ≤ x4 → L_J6_bitCount_0f7a4 x2 mem (fun r3 m2 => (((((r3 + (m2 58 4)) - x1) - (1 : Int32)) < (m2 58 6) → Q m2) ∧ (¬ (((r3 + (m2 58 4)) - x1) - (1 : Int32)) < (m2 58 6) → (vp_in x1 8 ∧ ∀ m5 : MMt, m5 = up2 m2 61 x1.toNatClampNeg (-1 : Int32) → R_X3_pairFrom (x1 + (1 : Int32)) x2 x3 m5 (fun m7 => Q m7)))))) ∧ (¬ (mem 58 5) ≤ x4 → ((¬ ((x2 >>> (x4 &&& 31)) &&& (1 : Int32)) = 0 → (∀ v9 : Int32, v9 = x4 + (1 : Int32) → X17 (v9, mem))) ∧ (((x2 >>> (x4 &&& 31)) &&& (1 : Int32)) = 0 → (vp_in x1 8 ∧ ∀ m10 : MMt, m10 = up2 mem 61 x1.toNatClampNeg x4 → (vp_in x1 8 ∧ (vp_in (m10 59 x1.toNatClampNeg) 8 ∧ (vp_in x4 8 ∧ (vp_in (m10 60 x4.toNatClampNeg) 8 ∧ L_J9_abs_0f7a4 ((m10 62 (m10 59 x1.toNatClampNeg).toNatClampNeg) - (m10 62 (m10 60 x4.toNatClampNeg).toNatClampNeg)) m10 (fun r17 m16 => R_X3_pairFrom (x1 + (1 : Int32)) (x2 ||| ((1 : Int32) <<< (x4 &&& 31))) (x3 + r17) m16 (fun m18 => (∀ v19 : Int32, v19 = x4 + (1 : Int32) → X17 (v19, m18)))))))))))))) z.1 z.2) (x4, mem)
set_option maxRecDepth 4000 in
theorem gB_X3_pairFrom_17 {sx : Nat × (Nat → Int32)} {R_X3_pairFrom : Int32 → Int32 → Int32 → MMt → (MMt → Prop) → Prop} {rf : RFt} {Q : MMt → Prop} {d0 : Nat} (hd0 : 2 ≤ d0) (hR_X3_pairFrom : ∀ (rf : RFt) (a1 : Int32) (a2 : Int32) (a3 : Int32) (mem : MMt) (Q : MMt → Prop), RFok rf → R_X3_pairFrom a1 a2 a3 mem Q → Ct sx yX3_pairFrom cX3_pairFrom 5 none d0 [.ref 58, .int a1, .int a2, .int a3] NX NX rf mem (QQv (RFok) Q)) (hrf : RFok rf) (x1 : Int32) (x2 : Int32) (x3 : Int32) (x4 : Int32) (mem : MMt) (h : B_X3_pairFrom_17 R_X3_pairFrom x1 x2 x3 x4 mem Q) : G sx yX3_pairFrom cX3_pairFrom 5 none (d0 + 1) NX NX (QQv (RFok) Q) NX rf mem 17 [some (.ref 58), some (.int x1), some (.int x2), some (.int x3), some (.int x4)] [] := by
  obtain ⟨I, ⟨n, h0⟩, hI⟩ := h
  have key : ∀ (n : Nat) (rf : RFt) (x4 : Int32) (mem : MMt), RFok rf → I n (x4, mem) → G sx yX3_pairFrom cX3_pairFrom 5 none (d0 + 1) NX NX (QQv (RFok) Q) NX rf mem 17 [some (.ref 58), some (.int x1), some (.int x2), some (.int x3), some (.int x4)] [] := by
    intro n
    induction n using Nat.strongRecOn with
    | _ n ih =>
    intro rf x4 mem hrf h0
    have hX17 : ∀ (rf : RFt) (x4 : Int32) (mem : MMt), RFok rf → (fun s' => ∃ m, m < n ∧ I m s') (x4, mem) → G sx yX3_pairFrom cX3_pairFrom 5 none (d0 + 1) NX NX (QQv (RFok) Q) NX rf mem 17 [some (.ref 58), some (.int x1), some (.int x2), some (.int x3), some (.int x4)] [] := fun rf x4 mem hrf ⟨m, hm, hi⟩ => ih m hm rf x4 mem hrf hi
    have h := hI n _ h0
    clear ih h0
    try dsimp only at h
    refine G_iload (i := 4) pX3_pairFrom_17 rfl ?_
    refine G_aload_n (i := 0) pX3_pairFrom_19 rfl rfl ?_
    refine G_getI (ci := 3) (j := 5) (N := 9) pX3_pairFrom_20 fl_RX3_31 rfl ltk_58 shk_58 (by decide) rfl ?_
    refine G_icmp_ge pX3_pairFrom_23 (fun c1 => ?_) (fun c1 => ?_)
    · have h := h.1 c1
      refine G_iload_n (i := 2) pX3_pairFrom_91 rfl rfl ?_
      refine G_callS1i pX3_pairFrom_92 (g_J6_bitCount_0f7a4 x2 hrf _ h) mS_J6_bitCount_0f7a4 ml_RX3_76 (by omega) ⟨Nat.le_refl _, Nat.le_refl _, Nat.le_refl _⟩ (Nat.le_of_ble_eq_true rfl) ?_
      intro r3 rf m2 hrf h hr3
      refine G_aload_n (i := 0) pX3_pairFrom_95 rfl rfl ?_
      refine G_getI (ci := 3) (j := 4) (N := 9) pX3_pairFrom_96 fl_RX3_27 rfl ltk_58 shk_58 (by decide) rfl ?_
      refine G_iadd pX3_pairFrom_99 ?_
      refine G_iload_n (i := 1) pX3_pairFrom_100 rfl rfl ?_
      refine G_isub pX3_pairFrom_101 ?_
      refine G_iconst pX3_pairFrom_102 ic_1 ?_
      refine G_isub pX3_pairFrom_103 ?_
      refine G_aload_n (i := 0) pX3_pairFrom_104 rfl rfl ?_
      refine G_getI (ci := 3) (j := 6) (N := 9) pX3_pairFrom_105 fl_RX3_58 rfl ltk_58 shk_58 (by decide) rfl ?_
      refine G_icmp_lt pX3_pairFrom_108 (fun c4 => ?_) (fun c4 => ?_)
      · have h := h.1 c4
        exact G_return (len := 1) pX3_pairFrom_127 ⟨hrf, rfl, h⟩ rfl
      · have h := h.2 c4
        refine G_aload_n (i := 0) pX3_pairFrom_111 rfl rfl ?_
        refine G_getR (ci := 3) (j := 2) (N := 9) pX3_pairFrom_112 fl_RX3_18 rfl ltk_58 shk_58 (by decide) rfl (hrf.lit 58 2 rfl) ?_
        refine G_iload_n (i := 1) pX3_pairFrom_115 rfl rfl ?_
        refine G_iconst pX3_pairFrom_116 ic_m1 ?_
        obtain ⟨hi6, h⟩ := h
        obtain ⟨m5, em5⟩ : ∃ z : MMt, z = up2 m2 61 x1.toNatClampNeg (-1 : Int32) := ⟨_, rfl⟩
        have h := h m5 em5
        refine G_iastW pX3_pairFrom_117 ltk_61 shk_61 hi6 em5.symm ?_
        refine G_aload_n (i := 0) pX3_pairFrom_118 rfl rfl ?_
        refine G_iload_n (i := 1) pX3_pairFrom_119 rfl rfl ?_
        refine G_iconst pX3_pairFrom_120 ic_1 ?_
        refine G_iadd pX3_pairFrom_121 ?_
        refine G_iload_n (i := 2) pX3_pairFrom_122 rfl rfl ?_
        refine G_iload_n (i := 3) pX3_pairFrom_123 rfl rfl ?_
        refine G_callV3v (b := 58) (ci := 3) (N := 9) pX3_pairFrom_124 (hR_X3_pairFrom _ (x1 + (1 : Int32)) x2 x3 _ _ hrf h) mV_X3_pairFrom ml_RX3_64 (Nat.le_refl _) ⟨Nat.le_refl _, Nat.le_refl _, Nat.le_refl _⟩ (Nat.le_of_ble_eq_true rfl) ltk_58 shk_58 rfl ?_
        intro rf m7 hrf h
        exact G_return (len := 1) pX3_pairFrom_127 ⟨hrf, rfl, h⟩ rfl
    · have h := h.2 c1
      refine G_iload_n (i := 2) pX3_pairFrom_26 rfl rfl ?_
      refine G_iload (i := 4) pX3_pairFrom_27 rfl ?_
      refine G_ishr pX3_pairFrom_29 ?_
      refine G_iconst pX3_pairFrom_30 ic_1 ?_
      refine G_iand pX3_pairFrom_31 ?_
      refine G_if_ne pX3_pairFrom_32 (fun c8 => ?_) (fun c8 => ?_)
      · have h := h.1 c8
        obtain ⟨v9, e9⟩ : ∃ z : Int32, z = x4 + (1 : Int32) := ⟨_, rfl⟩
        have h := h v9 e9
        refine G_iincW (L' := [some (.ref 58), some (.int x1), some (.int x2), some (.int x3), some (.int v9)]) pX3_pairFrom_85 rfl ic_1 e9.symm rfl ?_
        refine G_goto pX3_pairFrom_88 ?_
        exact hX17 _ _ _ hrf h
      · have h := h.2 c8
        refine G_aload_n (i := 0) pX3_pairFrom_35 rfl rfl ?_
        refine G_getR (ci := 3) (j := 2) (N := 9) pX3_pairFrom_36 fl_RX3_18 rfl ltk_58 shk_58 (by decide) rfl (hrf.lit 58 2 rfl) ?_
        refine G_iload_n (i := 1) pX3_pairFrom_39 rfl rfl ?_
        refine G_iload (i := 4) pX3_pairFrom_40 rfl ?_
        obtain ⟨hi11, h⟩ := h
        obtain ⟨m10, em10⟩ : ∃ z : MMt, z = up2 mem 61 x1.toNatClampNeg x4 := ⟨_, rfl⟩
        have h := h m10 em10
        refine G_iastW pX3_pairFrom_42 ltk_61 shk_61 hi11 em10.symm ?_
        refine G_aload_n (i := 0) pX3_pairFrom_43 rfl rfl ?_
        refine G_iload_n (i := 1) pX3_pairFrom_44 rfl rfl ?_
        refine G_iconst pX3_pairFrom_45 ic_1 ?_
        refine G_iadd pX3_pairFrom_46 ?_
        refine G_iload_n (i := 2) pX3_pairFrom_47 rfl rfl ?_
        refine G_iconst pX3_pairFrom_48 ic_1 ?_
        refine G_iload (i := 4) pX3_pairFrom_49 rfl ?_
        refine G_ishl pX3_pairFrom_51 ?_
        refine G_ior pX3_pairFrom_52 ?_
        refine G_iload_n (i := 3) pX3_pairFrom_53 rfl rfl ?_
        refine G_aload_n (i := 0) pX3_pairFrom_54 rfl rfl ?_
        refine G_getR (ci := 3) (j := 3) (N := 9) pX3_pairFrom_55 fl_RX3_21 rfl ltk_58 shk_58 (by decide) rfl (hrf.lit 58 3 rfl) ?_
        refine G_aload_n (i := 0) pX3_pairFrom_58 rfl rfl ?_
        refine G_getR (ci := 3) (j := 0) (N := 9) pX3_pairFrom_59 fl_RX3_9 rfl ltk_58 shk_58 (by decide) rfl (hrf.lit 58 0 rfl) ?_
        refine G_iload_n (i := 1) pX3_pairFrom_62 rfl rfl ?_
        obtain ⟨hi12, h⟩ := h
        refine G_iald pX3_pairFrom_63 ltk_59 shk_59 hi12 ?_
        obtain ⟨hi13, h⟩ := h
        refine G_iald pX3_pairFrom_64 ltk_62 shk_62 hi13 ?_
        refine G_aload_n (i := 0) pX3_pairFrom_65 rfl rfl ?_
        refine G_getR (ci := 3) (j := 3) (N := 9) pX3_pairFrom_66 fl_RX3_21 rfl ltk_58 shk_58 (by decide) rfl (hrf.lit 58 3 rfl) ?_
        refine G_aload_n (i := 0) pX3_pairFrom_69 rfl rfl ?_
        refine G_getR (ci := 3) (j := 1) (N := 9) pX3_pairFrom_70 fl_RX3_15 rfl ltk_58 shk_58 (by decide) rfl (hrf.lit 58 1 rfl) ?_
        refine G_iload (i := 4) pX3_pairFrom_73 rfl ?_
        obtain ⟨hi14, h⟩ := h
        refine G_iald pX3_pairFrom_75 ltk_60 shk_60 hi14 ?_
        obtain ⟨hi15, h⟩ := h
        refine G_iald pX3_pairFrom_76 ltk_62 shk_62 hi15 ?_
        refine G_isub pX3_pairFrom_77 ?_
        refine G_callS1i pX3_pairFrom_78 (g_J9_abs_0f7a4 ((m10 62 (m10 59 x1.toNatClampNeg).toNatClampNeg) - (m10 62 (m10 60 x4.toNatClampNeg).toNatClampNeg)) hrf _ h) mS_J9_abs_0f7a4 ml_RX3_72 (by omega) ⟨Nat.le_refl _, Nat.le_refl _, Nat.le_refl _⟩ (Nat.le_of_ble_eq_true rfl) ?_
        intro r17 rf m16 hrf h hr17
        refine G_iadd pX3_pairFrom_81 ?_
        refine G_callV3v (b := 58) (ci := 3) (N := 9) pX3_pairFrom_82 (hR_X3_pairFrom _ (x1 + (1 : Int32)) (x2 ||| ((1 : Int32) <<< (x4 &&& 31))) (x3 + r17) _ _ hrf h) mV_X3_pairFrom ml_RX3_64 (Nat.le_refl _) ⟨Nat.le_refl _, Nat.le_refl _, Nat.le_refl _⟩ (Nat.le_of_ble_eq_true rfl) ltk_58 shk_58 rfl ?_
        intro rf m18 hrf h
        obtain ⟨v19, e19⟩ : ∃ z : Int32, z = x4 + (1 : Int32) := ⟨_, rfl⟩
        have h := h v19 e19
        refine G_iincW (L' := [some (.ref 58), some (.int x1), some (.int x2), some (.int x3), some (.int v19)]) pX3_pairFrom_85 rfl ic_1 e19.symm rfl ?_
        refine G_goto pX3_pairFrom_88 ?_
        exact hX17 _ _ _ hrf h
  exact key n rf _ _ hrf h0
def L_X3_pairFrom (R_X3_pairFrom : Int32 → Int32 → Int32 → MMt → (MMt → Prop) → Prop) (a1 : Int32) (a2 : Int32) (a3 : Int32) (mem : MMt) (Q : MMt → Prop) : Prop := ((a1 < (mem 58 4) → B_X3_pairFrom_17 R_X3_pairFrom a1 a2 a3 (0 : Int32) mem Q) ∧ (¬ a1 < (mem 58 4) → L_X3_keepIfBetter a3 mem (fun m2 => Q m2)))
set_option maxRecDepth 4000 in
theorem g_X3_pairFrom {sx : Nat × (Nat → Int32)} {R_X3_pairFrom : Int32 → Int32 → Int32 → MMt → (MMt → Prop) → Prop} {rf : RFt} {Q : MMt → Prop} {d0 : Nat} (hd0 : 2 ≤ d0) (hR_X3_pairFrom : ∀ (rf : RFt) (a1 : Int32) (a2 : Int32) (a3 : Int32) (mem : MMt) (Q : MMt → Prop), RFok rf → R_X3_pairFrom a1 a2 a3 mem Q → Ct sx yX3_pairFrom cX3_pairFrom 5 none d0 [.ref 58, .int a1, .int a2, .int a3] NX NX rf mem (QQv (RFok) Q)) (a1 : Int32) (a2 : Int32) (a3 : Int32) (hrf : RFok rf) (mem : MMt) (h : L_X3_pairFrom R_X3_pairFrom a1 a2 a3 mem Q) : Ct sx yX3_pairFrom cX3_pairFrom 5 none (d0 + 1) [.ref 58, .int a1, .int a2, .int a3] NX NX rf mem (QQv (RFok) Q) := by
  refine Ct_of [some (.ref 58), some (.int a1), some (.int a2), some (.int a3), none] (by decide +kernel) (by simp [Lof, Value.category]) rfl ?_
  unfold L_X3_pairFrom at h
  refine G_iload_n (i := 1) pX3_pairFrom_0 rfl rfl ?_
  refine G_aload_n (i := 0) pX3_pairFrom_1 rfl rfl ?_
  refine G_getI (ci := 3) (j := 4) (N := 9) pX3_pairFrom_2 fl_RX3_27 rfl ltk_58 shk_58 (by decide) rfl ?_
  refine G_icmp_lt pX3_pairFrom_5 (fun c1 => ?_) (fun c1 => ?_)
  · have h := h.1 c1
    refine G_iconst pX3_pairFrom_14 ic_0 ?_
    refine G_istore (i := 4) (L' := [some (.ref 58), some (.int a1), some (.int a2), some (.int a3), some (.int (0 : Int32))]) pX3_pairFrom_15 rfl ?_
    exact gB_X3_pairFrom_17 hd0 hR_X3_pairFrom hrf a1 a2 a3 (0 : Int32) _ h
  · have h := h.2 c1
    refine G_aload_n (i := 0) pX3_pairFrom_8 rfl rfl ?_
    refine G_iload_n (i := 3) pX3_pairFrom_9 rfl rfl ?_
    refine G_callV1v (b := 58) (ci := 3) (N := 9) pX3_pairFrom_10 (g_X3_keepIfBetter a3 hrf _ h) mV_X3_keepIfBetter ml_RX3_68 (by omega) ⟨Nat.le_refl _, Nat.le_refl _, Nat.le_refl _⟩ (Nat.le_of_ble_eq_true rfl) ltk_58 shk_58 rfl ?_
    intro rf m2 hrf h
    exact G_return (len := 1) pX3_pairFrom_13 ⟨hrf, rfl, h⟩ rfl
def WW_X3_pairFrom (n : Nat) : (Int32 → Int32 → Int32 → MMt → (MMt → Prop) → Prop) := Nat.rec (motive := fun _ => (Int32 → Int32 → Int32 → MMt → (MMt → Prop) → Prop)) (fun _ _ _ _ _ => False) (fun _ ih => L_X3_pairFrom ih) n
def W_X3_pairFrom (n : Nat) : Int32 → Int32 → Int32 → MMt → (MMt → Prop) → Prop := WW_X3_pairFrom n
theorem W_X3_pairFrom_s (n : Nat) : W_X3_pairFrom (n + 1) = L_X3_pairFrom (W_X3_pairFrom n) := rfl
theorem gWW_X3_pairFrom {sx : Nat × (Nat → Int32)} (n : Nat) : (∀ (rf : RFt) (a1 : Int32) (a2 : Int32) (a3 : Int32) (mem : MMt) (Q : MMt → Prop), RFok rf → W_X3_pairFrom n a1 a2 a3 mem Q → Ct sx yX3_pairFrom cX3_pairFrom 5 none (2 + n) [.ref 58, .int a1, .int a2, .int a3] NX NX rf mem (QQv (RFok) Q)) := by
  induction n with
  | zero => exact (fun rf a1 a2 a3 mem Q hrf h => h.elim)
  | succ n ih =>
    exact (fun rf a1 a2 a3 mem Q hrf h => g_X3_pairFrom (d0 := 2 + n) (by omega) (ih) a1 a2 a3 hrf mem h)
theorem gW_X3_pairFrom {sx : Nat × (Nat → Int32)} (n : Nat) {rf : RFt} {Q : MMt → Prop} (a1 : Int32) (a2 : Int32) (a3 : Int32) (hrf : RFok rf) (mem : MMt) (h : W_X3_pairFrom n a1 a2 a3 mem Q) : Ct sx yX3_pairFrom cX3_pairFrom 5 none (2 + n) [.ref 58, .int a1, .int a2, .int a3] NX NX rf mem (QQv (RFok) Q) := (gWW_X3_pairFrom n) rf a1 a2 a3 mem Q hrf h
def B_X3_balance_12 (a1 : Nat) (x1 : Nat) (x2 : Int32) (mem : MMt) (Q : MMt → Prop) : Prop := LOOP (σ := Int32 × MMt) (fun X12 z => (fun (x2 : Int32) (mem : MMt) => (((mem x1 1) ≤ x2 → L_J9_min_7cf53 (mem 58 4) (mem 58 5) mem (fun r3 m2 => (∀ m4 : MMt, m4 = up2 m2 58 6 r3 → (∀ m5 : MMt, m5 = up2 m4 58 7 (-1 : Int32) → W_X3_pairFrom 20 (0 : Int32) (0 : Int32) (0 : Int32) m5 (fun m6 => Q m6))))) ∧ (¬ (mem x1 1) ≤ x2 → (vp_in x2 8 ∧ L_X1_load (x1 + 2 + x2.toNatClampNeg) mem (fun r9 m8 => (vp_in x2 8 ∧ ∀ m10 : MMt, m10 = up2 m8 62 x2.toNatClampNeg r9 → (vp_in x2 8 ∧ ((¬ (m10 (x1 + 2 + x2.toNatClampNeg) 2) = 0 → (vp_in x2 8 ∧ ((¬ (m10 (x1 + 2 + x2.toNatClampNeg) 2) = (40 : Int32) → (∀ v16 : Int32, v16 = x2 + (1 : Int32) → X12 (v16, m10))) ∧ ((m10 (x1 + 2 + x2.toNatClampNeg) 2) = (40 : Int32) → (vp_in (m10 58 5) 8 ∧ ∀ m17 : MMt, m17 = up2 m10 60 (m10 58 5).toNatClampNeg x2 → (∀ m19 : MMt, m19 = up2 m17 58 5 ((m17 58 5) + (1 : Int32)) → (∀ v20 : Int32, v20 = x2 + (1 : Int32) → X12 (v20, m19)))))))) ∧ ((m10 (x1 + 2 + x2.toNatClampNeg) 2) = 0 → (vp_in (m10 58 4) 8 ∧ ∀ m21 : MMt, m21 = up2 m10 59 (m10 58 4).toNatClampNeg x2 → (∀ m23 : MMt, m23 = up2 m21 58 4 ((m21 58 4) + (1 : Int32)) → (∀ v24 : Int32, v24 = x2 + (1 : Int32) → X12 (v24, m23))))))))))))) z.1 z.2) (x2, mem)
set_option maxRecDepth 4000 in
theorem gB_X3_balance_12 {sx : Nat × (Nat → Int32)} {rf : RFt} {Q : MMt → Prop} (a1 : Nat) (ha1 : IS 0 a1) (hrf : RFok rf) (x1 : Nat) (x2 : Int32) (hx1 : IS 0 x1) (mem : MMt) (h : B_X3_balance_12 a1 x1 x2 mem Q) : G sx yX3_balance cX3_balance 3 none 24 NX NX (QQv (RFok) Q) NX rf mem 12 [some (.ref 58), some (.ref x1), some (.int x2)] [] := by
  obtain ⟨I, ⟨n, h0⟩, hI⟩ := h
  have key : ∀ (n : Nat) (rf : RFt) (x2 : Int32) (mem : MMt), RFok rf → I n (x2, mem) → G sx yX3_balance cX3_balance 3 none 24 NX NX (QQv (RFok) Q) NX rf mem 12 [some (.ref 58), some (.ref x1), some (.int x2)] [] := by
    intro n
    induction n using Nat.strongRecOn with
    | _ n ih =>
    intro rf x2 mem hrf h0
    have hX12 : ∀ (rf : RFt) (x2 : Int32) (mem : MMt), RFok rf → (fun s' => ∃ m, m < n ∧ I m s') (x2, mem) → G sx yX3_balance cX3_balance 3 none 24 NX NX (QQv (RFok) Q) NX rf mem 12 [some (.ref 58), some (.ref x1), some (.int x2)] [] := fun rf x2 mem hrf ⟨m, hm, hi⟩ => ih m hm rf x2 mem hrf hi
    have h := hI n _ h0
    clear ih h0
    try dsimp only at h
    refine G_iload_n (i := 2) pX3_balance_12 rfl rfl ?_
    refine G_aload_n (i := 1) pX3_balance_13 rfl rfl ?_
    refine G_getI (ci := 0) (j := 1) (N := 4) pX3_balance_14 fl_RX3_34 rfl hx1.2 hx1.sh0 (by decide) rfl ?_
    refine G_icmp_ge pX3_balance_17 (fun c1 => ?_) (fun c1 => ?_)
    · have h := h.1 c1
      refine G_aload_n (i := 0) pX3_balance_110 rfl rfl ?_
      refine G_aload_n (i := 0) pX3_balance_111 rfl rfl ?_
      refine G_getI (ci := 3) (j := 4) (N := 9) pX3_balance_112 fl_RX3_27 rfl ltk_58 shk_58 (by decide) rfl ?_
      refine G_aload_n (i := 0) pX3_balance_115 rfl rfl ?_
      refine G_getI (ci := 3) (j := 5) (N := 9) pX3_balance_116 fl_RX3_31 rfl ltk_58 shk_58 (by decide) rfl ?_
      refine G_callS2i pX3_balance_119 (g_J9_min_7cf53 (mem 58 4) (mem 58 5) hrf _ h) mS_J9_min_7cf53 ml_RX3_52 (by decide) ⟨Nat.le_refl _, Nat.le_refl _, Nat.le_refl _⟩ (Nat.le_of_ble_eq_true rfl) ?_
      intro r3 rf m2 hrf h hr3
      obtain ⟨m4, em4⟩ : ∃ z : MMt, z = up2 m2 58 6 r3 := ⟨_, rfl⟩
      have h := h m4 em4
      refine G_putIW (ci := 3) (j := 6) (N := 9) pX3_balance_122 fw_RX3_58 rfl ltk_58 shk_58 (by decide) rfl (fun _ => ⟨rfl, rfl⟩) em4.symm ?_
      refine G_aload_n (i := 0) pX3_balance_125 rfl rfl ?_
      refine G_iconst pX3_balance_126 ic_m1 ?_
      obtain ⟨m5, em5⟩ : ∃ z : MMt, z = up2 m4 58 7 (-1 : Int32) := ⟨_, rfl⟩
      have h := h m5 em5
      refine G_putIW (ci := 3) (j := 7) (N := 9) pX3_balance_127 fw_RX3_61 rfl ltk_58 shk_58 (by decide) rfl (fun _ => ⟨rfl, rfl⟩) em5.symm ?_
      refine G_aload_n (i := 0) pX3_balance_130 rfl rfl ?_
      refine G_iconst pX3_balance_131 ic_0 ?_
      refine G_iconst pX3_balance_132 ic_0 ?_
      refine G_iconst pX3_balance_133 ic_0 ?_
      refine G_callV3v (b := 58) (ci := 3) (N := 9) pX3_balance_134 (gW_X3_pairFrom 20 (0 : Int32) (0 : Int32) (0 : Int32) hrf _ h) mV_X3_pairFrom ml_RX3_64 (by decide) ⟨Nat.le_refl _, Nat.le_refl _, Nat.le_refl _⟩ (Nat.le_of_ble_eq_true rfl) ltk_58 shk_58 rfl ?_
      intro rf m6 hrf h
      exact G_return (len := 1) pX3_balance_137 ⟨hrf, rfl, h⟩ rfl
    · have h := h.2 c1
      refine G_aload_n (i := 0) pX3_balance_20 rfl rfl ?_
      refine G_getR (ci := 3) (j := 3) (N := 9) pX3_balance_21 fl_RX3_21 rfl ltk_58 shk_58 (by decide) rfl (hrf.lit 58 3 rfl) ?_
      refine G_iload_n (i := 2) pX3_balance_24 rfl rfl ?_
      refine G_aload_n (i := 1) pX3_balance_25 rfl rfl ?_
      refine G_getR (ci := 0) (j := 0) (N := 4) pX3_balance_26 fl_RX3_39 rfl hx1.2 hx1.sh0 (by decide) rfl ((lay_0_0 hx1).2.2 hrf) ?_
      refine G_iload_n (i := 2) pX3_balance_29 rfl rfl ?_
      obtain ⟨hi7, h⟩ := h
      refine G_aald pX3_balance_30 (lay_0_0 hx1).2.1 (lay_0_0 hx1).1 (by decide) hi7 (gd_rf hx1 hrf hi7) ?_
      refine G_callV0i (b := x1 + 2 + x2.toNatClampNeg) (ci := 1) (N := 5) pX3_balance_31 (g_X1_load (x1 + 2 + x2.toNatClampNeg) (gd_in hx1 hi7) hrf _ h) mV_X1_load ml_RX3_43 (by decide) ⟨Nat.le_refl _, Nat.le_refl _, Nat.le_refl _⟩ (Nat.le_of_ble_eq_true rfl) (gd_in hx1 hi7).2 (gd_in hx1 hi7).sh1 rfl ?_
      intro r9 rf m8 hrf h hr9
      obtain ⟨hi11, h⟩ := h
      obtain ⟨m10, em10⟩ : ∃ z : MMt, z = up2 m8 62 x2.toNatClampNeg r9 := ⟨_, rfl⟩
      have h := h m10 em10
      refine G_iastW pX3_balance_34 ltk_62 shk_62 hi11 em10.symm ?_
      refine G_aload_n (i := 1) pX3_balance_35 rfl rfl ?_
      refine G_getR (ci := 0) (j := 0) (N := 4) pX3_balance_36 fl_RX3_39 rfl hx1.2 hx1.sh0 (by decide) rfl ((lay_0_0 hx1).2.2 hrf) ?_
      refine G_iload_n (i := 2) pX3_balance_39 rfl rfl ?_
      obtain ⟨hi12, h⟩ := h
      refine G_aald pX3_balance_40 (lay_0_0 hx1).2.1 (lay_0_0 hx1).1 (by decide) hi12 (gd_rf hx1 hrf hi12) ?_
      refine G_getI (ci := 1) (j := 2) (N := 5) pX3_balance_41 fl_RX3_49 rfl (gd_in hx1 hi12).2 (gd_in hx1 hi12).sh1 (by decide) rfl ?_
      refine G_if_ne pX3_balance_44 (fun c13 => ?_) (fun c13 => ?_)
      · have h := h.1 c13
        refine G_aload_n (i := 1) pX3_balance_70 rfl rfl ?_
        refine G_getR (ci := 0) (j := 0) (N := 4) pX3_balance_71 fl_RX3_39 rfl hx1.2 hx1.sh0 (by decide) rfl ((lay_0_0 hx1).2.2 hrf) ?_
        refine G_iload_n (i := 2) pX3_balance_74 rfl rfl ?_
        obtain ⟨hi14, h⟩ := h
        refine G_aald pX3_balance_75 (lay_0_0 hx1).2.1 (lay_0_0 hx1).1 (by decide) hi14 (gd_rf hx1 hrf hi14) ?_
        refine G_getI (ci := 1) (j := 2) (N := 5) pX3_balance_76 fl_RX3_49 rfl (gd_in hx1 hi14).2 (gd_in hx1 hi14).sh1 (by decide) rfl ?_
        refine G_bipush pX3_balance_79 bi_40 ?_
        refine G_icmp_ne pX3_balance_81 (fun c15 => ?_) (fun c15 => ?_)
        · have h := h.1 c15
          obtain ⟨v16, e16⟩ : ∃ z : Int32, z = x2 + (1 : Int32) := ⟨_, rfl⟩
          have h := h v16 e16
          refine G_iincW (L' := [some (.ref 58), some (.ref x1), some (.int v16)]) pX3_balance_104 rfl ic_1 e16.symm rfl ?_
          refine G_goto pX3_balance_107 ?_
          exact hX12 _ _ _ hrf h
        · have h := h.2 c15
          refine G_aload_n (i := 0) pX3_balance_84 rfl rfl ?_
          refine G_getR (ci := 3) (j := 1) (N := 9) pX3_balance_85 fl_RX3_15 rfl ltk_58 shk_58 (by decide) rfl (hrf.lit 58 1 rfl) ?_
          refine G_aload_n (i := 0) pX3_balance_88 rfl rfl ?_
          refine G_getI (ci := 3) (j := 5) (N := 9) pX3_balance_89 fl_RX3_31 rfl ltk_58 shk_58 (by decide) rfl ?_
          refine G_iload_n (i := 2) pX3_balance_92 rfl rfl ?_
          obtain ⟨hi18, h⟩ := h
          obtain ⟨m17, em17⟩ : ∃ z : MMt, z = up2 m10 60 (m10 58 5).toNatClampNeg x2 := ⟨_, rfl⟩
          have h := h m17 em17
          refine G_iastW pX3_balance_93 ltk_60 shk_60 hi18 em17.symm ?_
          refine G_aload_n (i := 0) pX3_balance_94 rfl rfl ?_
          refine G_dup pX3_balance_95 rfl ?_
          refine G_getI (ci := 3) (j := 5) (N := 9) pX3_balance_96 fl_RX3_31 rfl ltk_58 shk_58 (by decide) rfl ?_
          refine G_iconst pX3_balance_99 ic_1 ?_
          refine G_iadd pX3_balance_100 ?_
          obtain ⟨m19, em19⟩ : ∃ z : MMt, z = up2 m17 58 5 ((m17 58 5) + (1 : Int32)) := ⟨_, rfl⟩
          have h := h m19 em19
          refine G_putIW (ci := 3) (j := 5) (N := 9) pX3_balance_101 fw_RX3_31 rfl ltk_58 shk_58 (by decide) rfl (fun _ => ⟨rfl, rfl⟩) em19.symm ?_
          obtain ⟨v20, e20⟩ : ∃ z : Int32, z = x2 + (1 : Int32) := ⟨_, rfl⟩
          have h := h v20 e20
          refine G_iincW (L' := [some (.ref 58), some (.ref x1), some (.int v20)]) pX3_balance_104 rfl ic_1 e20.symm rfl ?_
          refine G_goto pX3_balance_107 ?_
          exact hX12 _ _ _ hrf h
      · have h := h.2 c13
        refine G_aload_n (i := 0) pX3_balance_47 rfl rfl ?_
        refine G_getR (ci := 3) (j := 0) (N := 9) pX3_balance_48 fl_RX3_9 rfl ltk_58 shk_58 (by decide) rfl (hrf.lit 58 0 rfl) ?_
        refine G_aload_n (i := 0) pX3_balance_51 rfl rfl ?_
        refine G_getI (ci := 3) (j := 4) (N := 9) pX3_balance_52 fl_RX3_27 rfl ltk_58 shk_58 (by decide) rfl ?_
        refine G_iload_n (i := 2) pX3_balance_55 rfl rfl ?_
        obtain ⟨hi22, h⟩ := h
        obtain ⟨m21, em21⟩ : ∃ z : MMt, z = up2 m10 59 (m10 58 4).toNatClampNeg x2 := ⟨_, rfl⟩
        have h := h m21 em21
        refine G_iastW pX3_balance_56 ltk_59 shk_59 hi22 em21.symm ?_
        refine G_aload_n (i := 0) pX3_balance_57 rfl rfl ?_
        refine G_dup pX3_balance_58 rfl ?_
        refine G_getI (ci := 3) (j := 4) (N := 9) pX3_balance_59 fl_RX3_27 rfl ltk_58 shk_58 (by decide) rfl ?_
        refine G_iconst pX3_balance_62 ic_1 ?_
        refine G_iadd pX3_balance_63 ?_
        obtain ⟨m23, em23⟩ : ∃ z : MMt, z = up2 m21 58 4 ((m21 58 4) + (1 : Int32)) := ⟨_, rfl⟩
        have h := h m23 em23
        refine G_putIW (ci := 3) (j := 4) (N := 9) pX3_balance_64 fw_RX3_27 rfl ltk_58 shk_58 (by decide) rfl (fun _ => ⟨rfl, rfl⟩) em23.symm ?_
        refine G_goto pX3_balance_67 ?_
        obtain ⟨v24, e24⟩ : ∃ z : Int32, z = x2 + (1 : Int32) := ⟨_, rfl⟩
        have h := h v24 e24
        refine G_iincW (L' := [some (.ref 58), some (.ref x1), some (.int v24)]) pX3_balance_104 rfl ic_1 e24.symm rfl ?_
        refine G_goto pX3_balance_107 ?_
        exact hX12 _ _ _ hrf h
  exact key n rf _ _ hrf h0
def L_X3_balance (a1 : Nat) (mem : MMt) (Q : MMt → Prop) : Prop := (∀ m1 : MMt, m1 = up2 mem 58 4 (0 : Int32) → (∀ m2 : MMt, m2 = up2 m1 58 5 (0 : Int32) → B_X3_balance_12 a1 a1 (0 : Int32) m2 Q))
set_option maxRecDepth 4000 in
theorem g_X3_balance {sx : Nat × (Nat → Int32)} {rf : RFt} {Q : MMt → Prop} (a1 : Nat) (ha1 : IS 0 a1) (hrf : RFok rf) (mem : MMt) (h : L_X3_balance a1 mem Q) : Ct sx yX3_balance cX3_balance 3 none 24 [.ref 58, .ref a1] NX NX rf mem (QQv (RFok) Q) := by
  refine Ct_of [some (.ref 58), some (.ref a1), none] (by decide +kernel) (by simp [Lof, Value.category]) rfl ?_
  unfold L_X3_balance at h
  refine G_aload_n (i := 0) pX3_balance_0 rfl rfl ?_
  refine G_iconst pX3_balance_1 ic_0 ?_
  obtain ⟨m1, em1⟩ : ∃ z : MMt, z = up2 mem 58 4 (0 : Int32) := ⟨_, rfl⟩
  have h := h m1 em1
  refine G_putIW (ci := 3) (j := 4) (N := 9) pX3_balance_2 fw_RX3_27 rfl ltk_58 shk_58 (by decide) rfl (fun _ => ⟨rfl, rfl⟩) em1.symm ?_
  refine G_aload_n (i := 0) pX3_balance_5 rfl rfl ?_
  refine G_iconst pX3_balance_6 ic_0 ?_
  obtain ⟨m2, em2⟩ : ∃ z : MMt, z = up2 m1 58 5 (0 : Int32) := ⟨_, rfl⟩
  have h := h m2 em2
  refine G_putIW (ci := 3) (j := 5) (N := 9) pX3_balance_7 fw_RX3_31 rfl ltk_58 shk_58 (by decide) rfl (fun _ => ⟨rfl, rfl⟩) em2.symm ?_
  refine G_iconst pX3_balance_10 ic_0 ?_
  refine G_istore_n (i := 2) (L' := [some (.ref 58), some (.ref a1), some (.int (0 : Int32))]) pX3_balance_11 rfl rfl ?_
  exact gB_X3_balance_12 a1 ha1 hrf a1 (0 : Int32) ha1 _ h
