def B_X10_isUnder_30 (x0 : Int32) (x1 : Int32) (mem : MMt) (Q : Int32 → MMt → Prop) : Prop := ((¬ x1 = (3 : Int32) → Q (0 : Int32) mem) ∧ (x1 = (3 : Int32) → ((¬ x0 = (5 : Int32) → Q (0 : Int32) mem) ∧ (x0 = (5 : Int32) → Q (1 : Int32) mem))))
set_option maxRecDepth 4000 in
theorem gB_X10_isUnder_30 {sx : Nat × (Nat → Int32)} {M : RFt → Prop} {rf : RFt} {Q : Int32 → MMt → Prop} (hrf : M rf) (x0 : Int32) (x1 : Int32) (mem : MMt) (h : B_X10_isUnder_30 x0 x1 mem Q) : G sx yX10_isUnder cX10_isUnder 2 (some .boolean) 1 NX NX (QQi (M) Q) NX rf mem 30 [some (.int x0), some (.int x1)] [] := by
  unfold B_X10_isUnder_30 at h
  refine G_iload_n (i := 1) pX10_isUnder_30 rfl rfl ?_
  refine G_iconst pX10_isUnder_31 ic_3 ?_
  refine G_icmp_ne pX10_isUnder_32 (fun c1 => ?_) (fun c1 => ?_)
  · have h := h.1 c1
    refine G_iconst pX10_isUnder_44 ic_0 ?_
    exact G_ireturn (len := 1) pX10_isUnder_45 ⟨hrf, _, rfl, h⟩ ⟨_, rfl, rfl⟩
  · have h := h.2 c1
    refine G_iload_n (i := 0) pX10_isUnder_35 rfl rfl ?_
    refine G_iconst pX10_isUnder_36 ic_5 ?_
    refine G_icmp_ne pX10_isUnder_37 (fun c2 => ?_) (fun c2 => ?_)
    · have h := h.1 c2
      refine G_iconst pX10_isUnder_44 ic_0 ?_
      exact G_ireturn (len := 1) pX10_isUnder_45 ⟨hrf, _, rfl, h⟩ ⟨_, rfl, rfl⟩
    · have h := h.2 c2
      refine G_iconst pX10_isUnder_40 ic_1 ?_
      refine G_goto pX10_isUnder_41 ?_
      exact G_ireturn (len := 1) pX10_isUnder_45 ⟨hrf, _, rfl, h⟩ ⟨_, rfl, rfl⟩
def B_X10_isUnder_20 (x0 : Int32) (x1 : Int32) (mem : MMt) (Q : Int32 → MMt → Prop) : Prop := ((¬ x1 = (2 : Int32) → B_X10_isUnder_30 x0 x1 mem Q) ∧ (x1 = (2 : Int32) → ((x0 = (4 : Int32) → Q (1 : Int32) mem) ∧ (¬ x0 = (4 : Int32) → B_X10_isUnder_30 x0 x1 mem Q))))
set_option maxRecDepth 4000 in
theorem gB_X10_isUnder_20 {sx : Nat × (Nat → Int32)} {M : RFt → Prop} {rf : RFt} {Q : Int32 → MMt → Prop} (hrf : M rf) (x0 : Int32) (x1 : Int32) (mem : MMt) (h : B_X10_isUnder_20 x0 x1 mem Q) : G sx yX10_isUnder cX10_isUnder 2 (some .boolean) 1 NX NX (QQi (M) Q) NX rf mem 20 [some (.int x0), some (.int x1)] [] := by
  unfold B_X10_isUnder_20 at h
  refine G_iload_n (i := 1) pX10_isUnder_20 rfl rfl ?_
  refine G_iconst pX10_isUnder_21 ic_2 ?_
  refine G_icmp_ne pX10_isUnder_22 (fun c1 => ?_) (fun c1 => ?_)
  · have h := h.1 c1
    exact gB_X10_isUnder_30 hrf x0 x1 _ h
  · have h := h.2 c1
    refine G_iload_n (i := 0) pX10_isUnder_25 rfl rfl ?_
    refine G_iconst pX10_isUnder_26 ic_4 ?_
    refine G_icmp_eq pX10_isUnder_27 (fun c2 => ?_) (fun c2 => ?_)
    · have h := h.1 c2
      refine G_iconst pX10_isUnder_40 ic_1 ?_
      refine G_goto pX10_isUnder_41 ?_
      exact G_ireturn (len := 1) pX10_isUnder_45 ⟨hrf, _, rfl, h⟩ ⟨_, rfl, rfl⟩
    · have h := h.2 c2
      exact gB_X10_isUnder_30 hrf x0 x1 _ h
def L_X10_isUnder (a1 : Int32) (a2 : Int32) (mem : MMt) (Q : Int32 → MMt → Prop) : Prop := ((a2 = 0 → Q (1 : Int32) mem) ∧ (¬ a2 = 0 → ((a1 = a2 → Q (1 : Int32) mem) ∧ (¬ a1 = a2 → ((¬ a2 = (1 : Int32) → B_X10_isUnder_20 a1 a2 mem Q) ∧ (a2 = (1 : Int32) → ((a1 = (6 : Int32) → Q (1 : Int32) mem) ∧ (¬ a1 = (6 : Int32) → B_X10_isUnder_20 a1 a2 mem Q))))))))
set_option maxRecDepth 4000 in
theorem g_X10_isUnder {sx : Nat × (Nat → Int32)} {M : RFt → Prop} {rf : RFt} {Q : Int32 → MMt → Prop} (a1 : Int32) (a2 : Int32) (hrf : M rf) (mem : MMt) (h : L_X10_isUnder a1 a2 mem Q) : Ct sx yX10_isUnder cX10_isUnder 2 (some .boolean) 1 [.int a1, .int a2] NX NX rf mem (QQi (M) Q) := by
  refine Ct_of [some (.int a1), some (.int a2)] (by decide +kernel) (by simp [Lof, Value.category]) rfl ?_
  unfold L_X10_isUnder at h
  refine G_iload_n (i := 1) pX10_isUnder_0 rfl rfl ?_
  refine G_if_eq pX10_isUnder_1 (fun c1 => ?_) (fun c1 => ?_)
  · have h := h.1 c1
    refine G_iconst pX10_isUnder_40 ic_1 ?_
    refine G_goto pX10_isUnder_41 ?_
    exact G_ireturn (len := 1) pX10_isUnder_45 ⟨hrf, _, rfl, h⟩ ⟨_, rfl, rfl⟩
  · have h := h.2 c1
    refine G_iload_n (i := 0) pX10_isUnder_4 rfl rfl ?_
    refine G_iload_n (i := 1) pX10_isUnder_5 rfl rfl ?_
    refine G_icmp_eq pX10_isUnder_6 (fun c2 => ?_) (fun c2 => ?_)
    · have h := h.1 c2
      refine G_iconst pX10_isUnder_40 ic_1 ?_
      refine G_goto pX10_isUnder_41 ?_
      exact G_ireturn (len := 1) pX10_isUnder_45 ⟨hrf, _, rfl, h⟩ ⟨_, rfl, rfl⟩
    · have h := h.2 c2
      refine G_iload_n (i := 1) pX10_isUnder_9 rfl rfl ?_
      refine G_iconst pX10_isUnder_10 ic_1 ?_
      refine G_icmp_ne pX10_isUnder_11 (fun c3 => ?_) (fun c3 => ?_)
      · have h := h.1 c3
        exact gB_X10_isUnder_20 hrf a1 a2 _ h
      · have h := h.2 c3
        refine G_iload_n (i := 0) pX10_isUnder_14 rfl rfl ?_
        refine G_bipush pX10_isUnder_15 bi_6 ?_
        refine G_icmp_eq pX10_isUnder_17 (fun c4 => ?_) (fun c4 => ?_)
        · have h := h.1 c4
          refine G_iconst pX10_isUnder_40 ic_1 ?_
          refine G_goto pX10_isUnder_41 ?_
          exact G_ireturn (len := 1) pX10_isUnder_45 ⟨hrf, _, rfl, h⟩ ⟨_, rfl, rfl⟩
        · have h := h.2 c4
          exact gB_X10_isUnder_20 hrf a1 a2 _ h
def L_X10_load (a1 : Int32) (a2 : Int32) (mem : MMt) (Q : Int32 → MMt → Prop) : Prop := ((a1 < (1 : Int32) → Q (a2 + (1 : Int32)) mem) ∧ ((6 : Int32) < a1 → Q (a2 + (1 : Int32)) mem) ∧ (a1 = (1 : Int32) → Q ((3 : Int32) * (a2 + (1 : Int32))) mem) ∧ (a1 = (2 : Int32) → Q (a2 + (1 : Int32)) mem) ∧ (a1 = (3 : Int32) → Q (0 : Int32) mem) ∧ (a1 = (4 : Int32) → Q (a2 + (6 : Int32)) mem) ∧ (a1 = (5 : Int32) → Q a2 mem) ∧ (a1 = (6 : Int32) → Q (((3 : Int32) * (a2 + (1 : Int32))) + (20 : Int32)) mem))
set_option maxRecDepth 4000 in
theorem g_X10_load {sx : Nat × (Nat → Int32)} {M : RFt → Prop} {rf : RFt} {Q : Int32 → MMt → Prop} (a1 : Int32) (a2 : Int32) (hrf : M rf) (mem : MMt) (h : L_X10_load a1 a2 mem Q) : Ct sx yX10_load cX10_load 2 (some .int) 1 [.int a1, .int a2] NX NX rf mem (QQi (M) Q) := by
  refine Ct_of [some (.int a1), some (.int a2)] (by decide +kernel) (by simp [Lof, Value.category]) rfl ?_
  unfold L_X10_load at h
  refine G_iload_n (i := 0) pX10_load_0 rfl rfl ?_
  by_cases c1 : a1 < (1 : Int32)
  · have h := h.1 c1
    refine G_tsOut (tgt := 64) pX10_load_1 (Or.inl (ts_lt c1 (by decide))) (by decide) ?_
    refine G_iload_n (i := 1) pX10_load_64 rfl rfl ?_
    refine G_iconst pX10_load_65 ic_1 ?_
    refine G_iadd pX10_load_66 ?_
    exact G_ireturn (len := 1) pX10_load_67 ⟨hrf, _, rfl, h⟩ ⟨_, rfl, rfl⟩
  by_cases c2 : (6 : Int32) < a1
  · have h := h.2.1 c2
    refine G_tsOut (tgt := 64) pX10_load_1 (Or.inr (ts_gt c2 (by decide))) (by decide) ?_
    refine G_iload_n (i := 1) pX10_load_64 rfl rfl ?_
    refine G_iconst pX10_load_65 ic_1 ?_
    refine G_iadd pX10_load_66 ?_
    exact G_ireturn (len := 1) pX10_load_67 ⟨hrf, _, rfl, h⟩ ⟨_, rfl, rfl⟩
  rcases tsx_1_6 c1 c2 with hc | hc | hc | hc | hc | hc
  · have h := h.2.2.1 hc
    refine G_tsInE (v := (1 : Int32)) (off := 39) (tgt := 40) pX10_load_1 hc (by decide) ?_
    refine G_iconst pX10_load_40 ic_3 ?_
    refine G_iload_n (i := 1) pX10_load_41 rfl rfl ?_
    refine G_iconst pX10_load_42 ic_1 ?_
    refine G_iadd pX10_load_43 ?_
    refine G_imul pX10_load_44 ?_
    exact G_ireturn (len := 1) pX10_load_45 ⟨hrf, _, rfl, h⟩ ⟨_, rfl, rfl⟩
  · have h := h.2.2.2.1 hc
    refine G_tsInE (v := (2 : Int32)) (off := 63) (tgt := 64) pX10_load_1 hc (by decide) ?_
    refine G_iload_n (i := 1) pX10_load_64 rfl rfl ?_
    refine G_iconst pX10_load_65 ic_1 ?_
    refine G_iadd pX10_load_66 ?_
    exact G_ireturn (len := 1) pX10_load_67 ⟨hrf, _, rfl, h⟩ ⟨_, rfl, rfl⟩
  · have h := h.2.2.2.2.1 hc
    refine G_tsInE (v := (3 : Int32)) (off := 45) (tgt := 46) pX10_load_1 hc (by decide) ?_
    refine G_iconst pX10_load_46 ic_0 ?_
    exact G_ireturn (len := 1) pX10_load_47 ⟨hrf, _, rfl, h⟩ ⟨_, rfl, rfl⟩
  · have h := h.2.2.2.2.2.1 hc
    refine G_tsInE (v := (4 : Int32)) (off := 47) (tgt := 48) pX10_load_1 hc (by decide) ?_
    refine G_iload_n (i := 1) pX10_load_48 rfl rfl ?_
    refine G_bipush pX10_load_49 bi_6 ?_
    refine G_iadd pX10_load_51 ?_
    exact G_ireturn (len := 1) pX10_load_52 ⟨hrf, _, rfl, h⟩ ⟨_, rfl, rfl⟩
  · have h := h.2.2.2.2.2.2.1 hc
    refine G_tsInE (v := (5 : Int32)) (off := 52) (tgt := 53) pX10_load_1 hc (by decide) ?_
    refine G_iload_n (i := 1) pX10_load_53 rfl rfl ?_
    exact G_ireturn (len := 1) pX10_load_54 ⟨hrf, _, rfl, h⟩ ⟨_, rfl, rfl⟩
  · have h := h.2.2.2.2.2.2.2 hc
    refine G_tsInE (v := (6 : Int32)) (off := 54) (tgt := 55) pX10_load_1 hc (by decide) ?_
    refine G_iconst pX10_load_55 ic_3 ?_
    refine G_iload_n (i := 1) pX10_load_56 rfl rfl ?_
    refine G_iconst pX10_load_57 ic_1 ?_
    refine G_iadd pX10_load_58 ?_
    refine G_imul pX10_load_59 ?_
    refine G_bipush pX10_load_60 bi_20 ?_
    refine G_iadd pX10_load_62 ?_
    exact G_ireturn (len := 1) pX10_load_63 ⟨hrf, _, rfl, h⟩ ⟨_, rfl, rfl⟩
def L_X10_pulled (a1 : Int32) (a2 : Int32) (mem : MMt) (Q : Int32 → MMt → Prop) : Prop := ((a1 = (3 : Int32) → Q (-(a2 / (2 : Int32))) mem) ∧ (¬ a1 = (3 : Int32) → ((¬ a1 = (5 : Int32) → ((¬ a1 = (6 : Int32) → Q a2 mem) ∧ (a1 = (6 : Int32) → Q ((2 : Int32) * a2) mem))) ∧ (a1 = (5 : Int32) → Q (-(a2 / (2 : Int32))) mem))))
set_option maxRecDepth 4000 in
theorem g_X10_pulled {sx : Nat × (Nat → Int32)} {M : RFt → Prop} {rf : RFt} {Q : Int32 → MMt → Prop} (a1 : Int32) (a2 : Int32) (hrf : M rf) (mem : MMt) (h : L_X10_pulled a1 a2 mem Q) : Ct sx yX10_pulled cX10_pulled 2 (some .int) 1 [.int a1, .int a2] NX NX rf mem (QQi (M) Q) := by
  refine Ct_of [some (.int a1), some (.int a2)] (by decide +kernel) (by simp [Lof, Value.category]) rfl ?_
  unfold L_X10_pulled at h
  refine G_iload_n (i := 0) pX10_pulled_0 rfl rfl ?_
  refine G_iconst pX10_pulled_1 ic_3 ?_
  refine G_icmp_eq pX10_pulled_2 (fun c1 => ?_) (fun c1 => ?_)
  · have h := h.1 c1
    refine G_iload_n (i := 1) pX10_pulled_10 rfl rfl ?_
    refine G_iconst pX10_pulled_11 ic_2 ?_
    refine G_idiv pX10_pulled_12 (by decide) ?_
    refine G_ineg pX10_pulled_13 ?_
    refine G_goto pX10_pulled_14 ?_
    exact G_ireturn (len := 1) pX10_pulled_30 ⟨hrf, _, rfl, h⟩ ⟨_, rfl, rfl⟩
  · have h := h.2 c1
    refine G_iload_n (i := 0) pX10_pulled_5 rfl rfl ?_
    refine G_iconst pX10_pulled_6 ic_5 ?_
    refine G_icmp_ne pX10_pulled_7 (fun c2 => ?_) (fun c2 => ?_)
    · have h := h.1 c2
      refine G_iload_n (i := 0) pX10_pulled_17 rfl rfl ?_
      refine G_bipush pX10_pulled_18 bi_6 ?_
      refine G_icmp_ne pX10_pulled_20 (fun c3 => ?_) (fun c3 => ?_)
      · have h := h.1 c3
        refine G_iload_n (i := 1) pX10_pulled_29 rfl rfl ?_
        exact G_ireturn (len := 1) pX10_pulled_30 ⟨hrf, _, rfl, h⟩ ⟨_, rfl, rfl⟩
      · have h := h.2 c3
        refine G_iconst pX10_pulled_23 ic_2 ?_
        refine G_iload_n (i := 1) pX10_pulled_24 rfl rfl ?_
        refine G_imul pX10_pulled_25 ?_
        refine G_goto pX10_pulled_26 ?_
        exact G_ireturn (len := 1) pX10_pulled_30 ⟨hrf, _, rfl, h⟩ ⟨_, rfl, rfl⟩
    · have h := h.2 c2
      refine G_iload_n (i := 1) pX10_pulled_10 rfl rfl ?_
      refine G_iconst pX10_pulled_11 ic_2 ?_
      refine G_idiv pX10_pulled_12 (by decide) ?_
      refine G_ineg pX10_pulled_13 ?_
      refine G_goto pX10_pulled_14 ?_
      exact G_ireturn (len := 1) pX10_pulled_30 ⟨hrf, _, rfl, h⟩ ⟨_, rfl, rfl⟩
def L_X10_drag (a1 : Int32) (a2 : Int32) (mem : MMt) (Q : Int32 → MMt → Prop) : Prop := ((a1 = (1 : Int32) → Q (0 : Int32) mem) ∧ (¬ a1 = (1 : Int32) → ((¬ a1 = (6 : Int32) → ((¬ a1 = (3 : Int32) → ((¬ a1 = (5 : Int32) → Q (a2 - a2 / (2 : Int32) * (2 : Int32)) mem) ∧ (a1 = (5 : Int32) → Q (1 : Int32) mem))) ∧ (a1 = (3 : Int32) → Q (2 : Int32) mem))) ∧ (a1 = (6 : Int32) → Q (0 : Int32) mem))))
set_option maxRecDepth 4000 in
theorem g_X10_drag {sx : Nat × (Nat → Int32)} {M : RFt → Prop} {rf : RFt} {Q : Int32 → MMt → Prop} (a1 : Int32) (a2 : Int32) (hrf : M rf) (mem : MMt) (h : L_X10_drag a1 a2 mem Q) : Ct sx yX10_drag cX10_drag 2 (some .int) 1 [.int a1, .int a2] NX NX rf mem (QQi (M) Q) := by
  refine Ct_of [some (.int a1), some (.int a2)] (by decide +kernel) (by simp [Lof, Value.category]) rfl ?_
  unfold L_X10_drag at h
  refine G_iload_n (i := 0) pX10_drag_0 rfl rfl ?_
  refine G_iconst pX10_drag_1 ic_1 ?_
  refine G_icmp_eq pX10_drag_2 (fun c1 => ?_) (fun c1 => ?_)
  · have h := h.1 c1
    refine G_iconst pX10_drag_11 ic_0 ?_
    refine G_goto pX10_drag_12 ?_
    exact G_ireturn (len := 1) pX10_drag_36 ⟨hrf, _, rfl, h⟩ ⟨_, rfl, rfl⟩
  · have h := h.2 c1
    refine G_iload_n (i := 0) pX10_drag_5 rfl rfl ?_
    refine G_bipush pX10_drag_6 bi_6 ?_
    refine G_icmp_ne pX10_drag_8 (fun c2 => ?_) (fun c2 => ?_)
    · have h := h.1 c2
      refine G_iload_n (i := 0) pX10_drag_15 rfl rfl ?_
      refine G_iconst pX10_drag_16 ic_3 ?_
      refine G_icmp_ne pX10_drag_17 (fun c3 => ?_) (fun c3 => ?_)
      · have h := h.1 c3
        refine G_iload_n (i := 0) pX10_drag_24 rfl rfl ?_
        refine G_iconst pX10_drag_25 ic_5 ?_
        refine G_icmp_ne pX10_drag_26 (fun c4 => ?_) (fun c4 => ?_)
        · have h := h.1 c4
          refine G_iload_n (i := 1) pX10_drag_33 rfl rfl ?_
          refine G_iconst pX10_drag_34 ic_2 ?_
          refine G_irem pX10_drag_35 (by decide) ?_
          exact G_ireturn (len := 1) pX10_drag_36 ⟨hrf, _, rfl, h⟩ ⟨_, rfl, rfl⟩
        · have h := h.2 c4
          refine G_iconst pX10_drag_29 ic_1 ?_
          refine G_goto pX10_drag_30 ?_
          exact G_ireturn (len := 1) pX10_drag_36 ⟨hrf, _, rfl, h⟩ ⟨_, rfl, rfl⟩
      · have h := h.2 c3
        refine G_iconst pX10_drag_20 ic_2 ?_
        refine G_goto pX10_drag_21 ?_
        exact G_ireturn (len := 1) pX10_drag_36 ⟨hrf, _, rfl, h⟩ ⟨_, rfl, rfl⟩
    · have h := h.2 c2
      refine G_iconst pX10_drag_11 ic_0 ?_
      refine G_goto pX10_drag_12 ?_
      exact G_ireturn (len := 1) pX10_drag_36 ⟨hrf, _, rfl, h⟩ ⟨_, rfl, rfl⟩
def L_X10_reach (a1 : Int32) (a2 : Int32) (mem : MMt) (Q : Int32 → MMt → Prop) : Prop := ((¬ a1 = (2 : Int32) → ((¬ a1 = (4 : Int32) → Q (40 : Int32) mem) ∧ (a1 = (4 : Int32) → Q ((a2 + (2 : Int32)) / (2 : Int32)) mem))) ∧ (a1 = (2 : Int32) → Q (a2 + (2 : Int32)) mem))
set_option maxRecDepth 4000 in
theorem g_X10_reach {sx : Nat × (Nat → Int32)} {M : RFt → Prop} {rf : RFt} {Q : Int32 → MMt → Prop} (a1 : Int32) (a2 : Int32) (hrf : M rf) (mem : MMt) (h : L_X10_reach a1 a2 mem Q) : Ct sx yX10_reach cX10_reach 2 (some .int) 1 [.int a1, .int a2] NX NX rf mem (QQi (M) Q) := by
  refine Ct_of [some (.int a1), some (.int a2)] (by decide +kernel) (by simp [Lof, Value.category]) rfl ?_
  unfold L_X10_reach at h
  refine G_iload_n (i := 0) pX10_reach_0 rfl rfl ?_
  refine G_iconst pX10_reach_1 ic_2 ?_
  refine G_icmp_ne pX10_reach_2 (fun c1 => ?_) (fun c1 => ?_)
  · have h := h.1 c1
    refine G_iload_n (i := 0) pX10_reach_11 rfl rfl ?_
    refine G_iconst pX10_reach_12 ic_4 ?_
    refine G_icmp_ne pX10_reach_13 (fun c2 => ?_) (fun c2 => ?_)
    · have h := h.1 c2
      refine G_bipush pX10_reach_24 bi_40 ?_
      exact G_ireturn (len := 1) pX10_reach_26 ⟨hrf, _, rfl, h⟩ ⟨_, rfl, rfl⟩
    · have h := h.2 c2
      refine G_iload_n (i := 1) pX10_reach_16 rfl rfl ?_
      refine G_iconst pX10_reach_17 ic_2 ?_
      refine G_iadd pX10_reach_18 ?_
      refine G_iconst pX10_reach_19 ic_2 ?_
      refine G_idiv pX10_reach_20 (by decide) ?_
      refine G_goto pX10_reach_21 ?_
      exact G_ireturn (len := 1) pX10_reach_26 ⟨hrf, _, rfl, h⟩ ⟨_, rfl, rfl⟩
  · have h := h.2 c1
    refine G_iload_n (i := 1) pX10_reach_5 rfl rfl ?_
    refine G_iconst pX10_reach_6 ic_2 ?_
    refine G_iadd pX10_reach_7 ?_
    refine G_goto pX10_reach_8 ?_
    exact G_ireturn (len := 1) pX10_reach_26 ⟨hrf, _, rfl, h⟩ ⟨_, rfl, rfl⟩
def L_X10_loadOf (a1 : Int32) (mem : MMt) (Q : Int32 → MMt → Prop) : Prop := L_X10_of a1 (0 : Int32) mem (fun r2 m1 => L_X10_of a1 (1 : Int32) m1 (fun r4 m3 => L_X10_load r2 r4 m3 (fun r6 m5 => Q r6 m5)))
set_option maxRecDepth 4000 in
theorem g_X10_loadOf {sx : Nat × (Nat → Int32)} {rf : RFt} {Q : Int32 → MMt → Prop} (a1 : Int32) (hrf : RFok rf) (mem : MMt) (h : L_X10_loadOf a1 mem Q) : Ct sx yX10_loadOf cX10_loadOf 2 (some .int) 2 [.ref 76, .int a1] NX NX rf mem (QQi (RFok) Q) := by
  refine Ct_of [some (.ref 76), some (.int a1)] (by decide +kernel) (by simp [Lof, Value.category]) rfl ?_
  unfold L_X10_loadOf at h
  refine G_aload_n (i := 0) pX10_loadOf_0 rfl rfl ?_
  refine G_iload_n (i := 1) pX10_loadOf_1 rfl rfl ?_
  refine G_iconst pX10_loadOf_2 ic_0 ?_
  refine G_callV2i (b := 76) (ci := 10) (N := 29) pX10_loadOf_3 (g_X10_of a1 (0 : Int32) hrf _ h) mV_X10_of ml_RX10_61 (by decide) ⟨Nat.le_refl _, Nat.le_refl _, Nat.le_refl _⟩ (Nat.le_of_ble_eq_true rfl) ltk_76 shk_76 rfl ?_
  intro r2 rf m1 hrf h hr2
  refine G_aload_n (i := 0) pX10_loadOf_6 rfl rfl ?_
  refine G_iload_n (i := 1) pX10_loadOf_7 rfl rfl ?_
  refine G_iconst pX10_loadOf_8 ic_1 ?_
  refine G_callV2i (b := 76) (ci := 10) (N := 29) pX10_loadOf_9 (g_X10_of a1 (1 : Int32) hrf _ h) mV_X10_of ml_RX10_61 (by decide) ⟨Nat.le_refl _, Nat.le_refl _, Nat.le_refl _⟩ (Nat.le_of_ble_eq_true rfl) ltk_76 shk_76 rfl ?_
  intro r4 rf m3 hrf h hr4
  refine G_callS2i pX10_loadOf_12 (g_X10_load r2 r4 hrf _ h) mS_X10_load ml_RX10_65 (by decide) ⟨Nat.le_refl _, Nat.le_refl _, Nat.le_refl _⟩ (Nat.le_of_ble_eq_true rfl) ?_
  intro r6 rf m5 hrf h hr6
  exact G_ireturn (len := 1) pX10_loadOf_15 ⟨hrf, _, rfl, h⟩ ⟨_, rfl, rfl⟩
def L_X10_worked (a1 : Int32) (a2 : Int32) (a3 : Int32) (mem : MMt) (Q : Int32 → MMt → Prop) : Prop := ((a1 = (38 : Int32) → ((a2 = 0 → Q (0 : Int32) mem) ∧ (¬ a2 = 0 → ((a3 = 0 → Q (0 : Int32) mem) ∧ (¬ a3 = 0 → Q (1 : Int32) mem))))) ∧ (a1 = (42 : Int32) → Q (a2 * a3) mem) ∧ (a1 = (43 : Int32) → Q (a2 + a3) mem) ∧ (a1 = (45 : Int32) → Q (a2 - a3) mem) ∧ (a1 = (47 : Int32) → ((¬ a3 = 0 → ((¬ a3 = (-1 : Int32) → (¬ a3 = 0 ∧ Q (a2 / a3) mem)) ∧ (a3 = (-1 : Int32) → Q (-a2) mem))) ∧ (a3 = 0 → Q (0 : Int32) mem))) ∧ (a1 = (60 : Int32) → ((a3 ≤ a2 → Q (0 : Int32) mem) ∧ (¬ a3 ≤ a2 → Q (1 : Int32) mem))) ∧ (a1 = (61 : Int32) → ((¬ a2 = a3 → Q (0 : Int32) mem) ∧ (a2 = a3 → Q (1 : Int32) mem))) ∧ (a1 = (62 : Int32) → ((a2 ≤ a3 → Q (0 : Int32) mem) ∧ (¬ a2 ≤ a3 → Q (1 : Int32) mem))) ∧ (a1 = (124 : Int32) → ((¬ a2 = 0 → Q (1 : Int32) mem) ∧ (a2 = 0 → ((a3 = 0 → Q (0 : Int32) mem) ∧ (¬ a3 = 0 → Q (1 : Int32) mem))))) ∧ (¬ a1 = (38 : Int32) → ¬ a1 = (42 : Int32) → ¬ a1 = (43 : Int32) → ¬ a1 = (45 : Int32) → ¬ a1 = (47 : Int32) → ¬ a1 = (60 : Int32) → ¬ a1 = (61 : Int32) → ¬ a1 = (62 : Int32) → ¬ a1 = (124 : Int32) → ((a3 = 0 → Q (0 : Int32) mem) ∧ (¬ a3 = 0 → ((¬ a3 = (-1 : Int32) → (¬ a3 = 0 ∧ Q (a2 - a2 / a3 * a3) mem)) ∧ (a3 = (-1 : Int32) → Q (0 : Int32) mem))))))
set_option maxRecDepth 4000 in
theorem g_X10_worked {sx : Nat × (Nat → Int32)} {M : RFt → Prop} {rf : RFt} {Q : Int32 → MMt → Prop} (a1 : Int32) (a2 : Int32) (a3 : Int32) (hrf : M rf) (mem : MMt) (h : L_X10_worked a1 a2 a3 mem Q) : Ct sx yX10_worked cX10_worked 3 (some .int) 1 [.int a1, .int a2, .int a3] NX NX rf mem (QQi (M) Q) := by
  refine Ct_of [some (.int a1), some (.int a2), some (.int a3)] (by decide +kernel) (by simp [Lof, Value.category]) rfl ?_
  unfold L_X10_worked at h
  refine G_iload_n (i := 0) pX10_worked_0 rfl rfl ?_
  by_cases c1 : a1 = (38 : Int32)
  · have h := h.1 c1
    refine G_lsE (v := (38 : Int32)) (off := 97) (tgt := 98) pX10_worked_1 c1 (by decide) (by decide) (by decide) ?_
    refine G_iload_n (i := 1) pX10_worked_98 rfl rfl ?_
    refine G_if_eq pX10_worked_99 (fun c2 => ?_) (fun c2 => ?_)
    · have h := h.1 c2
      refine G_iconst pX10_worked_110 ic_0 ?_
      exact G_ireturn (len := 1) pX10_worked_111 ⟨hrf, _, rfl, h⟩ ⟨_, rfl, rfl⟩
    · have h := h.2 c2
      refine G_iload_n (i := 2) pX10_worked_102 rfl rfl ?_
      refine G_if_eq pX10_worked_103 (fun c3 => ?_) (fun c3 => ?_)
      · have h := h.1 c3
        refine G_iconst pX10_worked_110 ic_0 ?_
        exact G_ireturn (len := 1) pX10_worked_111 ⟨hrf, _, rfl, h⟩ ⟨_, rfl, rfl⟩
      · have h := h.2 c3
        refine G_iconst pX10_worked_106 ic_1 ?_
        refine G_goto pX10_worked_107 ?_
        exact G_ireturn (len := 1) pX10_worked_111 ⟨hrf, _, rfl, h⟩ ⟨_, rfl, rfl⟩
  by_cases c4 : a1 = (42 : Int32)
  · have h := h.2.1 c4
    refine G_lsE (v := (42 : Int32)) (off := 152) (tgt := 153) pX10_worked_1 c4 (by decide) (by decide) (by decide) ?_
    refine G_iload_n (i := 1) pX10_worked_153 rfl rfl ?_
    refine G_iload_n (i := 2) pX10_worked_154 rfl rfl ?_
    refine G_imul pX10_worked_155 ?_
    exact G_ireturn (len := 1) pX10_worked_156 ⟨hrf, _, rfl, h⟩ ⟨_, rfl, rfl⟩
  by_cases c5 : a1 = (43 : Int32)
  · have h := h.2.2.1 c5
    refine G_lsE (v := (43 : Int32)) (off := 144) (tgt := 145) pX10_worked_1 c5 (by decide) (by decide) (by decide) ?_
    refine G_iload_n (i := 1) pX10_worked_145 rfl rfl ?_
    refine G_iload_n (i := 2) pX10_worked_146 rfl rfl ?_
    refine G_iadd pX10_worked_147 ?_
    exact G_ireturn (len := 1) pX10_worked_148 ⟨hrf, _, rfl, h⟩ ⟨_, rfl, rfl⟩
  by_cases c6 : a1 = (45 : Int32)
  · have h := h.2.2.2.1 c6
    refine G_lsE (v := (45 : Int32)) (off := 148) (tgt := 149) pX10_worked_1 c6 (by decide) (by decide) (by decide) ?_
    refine G_iload_n (i := 1) pX10_worked_149 rfl rfl ?_
    refine G_iload_n (i := 2) pX10_worked_150 rfl rfl ?_
    refine G_isub pX10_worked_151 ?_
    exact G_ireturn (len := 1) pX10_worked_152 ⟨hrf, _, rfl, h⟩ ⟨_, rfl, rfl⟩
  by_cases c7 : a1 = (47 : Int32)
  · have h := h.2.2.2.2.1 c7
    refine G_lsE (v := (47 : Int32)) (off := 156) (tgt := 157) pX10_worked_1 c7 (by decide) (by decide) (by decide) ?_
    refine G_iload_n (i := 2) pX10_worked_157 rfl rfl ?_
    refine G_if_ne pX10_worked_158 (fun c8 => ?_) (fun c8 => ?_)
    · have h := h.1 c8
      refine G_iload_n (i := 2) pX10_worked_165 rfl rfl ?_
      refine G_iconst pX10_worked_166 ic_m1 ?_
      refine G_icmp_ne pX10_worked_167 (fun c9 => ?_) (fun c9 => ?_)
      · have h := h.1 c9
        refine G_iload_n (i := 1) pX10_worked_175 rfl rfl ?_
        refine G_iload_n (i := 2) pX10_worked_176 rfl rfl ?_
        obtain ⟨hz, h⟩ := h
        refine G_idiv pX10_worked_177 hz ?_
        exact G_ireturn (len := 1) pX10_worked_178 ⟨hrf, _, rfl, h⟩ ⟨_, rfl, rfl⟩
      · have h := h.2 c9
        refine G_iload_n (i := 1) pX10_worked_170 rfl rfl ?_
        refine G_ineg pX10_worked_171 ?_
        refine G_goto pX10_worked_172 ?_
        exact G_ireturn (len := 1) pX10_worked_178 ⟨hrf, _, rfl, h⟩ ⟨_, rfl, rfl⟩
    · have h := h.2 c8
      refine G_iconst pX10_worked_161 ic_0 ?_
      refine G_goto pX10_worked_162 ?_
      exact G_ireturn (len := 1) pX10_worked_178 ⟨hrf, _, rfl, h⟩ ⟨_, rfl, rfl⟩
  by_cases c10 : a1 = (60 : Int32)
  · have h := h.2.2.2.2.2.1 c10
    refine G_lsE (v := (60 : Int32)) (off := 111) (tgt := 112) pX10_worked_1 c10 (by decide) (by decide) (by decide) ?_
    refine G_iload_n (i := 1) pX10_worked_112 rfl rfl ?_
    refine G_iload_n (i := 2) pX10_worked_113 rfl rfl ?_
    refine G_icmp_ge pX10_worked_114 (fun c11 => ?_) (fun c11 => ?_)
    · have h := h.1 c11
      refine G_iconst pX10_worked_121 ic_0 ?_
      exact G_ireturn (len := 1) pX10_worked_122 ⟨hrf, _, rfl, h⟩ ⟨_, rfl, rfl⟩
    · have h := h.2 c11
      refine G_iconst pX10_worked_117 ic_1 ?_
      refine G_goto pX10_worked_118 ?_
      exact G_ireturn (len := 1) pX10_worked_122 ⟨hrf, _, rfl, h⟩ ⟨_, rfl, rfl⟩
  by_cases c12 : a1 = (61 : Int32)
  · have h := h.2.2.2.2.2.2.1 c12
    refine G_lsE (v := (61 : Int32)) (off := 122) (tgt := 123) pX10_worked_1 c12 (by decide) (by decide) (by decide) ?_
    refine G_iload_n (i := 1) pX10_worked_123 rfl rfl ?_
    refine G_iload_n (i := 2) pX10_worked_124 rfl rfl ?_
    refine G_icmp_ne pX10_worked_125 (fun c13 => ?_) (fun c13 => ?_)
    · have h := h.1 c13
      refine G_iconst pX10_worked_132 ic_0 ?_
      exact G_ireturn (len := 1) pX10_worked_133 ⟨hrf, _, rfl, h⟩ ⟨_, rfl, rfl⟩
    · have h := h.2 c13
      refine G_iconst pX10_worked_128 ic_1 ?_
      refine G_goto pX10_worked_129 ?_
      exact G_ireturn (len := 1) pX10_worked_133 ⟨hrf, _, rfl, h⟩ ⟨_, rfl, rfl⟩
  by_cases c14 : a1 = (62 : Int32)
  · have h := h.2.2.2.2.2.2.2.1 c14
    refine G_lsE (v := (62 : Int32)) (off := 133) (tgt := 134) pX10_worked_1 c14 (by decide) (by decide) (by decide) ?_
    refine G_iload_n (i := 1) pX10_worked_134 rfl rfl ?_
    refine G_iload_n (i := 2) pX10_worked_135 rfl rfl ?_
    refine G_icmp_le pX10_worked_136 (fun c15 => ?_) (fun c15 => ?_)
    · have h := h.1 c15
      refine G_iconst pX10_worked_143 ic_0 ?_
      exact G_ireturn (len := 1) pX10_worked_144 ⟨hrf, _, rfl, h⟩ ⟨_, rfl, rfl⟩
    · have h := h.2 c15
      refine G_iconst pX10_worked_139 ic_1 ?_
      refine G_goto pX10_worked_140 ?_
      exact G_ireturn (len := 1) pX10_worked_144 ⟨hrf, _, rfl, h⟩ ⟨_, rfl, rfl⟩
  by_cases c16 : a1 = (124 : Int32)
  · have h := h.2.2.2.2.2.2.2.2.1 c16
    refine G_lsE (v := (124 : Int32)) (off := 83) (tgt := 84) pX10_worked_1 c16 (by decide) (by decide) (by decide) ?_
    refine G_iload_n (i := 1) pX10_worked_84 rfl rfl ?_
    refine G_if_ne pX10_worked_85 (fun c17 => ?_) (fun c17 => ?_)
    · have h := h.1 c17
      refine G_iconst pX10_worked_92 ic_1 ?_
      refine G_goto pX10_worked_93 ?_
      exact G_ireturn (len := 1) pX10_worked_97 ⟨hrf, _, rfl, h⟩ ⟨_, rfl, rfl⟩
    · have h := h.2 c17
      refine G_iload_n (i := 2) pX10_worked_88 rfl rfl ?_
      refine G_if_eq pX10_worked_89 (fun c18 => ?_) (fun c18 => ?_)
      · have h := h.1 c18
        refine G_iconst pX10_worked_96 ic_0 ?_
        exact G_ireturn (len := 1) pX10_worked_97 ⟨hrf, _, rfl, h⟩ ⟨_, rfl, rfl⟩
      · have h := h.2 c18
        refine G_iconst pX10_worked_92 ic_1 ?_
        refine G_goto pX10_worked_93 ?_
        exact G_ireturn (len := 1) pX10_worked_97 ⟨hrf, _, rfl, h⟩ ⟨_, rfl, rfl⟩
  refine G_ls (off := 178) (tgt := 179) pX10_worked_1 (by decide) ((lv_osw c1 (by decide)).trans ((lv_osw c4 (by decide)).trans ((lv_osw c5 (by decide)).trans ((lv_osw c6 (by decide)).trans ((lv_osw c7 (by decide)).trans ((lv_osw c10 (by decide)).trans ((lv_osw c12 (by decide)).trans ((lv_osw c14 (by decide)).trans ((lv_osw c16 (by decide)).trans rfl))))))))) (by decide) ?_
  have h := h.2.2.2.2.2.2.2.2.2 c1 c4 c5 c6 c7 c10 c12 c14 c16
  refine G_iload_n (i := 2) pX10_worked_179 rfl rfl ?_
  refine G_if_eq pX10_worked_180 (fun c19 => ?_) (fun c19 => ?_)
  · have h := h.1 c19
    refine G_iconst pX10_worked_188 ic_0 ?_
    refine G_goto pX10_worked_189 ?_
    exact G_ireturn (len := 1) pX10_worked_195 ⟨hrf, _, rfl, h⟩ ⟨_, rfl, rfl⟩
  · have h := h.2 c19
    refine G_iload_n (i := 2) pX10_worked_183 rfl rfl ?_
    refine G_iconst pX10_worked_184 ic_m1 ?_
    refine G_icmp_ne pX10_worked_185 (fun c20 => ?_) (fun c20 => ?_)
    · have h := h.1 c20
      refine G_iload_n (i := 1) pX10_worked_192 rfl rfl ?_
      refine G_iload_n (i := 2) pX10_worked_193 rfl rfl ?_
      obtain ⟨hz, h⟩ := h
      refine G_irem pX10_worked_194 hz ?_
      exact G_ireturn (len := 1) pX10_worked_195 ⟨hrf, _, rfl, h⟩ ⟨_, rfl, rfl⟩
    · have h := h.2 c20
      refine G_iconst pX10_worked_188 ic_0 ?_
      refine G_goto pX10_worked_189 ?_
      exact G_ireturn (len := 1) pX10_worked_195 ⟨hrf, _, rfl, h⟩ ⟨_, rfl, rfl⟩
def B_X10_worksOut_106 (X4 : Int32 × Int32 × MMt → Prop) (x1 : Int32) (x2 : Int32) (x3 : Int32) (s0 : Int32) (s1 : Int32) (mem : MMt) (Q : Int32 → MMt → Prop) : Prop := (vp_in s1 50 ∧ ∀ m1 : MMt, m1 = up2 mem 81 s1.toNatClampNeg s0 → (∀ v3 : Int32, v3 = x3 + (1 : Int32) → X4 (x2, v3, m1)))
set_option maxRecDepth 4000 in
theorem gB_X10_worksOut_106 {sx : Nat × (Nat → Int32)} {X4 : Int32 × Int32 × MMt → Prop} {rf : RFt} {Q : Int32 → MMt → Prop} (hrf : RFok rf) (x1 : Int32) (x2 : Int32) (x3 : Int32) (s0 : Int32) (s1 : Int32) (hX4 : ∀ (rf : RFt) (x2 : Int32) (x3 : Int32) (mem : MMt), RFok rf → X4 (x2, x3, mem) → G sx yX10_worksOut cX10_worksOut 6 (some .int) 2 NX NX (QQi (RFok) Q) NX rf mem 4 [some (.ref 76), some (.int x1), some (.int x2), some (.int x3), none, none] []) (mem : MMt) (h : B_X10_worksOut_106 X4 x1 x2 x3 s0 s1 mem Q) : G sx yX10_worksOut cX10_worksOut 6 (some .int) 2 NX NX (QQi (RFok) Q) NX rf mem 106 [some (.ref 76), some (.int x1), some (.int x2), some (.int x3), none, none] [.int s0, .int s1, .ref 81] := by
  unfold B_X10_worksOut_106 at h
  obtain ⟨hi2, h⟩ := h
  obtain ⟨m1, em1⟩ : ∃ z : MMt, z = up2 mem 81 s1.toNatClampNeg s0 := ⟨_, rfl⟩
  have h := h m1 em1
  refine G_iastW pX10_worksOut_106 ltk_81 shk_81 hi2 em1.symm ?_
  refine G_goto pX10_worksOut_107 ?_
  obtain ⟨v3, e3⟩ : ∃ z : Int32, z = x3 + (1 : Int32) := ⟨_, rfl⟩
  have h := h v3 e3
  refine G_iincW (L' := [some (.ref 76), some (.int x1), some (.int x2), some (.int v3), none, none]) pX10_worksOut_140 rfl ic_1 e3.symm rfl ?_
  refine G_goto pX10_worksOut_143 ?_
  exact hX4 _ _ _ _ hrf h
def B_X10_worksOut_70 (X4 : Int32 × Int32 × MMt → Prop) (x1 : Int32) (x2 : Int32) (x3 : Int32) (s0 : Int32) (s1 : Int32) (mem : MMt) (Q : Int32 → MMt → Prop) : Prop := (vp_in s1 50 ∧ ∀ m1 : MMt, m1 = up2 mem 81 s1.toNatClampNeg s0 → (∀ v3 : Int32, v3 = x2 + (1 : Int32) → (∀ v4 : Int32, v4 = x3 + (1 : Int32) → X4 (v3, v4, m1))))
set_option maxRecDepth 4000 in
theorem gB_X10_worksOut_70 {sx : Nat × (Nat → Int32)} {X4 : Int32 × Int32 × MMt → Prop} {rf : RFt} {Q : Int32 → MMt → Prop} (hrf : RFok rf) (x1 : Int32) (x2 : Int32) (x3 : Int32) (s0 : Int32) (s1 : Int32) (hX4 : ∀ (rf : RFt) (x2 : Int32) (x3 : Int32) (mem : MMt), RFok rf → X4 (x2, x3, mem) → G sx yX10_worksOut cX10_worksOut 6 (some .int) 2 NX NX (QQi (RFok) Q) NX rf mem 4 [some (.ref 76), some (.int x1), some (.int x2), some (.int x3), none, none] []) (mem : MMt) (h : B_X10_worksOut_70 X4 x1 x2 x3 s0 s1 mem Q) : G sx yX10_worksOut cX10_worksOut 6 (some .int) 2 NX NX (QQi (RFok) Q) NX rf mem 70 [some (.ref 76), some (.int x1), some (.int x2), some (.int x3), none, none] [.int s0, .int s1, .ref 81] := by
  unfold B_X10_worksOut_70 at h
  obtain ⟨hi2, h⟩ := h
  obtain ⟨m1, em1⟩ : ∃ z : MMt, z = up2 mem 81 s1.toNatClampNeg s0 := ⟨_, rfl⟩
  have h := h m1 em1
  refine G_iastW pX10_worksOut_70 ltk_81 shk_81 hi2 em1.symm ?_
  obtain ⟨v3, e3⟩ : ∃ z : Int32, z = x2 + (1 : Int32) := ⟨_, rfl⟩
  have h := h v3 e3
  refine G_iincW (L' := [some (.ref 76), some (.int x1), some (.int v3), some (.int x3), none, none]) pX10_worksOut_71 rfl ic_1 e3.symm rfl ?_
  refine G_goto pX10_worksOut_74 ?_
  obtain ⟨v4, e4⟩ : ∃ z : Int32, z = x3 + (1 : Int32) := ⟨_, rfl⟩
  have h := h v4 e4
  refine G_iincW (L' := [some (.ref 76), some (.int x1), some (.int v3), some (.int v4), none, none]) pX10_worksOut_140 rfl ic_1 e4.symm rfl ?_
  refine G_goto pX10_worksOut_143 ?_
  exact hX4 _ _ _ _ hrf h
def B_X10_worksOut_4 (x1 : Int32) (x2 : Int32) (x3 : Int32) (mem : MMt) (Q : Int32 → MMt → Prop) : Prop := LOOP (σ := Int32 × Int32 × MMt) (fun X4 z => (fun (x2 : Int32) (x3 : Int32) (mem : MMt) => (vp_in x1 322 ∧ (((mem 77 x1.toNatClampNeg) ≤ x3 → Q (mem 81 0) mem) ∧ (¬ (mem 77 x1.toNatClampNeg) ≤ x3 → (vp_in ((x1 + (1 : Int32)) + ((2 : Int32) * x3)) 322 ∧ (∀ v4 : Int32, v4 = mem 77 ((x1 + (1 : Int32)) + ((2 : Int32) * x3)).toNatClampNeg → (vp_in ((x1 + (2 : Int32)) + ((2 : Int32) * x3)) 322 ∧ (∀ v6 : Int32, v6 = mem 77 ((x1 + (2 : Int32)) + ((2 : Int32) * x3)).toNatClampNeg → (((2 : Int32) ≤ v4 → ((¬ v4 = (3 : Int32) → (∀ v9 : Int32, v9 = x2 + (-1 : Int32) → (vp_in (v9 - (1 : Int32)) 50 ∧ (vp_in v9 50 ∧ L_X10_worked v6 (mem 81 (v9 - (1 : Int32)).toNatClampNeg) (mem 81 v9.toNatClampNeg) mem (fun r13 m12 => (vp_in (v9 - (1 : Int32)) 50 ∧ ∀ m14 : MMt, m14 = up2 m12 81 (v9 - (1 : Int32)).toNatClampNeg r13 → (∀ v16 : Int32, v16 = x3 + (1 : Int32) → X4 (v9, v16, m14)))))))) ∧ (v4 = (3 : Int32) → (vp_in (x2 - (1 : Int32)) 50 ∧ ((¬ (mem 81 (x2 - (1 : Int32)).toNatClampNeg) = 0 → B_X10_worksOut_106 X4 x1 x2 x3 (0 : Int32) (x2 - (1 : Int32)) mem Q) ∧ ((mem 81 (x2 - (1 : Int32)).toNatClampNeg) = 0 → B_X10_worksOut_106 X4 x1 x2 x3 (1 : Int32) (x2 - (1 : Int32)) mem Q)))))) ∧ (¬ (2 : Int32) ≤ v4 → ((¬ v4 = 0 → (vp_in v6 3 ∧ B_X10_worksOut_70 X4 x1 x2 x3 (mem 82 v6.toNatClampNeg) x2 mem Q)) ∧ (v4 = 0 → B_X10_worksOut_70 X4 x1 x2 x3 v6 x2 mem Q)))))))))))) z.1 z.2.1 z.2.2) (x2, x3, mem)
set_option maxRecDepth 4000 in
theorem gB_X10_worksOut_4 {sx : Nat × (Nat → Int32)} {rf : RFt} {Q : Int32 → MMt → Prop} (hrf : RFok rf) (x1 : Int32) (x2 : Int32) (x3 : Int32) (mem : MMt) (h : B_X10_worksOut_4 x1 x2 x3 mem Q) : G sx yX10_worksOut cX10_worksOut 6 (some .int) 2 NX NX (QQi (RFok) Q) NX rf mem 4 [some (.ref 76), some (.int x1), some (.int x2), some (.int x3), none, none] [] := by
  obtain ⟨I, ⟨n, h0⟩, hI⟩ := h
  have key : ∀ (n : Nat) (rf : RFt) (x2 : Int32) (x3 : Int32) (mem : MMt), RFok rf → I n (x2, x3, mem) → G sx yX10_worksOut cX10_worksOut 6 (some .int) 2 NX NX (QQi (RFok) Q) NX rf mem 4 [some (.ref 76), some (.int x1), some (.int x2), some (.int x3), none, none] [] := by
    intro n
    induction n using Nat.strongRecOn with
    | _ n ih =>
    intro rf x2 x3 mem hrf h0
    have hX4 : ∀ (rf : RFt) (x2 : Int32) (x3 : Int32) (mem : MMt), RFok rf → (fun s' => ∃ m, m < n ∧ I m s') (x2, x3, mem) → G sx yX10_worksOut cX10_worksOut 6 (some .int) 2 NX NX (QQi (RFok) Q) NX rf mem 4 [some (.ref 76), some (.int x1), some (.int x2), some (.int x3), none, none] [] := fun rf x2 x3 mem hrf ⟨m, hm, hi⟩ => ih m hm rf x2 x3 mem hrf hi
    have h := hI n _ h0
    clear ih h0
    try dsimp only at h
    refine G_iload_n (i := 3) pX10_worksOut_4 rfl rfl ?_
    refine G_aload_n (i := 0) pX10_worksOut_5 rfl rfl ?_
    refine G_getR (ci := 10) (j := 0) (N := 29) pX10_worksOut_6 fl_RX10_9 rfl ltk_76 shk_76 (by decide) rfl (hrf.lit 76 0 rfl) ?_
    refine G_iload_n (i := 1) pX10_worksOut_9 rfl rfl ?_
    obtain ⟨hi1, h⟩ := h
    refine G_iald pX10_worksOut_10 ltk_77 shk_77 hi1 ?_
    refine G_icmp_ge pX10_worksOut_11 (fun c2 => ?_) (fun c2 => ?_)
    · have h := h.1 c2
      refine G_aload_n (i := 0) pX10_worksOut_146 rfl rfl ?_
      refine G_getR (ci := 10) (j := 10) (N := 29) pX10_worksOut_147 fl_RX10_22 rfl ltk_76 shk_76 (by decide) rfl (hrf.lit 76 10 rfl) ?_
      refine G_iconst pX10_worksOut_150 ic_0 ?_
      refine G_ialdL (j := 0) pX10_worksOut_151 ltk_81 shk_81 (vpl (by decide)) (by decide) ?_
      exact G_ireturn (len := 1) pX10_worksOut_152 ⟨hrf, _, rfl, h⟩ ⟨_, rfl, rfl⟩
    · have h := h.2 c2
      refine G_aload_n (i := 0) pX10_worksOut_14 rfl rfl ?_
      refine G_getR (ci := 10) (j := 0) (N := 29) pX10_worksOut_15 fl_RX10_9 rfl ltk_76 shk_76 (by decide) rfl (hrf.lit 76 0 rfl) ?_
      refine G_iload_n (i := 1) pX10_worksOut_18 rfl rfl ?_
      refine G_iconst pX10_worksOut_19 ic_1 ?_
      refine G_iadd pX10_worksOut_20 ?_
      refine G_iconst pX10_worksOut_21 ic_2 ?_
      refine G_iload_n (i := 3) pX10_worksOut_22 rfl rfl ?_
      refine G_imul pX10_worksOut_23 ?_
      refine G_iadd pX10_worksOut_24 ?_
      obtain ⟨hi3, h⟩ := h
      refine G_iald pX10_worksOut_25 ltk_77 shk_77 hi3 ?_
      obtain ⟨v4, e4⟩ : ∃ z : Int32, z = mem 77 ((x1 + (1 : Int32)) + ((2 : Int32) * x3)).toNatClampNeg := ⟨_, rfl⟩
      have h := h v4 e4
      refine G_istoreW (L' := [some (.ref 76), some (.int x1), some (.int x2), some (.int x3), some (.int v4), none]) pX10_worksOut_26 e4.symm rfl ?_
      refine G_aload_n (i := 0) pX10_worksOut_28 rfl rfl ?_
      refine G_getR (ci := 10) (j := 0) (N := 29) pX10_worksOut_29 fl_RX10_9 rfl ltk_76 shk_76 (by decide) rfl (hrf.lit 76 0 rfl) ?_
      refine G_iload_n (i := 1) pX10_worksOut_32 rfl rfl ?_
      refine G_iconst pX10_worksOut_33 ic_2 ?_
      refine G_iadd pX10_worksOut_34 ?_
      refine G_iconst pX10_worksOut_35 ic_2 ?_
      refine G_iload_n (i := 3) pX10_worksOut_36 rfl rfl ?_
      refine G_imul pX10_worksOut_37 ?_
      refine G_iadd pX10_worksOut_38 ?_
      obtain ⟨hi5, h⟩ := h
      refine G_iald pX10_worksOut_39 ltk_77 shk_77 hi5 ?_
      obtain ⟨v6, e6⟩ : ∃ z : Int32, z = mem 77 ((x1 + (2 : Int32)) + ((2 : Int32) * x3)).toNatClampNeg := ⟨_, rfl⟩
      have h := h v6 e6
      refine G_istoreW (L' := [some (.ref 76), some (.int x1), some (.int x2), some (.int x3), some (.int v4), some (.int v6)]) pX10_worksOut_40 e6.symm rfl ?_
      refine G_iload (i := 4) pX10_worksOut_42 rfl ?_
      refine G_iconst pX10_worksOut_44 ic_2 ?_
      refine G_icmp_ge pX10_worksOut_45 (fun c7 => ?_) (fun c7 => ?_)
      · have h := h.1 c7
        refine G_iload (i := 4) pX10_worksOut_77 rfl ?_
        refine G_iconst pX10_worksOut_79 ic_3 ?_
        refine G_icmp_ne pX10_worksOut_80 (fun c8 => ?_) (fun c8 => ?_)
        · have h := h.1 c8
          obtain ⟨v9, e9⟩ : ∃ z : Int32, z = x2 + (-1 : Int32) := ⟨_, rfl⟩
          have h := h v9 e9
          refine G_iincW (L' := [some (.ref 76), some (.int x1), some (.int v9), some (.int x3), some (.int v4), some (.int v6)]) pX10_worksOut_110 rfl ic_m1 e9.symm rfl ?_
          refine G_aload_n (i := 0) pX10_worksOut_113 rfl rfl ?_
          refine G_getR (ci := 10) (j := 10) (N := 29) pX10_worksOut_114 fl_RX10_22 rfl ltk_76 shk_76 (by decide) rfl (hrf.lit 76 10 rfl) ?_
          refine G_iload_n (i := 2) pX10_worksOut_117 rfl rfl ?_
          refine G_iconst pX10_worksOut_118 ic_1 ?_
          refine G_isub pX10_worksOut_119 ?_
          refine G_iload (i := 5) pX10_worksOut_120 rfl ?_
          refine G_aload_n (i := 0) pX10_worksOut_122 rfl rfl ?_
          refine G_getR (ci := 10) (j := 10) (N := 29) pX10_worksOut_123 fl_RX10_22 rfl ltk_76 shk_76 (by decide) rfl (hrf.lit 76 10 rfl) ?_
          refine G_iload_n (i := 2) pX10_worksOut_126 rfl rfl ?_
          refine G_iconst pX10_worksOut_127 ic_1 ?_
          refine G_isub pX10_worksOut_128 ?_
          obtain ⟨hi10, h⟩ := h
          refine G_iald pX10_worksOut_129 ltk_81 shk_81 hi10 ?_
          refine G_aload_n (i := 0) pX10_worksOut_130 rfl rfl ?_
          refine G_getR (ci := 10) (j := 10) (N := 29) pX10_worksOut_131 fl_RX10_22 rfl ltk_76 shk_76 (by decide) rfl (hrf.lit 76 10 rfl) ?_
          refine G_iload_n (i := 2) pX10_worksOut_134 rfl rfl ?_
          obtain ⟨hi11, h⟩ := h
          refine G_iald pX10_worksOut_135 ltk_81 shk_81 hi11 ?_
          refine G_callS3i pX10_worksOut_136 (g_X10_worked v6 (mem 81 (v9 - (1 : Int32)).toNatClampNeg) (mem 81 v9.toNatClampNeg) hrf _ h) mS_X10_worked ml_RX10_189 (by decide) ⟨Nat.le_refl _, Nat.le_refl _, Nat.le_refl _⟩ (Nat.le_of_ble_eq_true rfl) ?_
          intro r13 rf m12 hrf h hr13
          obtain ⟨hi15, h⟩ := h
          obtain ⟨m14, em14⟩ : ∃ z : MMt, z = up2 m12 81 (v9 - (1 : Int32)).toNatClampNeg r13 := ⟨_, rfl⟩
          have h := h m14 em14
          refine G_iastW pX10_worksOut_139 ltk_81 shk_81 hi15 em14.symm ?_
          obtain ⟨v16, e16⟩ : ∃ z : Int32, z = x3 + (1 : Int32) := ⟨_, rfl⟩
          have h := h v16 e16
          refine G_iincW (L' := [some (.ref 76), some (.int x1), some (.int v9), some (.int v16), some (.int v4), some (.int v6)]) pX10_worksOut_140 rfl ic_1 e16.symm rfl ?_
          refine G_goto pX10_worksOut_143 ?_
          refine G_wk (L2 := [some (.ref 76), some (.int x1), some (.int v9), some (.int v16), none, none]) ⟨Or.inr rfl, Or.inr rfl, Or.inr rfl, Or.inr rfl, Or.inl rfl, Or.inl rfl, trivial⟩ ?_
          exact hX4 _ _ _ _ hrf h
        · have h := h.2 c8
          refine G_aload_n (i := 0) pX10_worksOut_83 rfl rfl ?_
          refine G_getR (ci := 10) (j := 10) (N := 29) pX10_worksOut_84 fl_RX10_22 rfl ltk_76 shk_76 (by decide) rfl (hrf.lit 76 10 rfl) ?_
          refine G_iload_n (i := 2) pX10_worksOut_87 rfl rfl ?_
          refine G_iconst pX10_worksOut_88 ic_1 ?_
          refine G_isub pX10_worksOut_89 ?_
          refine G_aload_n (i := 0) pX10_worksOut_90 rfl rfl ?_
          refine G_getR (ci := 10) (j := 10) (N := 29) pX10_worksOut_91 fl_RX10_22 rfl ltk_76 shk_76 (by decide) rfl (hrf.lit 76 10 rfl) ?_
          refine G_iload_n (i := 2) pX10_worksOut_94 rfl rfl ?_
          refine G_iconst pX10_worksOut_95 ic_1 ?_
          refine G_isub pX10_worksOut_96 ?_
          obtain ⟨hi17, h⟩ := h
          refine G_iald pX10_worksOut_97 ltk_81 shk_81 hi17 ?_
          refine G_if_ne pX10_worksOut_98 (fun c18 => ?_) (fun c18 => ?_)
          · have h := h.1 c18
            refine G_iconst pX10_worksOut_105 ic_0 ?_
            refine G_wk (L2 := [some (.ref 76), some (.int x1), some (.int x2), some (.int x3), none, none]) ⟨Or.inr rfl, Or.inr rfl, Or.inr rfl, Or.inr rfl, Or.inl rfl, Or.inl rfl, trivial⟩ ?_
            exact gB_X10_worksOut_106 hrf x1 x2 x3 (0 : Int32) (x2 - (1 : Int32)) hX4 _ h
          · have h := h.2 c18
            refine G_iconst pX10_worksOut_101 ic_1 ?_
            refine G_goto pX10_worksOut_102 ?_
            refine G_wk (L2 := [some (.ref 76), some (.int x1), some (.int x2), some (.int x3), none, none]) ⟨Or.inr rfl, Or.inr rfl, Or.inr rfl, Or.inr rfl, Or.inl rfl, Or.inl rfl, trivial⟩ ?_
            exact gB_X10_worksOut_106 hrf x1 x2 x3 (1 : Int32) (x2 - (1 : Int32)) hX4 _ h
      · have h := h.2 c7
        refine G_aload_n (i := 0) pX10_worksOut_48 rfl rfl ?_
        refine G_getR (ci := 10) (j := 10) (N := 29) pX10_worksOut_49 fl_RX10_22 rfl ltk_76 shk_76 (by decide) rfl (hrf.lit 76 10 rfl) ?_
        refine G_iload_n (i := 2) pX10_worksOut_52 rfl rfl ?_
        refine G_iload (i := 4) pX10_worksOut_53 rfl ?_
        refine G_if_ne pX10_worksOut_55 (fun c19 => ?_) (fun c19 => ?_)
        · have h := h.1 c19
          refine G_aload_n (i := 0) pX10_worksOut_63 rfl rfl ?_
          refine G_getR (ci := 10) (j := 11) (N := 29) pX10_worksOut_64 fl_RX10_25 rfl ltk_76 shk_76 (by decide) rfl (hrf.lit 76 11 rfl) ?_
          refine G_iload (i := 5) pX10_worksOut_67 rfl ?_
          obtain ⟨hi20, h⟩ := h
          refine G_iald pX10_worksOut_69 ltk_82 shk_82 hi20 ?_
          refine G_wk (L2 := [some (.ref 76), some (.int x1), some (.int x2), some (.int x3), none, none]) ⟨Or.inr rfl, Or.inr rfl, Or.inr rfl, Or.inr rfl, Or.inl rfl, Or.inl rfl, trivial⟩ ?_
          exact gB_X10_worksOut_70 hrf x1 x2 x3 (mem 82 v6.toNatClampNeg) x2 hX4 _ h
        · have h := h.2 c19
          refine G_iload (i := 5) pX10_worksOut_58 rfl ?_
          refine G_goto pX10_worksOut_60 ?_
          refine G_wk (L2 := [some (.ref 76), some (.int x1), some (.int x2), some (.int x3), none, none]) ⟨Or.inr rfl, Or.inr rfl, Or.inr rfl, Or.inr rfl, Or.inl rfl, Or.inl rfl, trivial⟩ ?_
          exact gB_X10_worksOut_70 hrf x1 x2 x3 v6 x2 hX4 _ h
  exact key n rf _ _ _ hrf h0
def L_X10_worksOut (a1 : Int32) (mem : MMt) (Q : Int32 → MMt → Prop) : Prop := B_X10_worksOut_4 a1 (0 : Int32) (0 : Int32) mem Q
set_option maxRecDepth 4000 in
theorem g_X10_worksOut {sx : Nat × (Nat → Int32)} {rf : RFt} {Q : Int32 → MMt → Prop} (a1 : Int32) (hrf : RFok rf) (mem : MMt) (h : L_X10_worksOut a1 mem Q) : Ct sx yX10_worksOut cX10_worksOut 6 (some .int) 2 [.ref 76, .int a1] NX NX rf mem (QQi (RFok) Q) := by
  refine Ct_of [some (.ref 76), some (.int a1), none, none, none, none] (by decide +kernel) (by simp [Lof, Value.category]) rfl ?_
  unfold L_X10_worksOut at h
  refine G_iconst pX10_worksOut_0 ic_0 ?_
  refine G_istore_n (i := 2) (L' := [some (.ref 76), some (.int a1), some (.int (0 : Int32)), none, none, none]) pX10_worksOut_1 rfl rfl ?_
  refine G_iconst pX10_worksOut_2 ic_0 ?_
  refine G_istore_n (i := 3) (L' := [some (.ref 76), some (.int a1), some (.int (0 : Int32)), some (.int (0 : Int32)), none, none]) pX10_worksOut_3 rfl rfl ?_
  exact gB_X10_worksOut_4 hrf a1 (0 : Int32) (0 : Int32) _ h
def B_X10_gives_68 (x1 : Int32) (s0 : Int32) (mem : MMt) (Q : Int32 → MMt → Prop) : Prop := ((¬ x1 = 0 → L_X10_within s0 (-99 : Int32) (99 : Int32) mem (fun r3 m2 => Q r3 m2)) ∧ (x1 = 0 → L_X10_within s0 (-9 : Int32) (9 : Int32) mem (fun r5 m4 => Q r5 m4)))
set_option maxRecDepth 4000 in
theorem gB_X10_gives_68 {sx : Nat × (Nat → Int32)} {rf : RFt} {Q : Int32 → MMt → Prop} (hrf : RFok rf) (x1 : Int32) (s0 : Int32) (mem : MMt) (h : B_X10_gives_68 x1 s0 mem Q) : G sx yX10_gives cX10_gives 7 (some .int) 3 NX NX (QQi (RFok) Q) NX rf mem 68 [none, some (.int x1), none, none, none, none, none] [.int s0] := by
  unfold B_X10_gives_68 at h
  refine G_istore (i := 6) (L' := [none, some (.int x1), none, none, none, none, some (.int s0)]) pX10_gives_68 rfl ?_
  refine G_iload_n (i := 1) pX10_gives_70 rfl rfl ?_
  refine G_if_ne pX10_gives_71 (fun c1 => ?_) (fun c1 => ?_)
  · have h := h.1 c1
    refine G_iload (i := 6) pX10_gives_86 rfl ?_
    refine G_bipush pX10_gives_88 bi_m99 ?_
    refine G_bipush pX10_gives_90 bi_99 ?_
    refine G_callS3i pX10_gives_92 (g_X10_within s0 (-99 : Int32) (99 : Int32) hrf _ h) mS_X10_within ml_RX10_112 (by decide) ⟨Nat.le_refl _, Nat.le_refl _, Nat.le_refl _⟩ (Nat.le_of_ble_eq_true rfl) ?_
    intro r3 rf m2 hrf h hr3
    exact G_ireturn (len := 1) pX10_gives_95 ⟨hrf, _, rfl, h⟩ ⟨_, rfl, rfl⟩
  · have h := h.2 c1
    refine G_iload (i := 6) pX10_gives_74 rfl ?_
    refine G_bipush pX10_gives_76 bi_m9 ?_
    refine G_bipush pX10_gives_78 bi_9 ?_
    refine G_callS3i pX10_gives_80 (g_X10_within s0 (-9 : Int32) (9 : Int32) hrf _ h) mS_X10_within ml_RX10_112 (by decide) ⟨Nat.le_refl _, Nat.le_refl _, Nat.le_refl _⟩ (Nat.le_of_ble_eq_true rfl) ?_
    intro r5 rf m4 hrf h hr5
    refine G_goto pX10_gives_83 ?_
    exact G_ireturn (len := 1) pX10_gives_95 ⟨hrf, _, rfl, h⟩ ⟨_, rfl, rfl⟩
def L_X10_gives (a1 : Int32) (a2 : Int32) (a3 : Int32) (a4 : Int32) (mem : MMt) (Q : Int32 → MMt → Prop) : Prop := (∀ m1 : MMt, m1 = up2 mem 82 0 a2 → (∀ m2 : MMt, m2 = up2 m1 82 1 a3 → (∀ m3 : MMt, m3 = up2 m2 82 2 a4 → (∀ v4 : Int32, v4 = (120 : Int32) + ((101 : Int32) * a1) → (vp_in v4 322 ∧ (((m3 77 v4.toNatClampNeg) < 0 → ((¬ a1 = 0 → B_X10_gives_68 a1 (a3 * (a2 + (1 : Int32))) m3 Q) ∧ (a1 = 0 → B_X10_gives_68 a1 ((a2 - (20 : Int32)) / (5 : Int32)) m3 Q))) ∧ (¬ (m3 77 v4.toNatClampNeg) < 0 → L_X10_worksOut v4 m3 (fun r9 m8 => B_X10_gives_68 a1 r9 m8 Q))))))))
set_option maxRecDepth 4000 in
theorem g_X10_gives {sx : Nat × (Nat → Int32)} {rf : RFt} {Q : Int32 → MMt → Prop} (a1 : Int32) (a2 : Int32) (a3 : Int32) (a4 : Int32) (hrf : RFok rf) (mem : MMt) (h : L_X10_gives a1 a2 a3 a4 mem Q) : Ct sx yX10_gives cX10_gives 7 (some .int) 3 [.ref 76, .int a1, .int a2, .int a3, .int a4] NX NX rf mem (QQi (RFok) Q) := by
  refine Ct_of [some (.ref 76), some (.int a1), some (.int a2), some (.int a3), some (.int a4), none, none] (by decide +kernel) (by simp [Lof, Value.category]) rfl ?_
  unfold L_X10_gives at h
  refine G_aload_n (i := 0) pX10_gives_0 rfl rfl ?_
  refine G_getR (ci := 10) (j := 11) (N := 29) pX10_gives_1 fl_RX10_25 rfl ltk_76 shk_76 (by decide) rfl (hrf.lit 76 11 rfl) ?_
  refine G_iconst pX10_gives_4 ic_0 ?_
  refine G_iload_n (i := 2) pX10_gives_5 rfl rfl ?_
  obtain ⟨m1, em1⟩ : ∃ z : MMt, z = up2 mem 82 0 a2 := ⟨_, rfl⟩
  have h := h m1 em1
  refine G_iastL (j := 0) pX10_gives_6 ltk_82 shk_82 (vpl (by decide)) (by decide) em1.symm ?_
  refine G_aload_n (i := 0) pX10_gives_7 rfl rfl ?_
  refine G_getR (ci := 10) (j := 11) (N := 29) pX10_gives_8 fl_RX10_25 rfl ltk_76 shk_76 (by decide) rfl (hrf.lit 76 11 rfl) ?_
  refine G_iconst pX10_gives_11 ic_1 ?_
  refine G_iload_n (i := 3) pX10_gives_12 rfl rfl ?_
  obtain ⟨m2, em2⟩ : ∃ z : MMt, z = up2 m1 82 1 a3 := ⟨_, rfl⟩
  have h := h m2 em2
  refine G_iastL (j := 1) pX10_gives_13 ltk_82 shk_82 (vpl (by decide)) (by decide) em2.symm ?_
  refine G_aload_n (i := 0) pX10_gives_14 rfl rfl ?_
  refine G_getR (ci := 10) (j := 11) (N := 29) pX10_gives_15 fl_RX10_25 rfl ltk_76 shk_76 (by decide) rfl (hrf.lit 76 11 rfl) ?_
  refine G_iconst pX10_gives_18 ic_2 ?_
  refine G_iload (i := 4) pX10_gives_19 rfl ?_
  obtain ⟨m3, em3⟩ : ∃ z : MMt, z = up2 m2 82 2 a4 := ⟨_, rfl⟩
  have h := h m3 em3
  refine G_iastL (j := 2) pX10_gives_21 ltk_82 shk_82 (vpl (by decide)) (by decide) em3.symm ?_
  refine G_bipush pX10_gives_22 bi_120 ?_
  refine G_bipush pX10_gives_24 bi_101 ?_
  refine G_iload_n (i := 1) pX10_gives_26 rfl rfl ?_
  refine G_imul pX10_gives_27 ?_
  refine G_iadd pX10_gives_28 ?_
  obtain ⟨v4, e4⟩ : ∃ z : Int32, z = (120 : Int32) + ((101 : Int32) * a1) := ⟨_, rfl⟩
  have h := h v4 e4
  refine G_istoreW (L' := [some (.ref 76), some (.int a1), some (.int a2), some (.int a3), some (.int a4), some (.int v4), none]) pX10_gives_29 e4.symm rfl ?_
  refine G_aload_n (i := 0) pX10_gives_31 rfl rfl ?_
  refine G_getR (ci := 10) (j := 0) (N := 29) pX10_gives_32 fl_RX10_9 rfl ltk_76 shk_76 (by decide) rfl (hrf.lit 76 0 rfl) ?_
  refine G_iload (i := 5) pX10_gives_35 rfl ?_
  obtain ⟨hi5, h⟩ := h
  refine G_iald pX10_gives_37 ltk_77 shk_77 hi5 ?_
  refine G_if_lt pX10_gives_38 (fun c6 => ?_) (fun c6 => ?_)
  · have h := h.1 c6
    refine G_iload_n (i := 1) pX10_gives_50 rfl rfl ?_
    refine G_if_ne pX10_gives_51 (fun c7 => ?_) (fun c7 => ?_)
    · have h := h.1 c7
      refine G_iload_n (i := 3) pX10_gives_63 rfl rfl ?_
      refine G_iload_n (i := 2) pX10_gives_64 rfl rfl ?_
      refine G_iconst pX10_gives_65 ic_1 ?_
      refine G_iadd pX10_gives_66 ?_
      refine G_imul pX10_gives_67 ?_
      refine G_wk (L2 := [none, some (.int a1), none, none, none, none, none]) ⟨Or.inl rfl, Or.inr rfl, Or.inl rfl, Or.inl rfl, Or.inl rfl, Or.inl rfl, Or.inr rfl, trivial⟩ ?_
      exact gB_X10_gives_68 hrf a1 (a3 * (a2 + (1 : Int32))) _ h
    · have h := h.2 c7
      refine G_iload_n (i := 2) pX10_gives_54 rfl rfl ?_
      refine G_bipush pX10_gives_55 bi_20 ?_
      refine G_isub pX10_gives_57 ?_
      refine G_iconst pX10_gives_58 ic_5 ?_
      refine G_idiv pX10_gives_59 (by decide) ?_
      refine G_goto pX10_gives_60 ?_
      refine G_wk (L2 := [none, some (.int a1), none, none, none, none, none]) ⟨Or.inl rfl, Or.inr rfl, Or.inl rfl, Or.inl rfl, Or.inl rfl, Or.inl rfl, Or.inr rfl, trivial⟩ ?_
      exact gB_X10_gives_68 hrf a1 ((a2 - (20 : Int32)) / (5 : Int32)) _ h
  · have h := h.2 c6
    refine G_aload_n (i := 0) pX10_gives_41 rfl rfl ?_
    refine G_iload (i := 5) pX10_gives_42 rfl ?_
    refine G_callV1i (b := 76) (ci := 10) (N := 29) pX10_gives_44 (g_X10_worksOut v4 hrf _ h) mV_X10_worksOut ml_RX10_192 (by decide) ⟨Nat.le_refl _, Nat.le_refl _, Nat.le_refl _⟩ (Nat.le_of_ble_eq_true rfl) ltk_76 shk_76 rfl ?_
    intro r9 rf m8 hrf h hr9
    refine G_goto pX10_gives_47 ?_
    refine G_wk (L2 := [none, some (.int a1), none, none, none, none, none]) ⟨Or.inl rfl, Or.inr rfl, Or.inl rfl, Or.inl rfl, Or.inl rfl, Or.inl rfl, Or.inr rfl, trivial⟩ ?_
    exact gB_X10_gives_68 hrf a1 r9 _ h
def L_X10_pulledNow (a1 : Int32) (mem : MMt) (Q : Int32 → MMt → Prop) : Prop := L_X10_of a1 (0 : Int32) mem (fun r2 m1 => L_X10_of a1 (2 : Int32) m1 (fun r4 m3 => L_X10_of a1 (1 : Int32) m3 (fun r6 m5 => L_X10_gives (0 : Int32) r4 r6 (0 : Int32) m5 (fun r8 m7 => L_X10_pulled r2 r8 m7 (fun r10 m9 => Q r10 m9)))))
set_option maxRecDepth 4000 in
theorem g_X10_pulledNow {sx : Nat × (Nat → Int32)} {rf : RFt} {Q : Int32 → MMt → Prop} (a1 : Int32) (hrf : RFok rf) (mem : MMt) (h : L_X10_pulledNow a1 mem Q) : Ct sx yX10_pulledNow cX10_pulledNow 2 (some .int) 4 [.ref 76, .int a1] NX NX rf mem (QQi (RFok) Q) := by
  refine Ct_of [some (.ref 76), some (.int a1)] (by decide +kernel) (by simp [Lof, Value.category]) rfl ?_
  unfold L_X10_pulledNow at h
  refine G_aload_n (i := 0) pX10_pulledNow_0 rfl rfl ?_
  refine G_iload_n (i := 1) pX10_pulledNow_1 rfl rfl ?_
  refine G_iconst pX10_pulledNow_2 ic_0 ?_
  refine G_callV2i (b := 76) (ci := 10) (N := 29) pX10_pulledNow_3 (g_X10_of a1 (0 : Int32) hrf _ h) mV_X10_of ml_RX10_61 (by decide) ⟨Nat.le_refl _, Nat.le_refl _, Nat.le_refl _⟩ (Nat.le_of_ble_eq_true rfl) ltk_76 shk_76 rfl ?_
  intro r2 rf m1 hrf h hr2
  refine G_aload_n (i := 0) pX10_pulledNow_6 rfl rfl ?_
  refine G_iconst pX10_pulledNow_7 ic_0 ?_
  refine G_aload_n (i := 0) pX10_pulledNow_8 rfl rfl ?_
  refine G_iload_n (i := 1) pX10_pulledNow_9 rfl rfl ?_
  refine G_iconst pX10_pulledNow_10 ic_2 ?_
  refine G_callV2i (b := 76) (ci := 10) (N := 29) pX10_pulledNow_11 (g_X10_of a1 (2 : Int32) hrf _ h) mV_X10_of ml_RX10_61 (by decide) ⟨Nat.le_refl _, Nat.le_refl _, Nat.le_refl _⟩ (Nat.le_of_ble_eq_true rfl) ltk_76 shk_76 rfl ?_
  intro r4 rf m3 hrf h hr4
  refine G_aload_n (i := 0) pX10_pulledNow_14 rfl rfl ?_
  refine G_iload_n (i := 1) pX10_pulledNow_15 rfl rfl ?_
  refine G_iconst pX10_pulledNow_16 ic_1 ?_
  refine G_callV2i (b := 76) (ci := 10) (N := 29) pX10_pulledNow_17 (g_X10_of a1 (1 : Int32) hrf _ h) mV_X10_of ml_RX10_61 (by decide) ⟨Nat.le_refl _, Nat.le_refl _, Nat.le_refl _⟩ (Nat.le_of_ble_eq_true rfl) ltk_76 shk_76 rfl ?_
  intro r6 rf m5 hrf h hr6
  refine G_iconst pX10_pulledNow_20 ic_0 ?_
  refine G_callV4i (b := 76) (ci := 10) (N := 29) pX10_pulledNow_21 (g_X10_gives (0 : Int32) r4 r6 (0 : Int32) hrf _ h) mV_X10_gives ml_RX10_68 (by decide) ⟨Nat.le_refl _, Nat.le_refl _, Nat.le_refl _⟩ (Nat.le_of_ble_eq_true rfl) ltk_76 shk_76 rfl ?_
  intro r8 rf m7 hrf h hr8
  refine G_callS2i pX10_pulledNow_24 (g_X10_pulled r2 r8 hrf _ h) mS_X10_pulled ml_RX10_72 (by decide) ⟨Nat.le_refl _, Nat.le_refl _, Nat.le_refl _⟩ (Nat.le_of_ble_eq_true rfl) ?_
  intro r10 rf m9 hrf h hr10
  exact G_ireturn (len := 1) pX10_pulledNow_27 ⟨hrf, _, rfl, h⟩ ⟨_, rfl, rfl⟩
def L_X10_good (a1 : Int32) (a2 : Int32) (mem : MMt) (Q : Int32 → MMt → Prop) : Prop := L_X10_isIn a1.toInt64 (0 : Int64) (69 : Int64) mem (fun r2 m1 => ((r2 = 0 → L_X10_error (1 : Int32) m1 (fun r5 m4 => Q r5 m4)) ∧ (¬ r2 = 0 → L_X10_isIn a2.toInt64 (0 : Int64) (40 : Int64) m1 (fun r7 m6 => ((¬ r7 = 0 → ((¬ (m6 77 6) = (8 : Int32) → (∀ v10 : Int32, v10 = m6 77 6 → (∀ m11 : MMt, m11 = up2 m6 77 6 ((m6 77 6) + (1 : Int32)) → L_X10_sets v10 (0 : Int32) (a1 / (10 : Int32)) m11 (fun m12 => L_X10_sets v10 (1 : Int32) (a1 - a1 / (10 : Int32) * (10 : Int32)) m12 (fun m13 => L_X10_sets v10 (2 : Int32) a2 m13 (fun m14 => L_X10_sets v10 (3 : Int32) (0 : Int32) m14 (fun m15 => L_X10_sets v10 (4 : Int32) a2 m15 (fun m16 => Q v10 m16)))))))) ∧ ((m6 77 6) = (8 : Int32) → L_X10_error (4 : Int32) m6 (fun r18 m17 => Q r18 m17)))) ∧ (r7 = 0 → L_X10_error (1 : Int32) m6 (fun r20 m19 => Q r20 m19)))))))
set_option maxRecDepth 4000 in
theorem g_X10_good {sx : Nat × (Nat → Int32)} {rf : RFt} {Q : Int32 → MMt → Prop} (a1 : Int32) (a2 : Int32) (hrf : RFok rf) (mem : MMt) (h : L_X10_good a1 a2 mem Q) : Ct sx yX10_good cX10_good 4 (some .int) 2 [.ref 76, .int a1, .int a2] NX NX rf mem (QQi (RFok) Q) := by
  refine Ct_of [some (.ref 76), some (.int a1), some (.int a2), none] (by decide +kernel) (by simp [Lof, Value.category]) rfl ?_
  unfold L_X10_good at h
  refine G_iload_n (i := 1) pX10_good_0 rfl rfl ?_
  refine G_i2l pX10_good_1 ?_
  refine G_lconst pX10_good_2 lc_0 ?_
  refine G_ldc2 pX10_good_3 rfl wcl_RX10_75 ?_
  refine G_callS3i pX10_good_6 (g_X10_isIn a1.toInt64 (0 : Int64) (69 : Int64) hrf _ h) mS_X10_isIn ml_RX10_53 (by decide) ⟨Nat.le_refl _, Nat.le_refl _, Nat.le_refl _⟩ (Nat.le_of_ble_eq_true rfl) ?_
  intro r2 rf m1 hrf h hr2
  refine G_if_eq pX10_good_9 (fun c3 => ?_) (fun c3 => ?_)
  · have h := h.1 c3
    refine G_aload_n (i := 0) pX10_good_24 rfl rfl ?_
    refine G_iconst pX10_good_25 ic_1 ?_
    refine G_callV1i (b := 76) (ci := 10) (N := 29) pX10_good_26 (g_X10_error (1 : Int32) hrf _ h) mV_X10_error ml_RX10_79 (by decide) ⟨Nat.le_refl _, Nat.le_refl _, Nat.le_refl _⟩ (Nat.le_of_ble_eq_true rfl) ltk_76 shk_76 rfl ?_
    intro r5 rf m4 hrf h hr5
    exact G_ireturn (len := 1) pX10_good_29 ⟨hrf, _, rfl, h⟩ ⟨_, rfl, rfl⟩
  · have h := h.2 c3
    refine G_iload_n (i := 2) pX10_good_12 rfl rfl ?_
    refine G_i2l pX10_good_13 ?_
    refine G_lconst pX10_good_14 lc_0 ?_
    refine G_ldc2 pX10_good_15 rfl wcl_RX10_77 ?_
    refine G_callS3i pX10_good_18 (g_X10_isIn a2.toInt64 (0 : Int64) (40 : Int64) hrf _ h) mS_X10_isIn ml_RX10_53 (by decide) ⟨Nat.le_refl _, Nat.le_refl _, Nat.le_refl _⟩ (Nat.le_of_ble_eq_true rfl) ?_
    intro r7 rf m6 hrf h hr7
    refine G_if_ne pX10_good_21 (fun c8 => ?_) (fun c8 => ?_)
    · have h := h.1 c8
      refine G_aload_n (i := 0) pX10_good_30 rfl rfl ?_
      refine G_getR (ci := 10) (j := 0) (N := 29) pX10_good_31 fl_RX10_9 rfl ltk_76 shk_76 (by decide) rfl (hrf.lit 76 0 rfl) ?_
      refine G_bipush pX10_good_34 bi_6 ?_
      refine G_ialdL (j := 6) pX10_good_36 ltk_77 shk_77 (vpl (by decide)) (by decide) ?_
      refine G_bipush pX10_good_37 bi_8 ?_
      refine G_icmp_ne pX10_good_39 (fun c9 => ?_) (fun c9 => ?_)
      · have h := h.1 c9
        refine G_aload_n (i := 0) pX10_good_48 rfl rfl ?_
        refine G_getR (ci := 10) (j := 0) (N := 29) pX10_good_49 fl_RX10_9 rfl ltk_76 shk_76 (by decide) rfl (hrf.lit 76 0 rfl) ?_
        refine G_bipush pX10_good_52 bi_6 ?_
        refine G_ialdL (j := 6) pX10_good_54 ltk_77 shk_77 (vpl (by decide)) (by decide) ?_
        obtain ⟨v10, e10⟩ : ∃ z : Int32, z = m6 77 6 := ⟨_, rfl⟩
        have h := h v10 e10
        refine G_istore_nW (L' := [some (.ref 76), some (.int a1), some (.int a2), some (.int v10)]) pX10_good_55 rfl e10.symm rfl ?_
        refine G_aload_n (i := 0) pX10_good_56 rfl rfl ?_
        refine G_getR (ci := 10) (j := 0) (N := 29) pX10_good_57 fl_RX10_9 rfl ltk_76 shk_76 (by decide) rfl (hrf.lit 76 0 rfl) ?_
        refine G_bipush pX10_good_60 bi_6 ?_
        refine G_dup2 pX10_good_62 rfl rfl ?_
        refine G_ialdL (j := 6) pX10_good_63 ltk_77 shk_77 (vpl (by decide)) (by decide) ?_
        refine G_iconst pX10_good_64 ic_1 ?_
        refine G_iadd pX10_good_65 ?_
        obtain ⟨m11, em11⟩ : ∃ z : MMt, z = up2 m6 77 6 ((m6 77 6) + (1 : Int32)) := ⟨_, rfl⟩
        have h := h m11 em11
        refine G_iastL (j := 6) pX10_good_66 ltk_77 shk_77 (vpl (by decide)) (by decide) em11.symm ?_
        refine G_aload_n (i := 0) pX10_good_67 rfl rfl ?_
        refine G_iload_n (i := 3) pX10_good_68 rfl rfl ?_
        refine G_iconst pX10_good_69 ic_0 ?_
        refine G_iload_n (i := 1) pX10_good_70 rfl rfl ?_
        refine G_bipush pX10_good_71 bi_10 ?_
        refine G_idiv pX10_good_73 (by decide) ?_
        refine G_callV3v (b := 76) (ci := 10) (N := 29) pX10_good_74 (g_X10_sets v10 (0 : Int32) (a1 / (10 : Int32)) hrf _ h) mV_X10_sets ml_RX10_83 (by decide) ⟨Nat.le_refl _, Nat.le_refl _, Nat.le_refl _⟩ (Nat.le_of_ble_eq_true rfl) ltk_76 shk_76 rfl ?_
        intro rf m12 hrf h
        refine G_aload_n (i := 0) pX10_good_77 rfl rfl ?_
        refine G_iload_n (i := 3) pX10_good_78 rfl rfl ?_
        refine G_iconst pX10_good_79 ic_1 ?_
        refine G_iload_n (i := 1) pX10_good_80 rfl rfl ?_
        refine G_bipush pX10_good_81 bi_10 ?_
        refine G_irem pX10_good_83 (by decide) ?_
        refine G_callV3v (b := 76) (ci := 10) (N := 29) pX10_good_84 (g_X10_sets v10 (1 : Int32) (a1 - a1 / (10 : Int32) * (10 : Int32)) hrf _ h) mV_X10_sets ml_RX10_83 (by decide) ⟨Nat.le_refl _, Nat.le_refl _, Nat.le_refl _⟩ (Nat.le_of_ble_eq_true rfl) ltk_76 shk_76 rfl ?_
        intro rf m13 hrf h
        refine G_aload_n (i := 0) pX10_good_87 rfl rfl ?_
        refine G_iload_n (i := 3) pX10_good_88 rfl rfl ?_
        refine G_iconst pX10_good_89 ic_2 ?_
        refine G_iload_n (i := 2) pX10_good_90 rfl rfl ?_
        refine G_callV3v (b := 76) (ci := 10) (N := 29) pX10_good_91 (g_X10_sets v10 (2 : Int32) a2 hrf _ h) mV_X10_sets ml_RX10_83 (by decide) ⟨Nat.le_refl _, Nat.le_refl _, Nat.le_refl _⟩ (Nat.le_of_ble_eq_true rfl) ltk_76 shk_76 rfl ?_
        intro rf m14 hrf h
        refine G_aload_n (i := 0) pX10_good_94 rfl rfl ?_
        refine G_iload_n (i := 3) pX10_good_95 rfl rfl ?_
        refine G_iconst pX10_good_96 ic_3 ?_
        refine G_iconst pX10_good_97 ic_0 ?_
        refine G_callV3v (b := 76) (ci := 10) (N := 29) pX10_good_98 (g_X10_sets v10 (3 : Int32) (0 : Int32) hrf _ h) mV_X10_sets ml_RX10_83 (by decide) ⟨Nat.le_refl _, Nat.le_refl _, Nat.le_refl _⟩ (Nat.le_of_ble_eq_true rfl) ltk_76 shk_76 rfl ?_
        intro rf m15 hrf h
        refine G_aload_n (i := 0) pX10_good_101 rfl rfl ?_
        refine G_iload_n (i := 3) pX10_good_102 rfl rfl ?_
        refine G_iconst pX10_good_103 ic_4 ?_
        refine G_iload_n (i := 2) pX10_good_104 rfl rfl ?_
        refine G_callV3v (b := 76) (ci := 10) (N := 29) pX10_good_105 (g_X10_sets v10 (4 : Int32) a2 hrf _ h) mV_X10_sets ml_RX10_83 (by decide) ⟨Nat.le_refl _, Nat.le_refl _, Nat.le_refl _⟩ (Nat.le_of_ble_eq_true rfl) ltk_76 shk_76 rfl ?_
        intro rf m16 hrf h
        refine G_iload_n (i := 3) pX10_good_108 rfl rfl ?_
        exact G_ireturn (len := 1) pX10_good_109 ⟨hrf, _, rfl, h⟩ ⟨_, rfl, rfl⟩
      · have h := h.2 c9
        refine G_aload_n (i := 0) pX10_good_42 rfl rfl ?_
        refine G_iconst pX10_good_43 ic_4 ?_
        refine G_callV1i (b := 76) (ci := 10) (N := 29) pX10_good_44 (g_X10_error (4 : Int32) hrf _ h) mV_X10_error ml_RX10_79 (by decide) ⟨Nat.le_refl _, Nat.le_refl _, Nat.le_refl _⟩ (Nat.le_of_ble_eq_true rfl) ltk_76 shk_76 rfl ?_
        intro r18 rf m17 hrf h hr18
        exact G_ireturn (len := 1) pX10_good_47 ⟨hrf, _, rfl, h⟩ ⟨_, rfl, rfl⟩
    · have h := h.2 c8
      refine G_aload_n (i := 0) pX10_good_24 rfl rfl ?_
      refine G_iconst pX10_good_25 ic_1 ?_
      refine G_callV1i (b := 76) (ci := 10) (N := 29) pX10_good_26 (g_X10_error (1 : Int32) hrf _ h) mV_X10_error ml_RX10_79 (by decide) ⟨Nat.le_refl _, Nat.le_refl _, Nat.le_refl _⟩ (Nat.le_of_ble_eq_true rfl) ltk_76 shk_76 rfl ?_
      intro r20 rf m19 hrf h hr20
      exact G_ireturn (len := 1) pX10_good_29 ⟨hrf, _, rfl, h⟩ ⟨_, rfl, rfl⟩
def B_X10_looksAhead_79 (x1 : Int32) (x2 : Int32) (x3 : Int32) (s0 : Int32) (mem : MMt) (Q : MMt → Prop) : Prop := L_X10_within s0 (-9 : Int32) (9 : Int32) mem (fun r2 m1 => L_X10_of x1 (2 : Int32) m1 (fun r4 m3 => (∀ v5 : Int32, v5 = r4 + r2 → L_X10_reach x2 x3 m3 (fun r7 m6 => L_X10_within v5 (0 : Int32) (40 : Int32) m6 (fun r9 m8 => L_X10_of x1 (4 : Int32) m8 (fun r11 m10 => L_X10_of x1 (4 : Int32) m10 (fun r13 m12 => L_X10_within r9 (r11 - r7) (r13 + r7) m12 (fun r15 m14 => (∀ m16 : MMt, m16 = up2 m14 76 12 r15 → ((¬ r15 = v5 → (∀ m18 : MMt, m18 = up2 m16 76 13 (0 : Int32) → Q m18)) ∧ (r15 = v5 → (∀ m19 : MMt, m19 = up2 m16 76 13 r2 → Q m19))))))))))))
set_option maxRecDepth 4000 in
theorem gB_X10_looksAhead_79 {sx : Nat × (Nat → Int32)} {rf : RFt} {Q : MMt → Prop} (hrf : RFok rf) (x1 : Int32) (x2 : Int32) (x3 : Int32) (s0 : Int32) (mem : MMt) (h : B_X10_looksAhead_79 x1 x2 x3 s0 mem Q) : G sx yX10_looksAhead cX10_looksAhead 9 none 5 NX NX (QQv (RFok) Q) NX rf mem 79 [some (.ref 76), some (.int x1), some (.int x2), some (.int x3), none, none, none, none, none] [.int s0] := by
  unfold B_X10_looksAhead_79 at h
  refine G_istore (i := 4) (L' := [some (.ref 76), some (.int x1), some (.int x2), some (.int x3), some (.int s0), none, none, none, none]) pX10_looksAhead_79 rfl ?_
  refine G_iload (i := 4) pX10_looksAhead_81 rfl ?_
  refine G_bipush pX10_looksAhead_83 bi_m9 ?_
  refine G_bipush pX10_looksAhead_85 bi_9 ?_
  refine G_callS3i pX10_looksAhead_87 (g_X10_within s0 (-9 : Int32) (9 : Int32) hrf _ h) mS_X10_within ml_RX10_112 (by decide) ⟨Nat.le_refl _, Nat.le_refl _, Nat.le_refl _⟩ (Nat.le_of_ble_eq_true rfl) ?_
  intro r2 rf m1 hrf h hr2
  refine G_istore (i := 4) (L' := [some (.ref 76), some (.int x1), some (.int x2), some (.int x3), some (.int r2), none, none, none, none]) pX10_looksAhead_90 rfl ?_
  refine G_aload_n (i := 0) pX10_looksAhead_92 rfl rfl ?_
  refine G_iload_n (i := 1) pX10_looksAhead_93 rfl rfl ?_
  refine G_iconst pX10_looksAhead_94 ic_2 ?_
  refine G_callV2i (b := 76) (ci := 10) (N := 29) pX10_looksAhead_95 (g_X10_of x1 (2 : Int32) hrf _ h) mV_X10_of ml_RX10_61 (by decide) ⟨Nat.le_refl _, Nat.le_refl _, Nat.le_refl _⟩ (Nat.le_of_ble_eq_true rfl) ltk_76 shk_76 rfl ?_
  intro r4 rf m3 hrf h hr4
  refine G_iload (i := 4) pX10_looksAhead_98 rfl ?_
  refine G_iadd pX10_looksAhead_100 ?_
  obtain ⟨v5, e5⟩ : ∃ z : Int32, z = r4 + r2 := ⟨_, rfl⟩
  have h := h v5 e5
  refine G_istoreW (L' := [some (.ref 76), some (.int x1), some (.int x2), some (.int x3), some (.int r2), none, some (.int v5), none, none]) pX10_looksAhead_101 e5.symm rfl ?_
  refine G_iload_n (i := 2) pX10_looksAhead_103 rfl rfl ?_
  refine G_iload_n (i := 3) pX10_looksAhead_104 rfl rfl ?_
  refine G_callS2i pX10_looksAhead_105 (g_X10_reach x2 x3 hrf _ h) mS_X10_reach ml_RX10_100 (by decide) ⟨Nat.le_refl _, Nat.le_refl _, Nat.le_refl _⟩ (Nat.le_of_ble_eq_true rfl) ?_
  intro r7 rf m6 hrf h hr7
  refine G_istore (i := 7) (L' := [some (.ref 76), some (.int x1), some (.int x2), some (.int x3), some (.int r2), none, some (.int v5), some (.int r7), none]) pX10_looksAhead_108 rfl ?_
  refine G_iload (i := 6) pX10_looksAhead_110 rfl ?_
  refine G_iconst pX10_looksAhead_112 ic_0 ?_
  refine G_bipush pX10_looksAhead_113 bi_40 ?_
  refine G_callS3i pX10_looksAhead_115 (g_X10_within v5 (0 : Int32) (40 : Int32) hrf _ h) mS_X10_within ml_RX10_112 (by decide) ⟨Nat.le_refl _, Nat.le_refl _, Nat.le_refl _⟩ (Nat.le_of_ble_eq_true rfl) ?_
  intro r9 rf m8 hrf h hr9
  refine G_aload_n (i := 0) pX10_looksAhead_118 rfl rfl ?_
  refine G_iload_n (i := 1) pX10_looksAhead_119 rfl rfl ?_
  refine G_iconst pX10_looksAhead_120 ic_4 ?_
  refine G_callV2i (b := 76) (ci := 10) (N := 29) pX10_looksAhead_121 (g_X10_of x1 (4 : Int32) hrf _ h) mV_X10_of ml_RX10_61 (by decide) ⟨Nat.le_refl _, Nat.le_refl _, Nat.le_refl _⟩ (Nat.le_of_ble_eq_true rfl) ltk_76 shk_76 rfl ?_
  intro r11 rf m10 hrf h hr11
  refine G_iload (i := 7) pX10_looksAhead_124 rfl ?_
  refine G_isub pX10_looksAhead_126 ?_
  refine G_aload_n (i := 0) pX10_looksAhead_127 rfl rfl ?_
  refine G_iload_n (i := 1) pX10_looksAhead_128 rfl rfl ?_
  refine G_iconst pX10_looksAhead_129 ic_4 ?_
  refine G_callV2i (b := 76) (ci := 10) (N := 29) pX10_looksAhead_130 (g_X10_of x1 (4 : Int32) hrf _ h) mV_X10_of ml_RX10_61 (by decide) ⟨Nat.le_refl _, Nat.le_refl _, Nat.le_refl _⟩ (Nat.le_of_ble_eq_true rfl) ltk_76 shk_76 rfl ?_
  intro r13 rf m12 hrf h hr13
  refine G_iload (i := 7) pX10_looksAhead_133 rfl ?_
  refine G_iadd pX10_looksAhead_135 ?_
  refine G_callS3i pX10_looksAhead_136 (g_X10_within r9 (r11 - r7) (r13 + r7) hrf _ h) mS_X10_within ml_RX10_112 (by decide) ⟨Nat.le_refl _, Nat.le_refl _, Nat.le_refl _⟩ (Nat.le_of_ble_eq_true rfl) ?_
  intro r15 rf m14 hrf h hr15
  refine G_istore (i := 8) (L' := [some (.ref 76), some (.int x1), some (.int x2), some (.int x3), some (.int r2), none, some (.int v5), some (.int r7), some (.int r15)]) pX10_looksAhead_139 rfl ?_
  refine G_aload_n (i := 0) pX10_looksAhead_141 rfl rfl ?_
  refine G_iload (i := 8) pX10_looksAhead_142 rfl ?_
  obtain ⟨m16, em16⟩ : ∃ z : MMt, z = up2 m14 76 12 r15 := ⟨_, rfl⟩
  have h := h m16 em16
  refine G_putIW (ci := 10) (j := 12) (N := 29) pX10_looksAhead_144 fw_RX10_195 rfl ltk_76 shk_76 (by decide) rfl (fun _ => ⟨rfl, rfl⟩) em16.symm ?_
  refine G_aload_n (i := 0) pX10_looksAhead_147 rfl rfl ?_
  refine G_iload (i := 8) pX10_looksAhead_148 rfl ?_
  refine G_iload (i := 6) pX10_looksAhead_150 rfl ?_
  refine G_icmp_ne pX10_looksAhead_152 (fun c17 => ?_) (fun c17 => ?_)
  · have h := h.1 c17
    refine G_iconst pX10_looksAhead_160 ic_0 ?_
    obtain ⟨m18, em18⟩ : ∃ z : MMt, z = up2 m16 76 13 (0 : Int32) := ⟨_, rfl⟩
    have h := h m18 em18
    refine G_putIW (ci := 10) (j := 13) (N := 29) pX10_looksAhead_161 fw_RX10_198 rfl ltk_76 shk_76 (by decide) rfl (fun _ => ⟨rfl, rfl⟩) em18.symm ?_
    exact G_return (len := 1) pX10_looksAhead_164 ⟨hrf, rfl, h⟩ rfl
  · have h := h.2 c17
    refine G_iload (i := 4) pX10_looksAhead_155 rfl ?_
    refine G_goto pX10_looksAhead_157 ?_
    obtain ⟨m19, em19⟩ : ∃ z : MMt, z = up2 m16 76 13 r2 := ⟨_, rfl⟩
    have h := h m19 em19
    refine G_putIW (ci := 10) (j := 13) (N := 29) pX10_looksAhead_161 fw_RX10_198 rfl ltk_76 shk_76 (by decide) rfl (fun _ => ⟨rfl, rfl⟩) em19.symm ?_
    exact G_return (len := 1) pX10_looksAhead_164 ⟨hrf, rfl, h⟩ rfl
def B_X10_looksAhead_78 (x1 : Int32) (x2 : Int32) (x3 : Int32) (s0 : Int32) (s1 : Int32) (mem : MMt) (Q : MMt → Prop) : Prop := B_X10_looksAhead_79 x1 x2 x3 (s1 + s0) mem Q
set_option maxRecDepth 4000 in
theorem gB_X10_looksAhead_78 {sx : Nat × (Nat → Int32)} {rf : RFt} {Q : MMt → Prop} (hrf : RFok rf) (x1 : Int32) (x2 : Int32) (x3 : Int32) (s0 : Int32) (s1 : Int32) (mem : MMt) (h : B_X10_looksAhead_78 x1 x2 x3 s0 s1 mem Q) : G sx yX10_looksAhead cX10_looksAhead 9 none 5 NX NX (QQv (RFok) Q) NX rf mem 78 [some (.ref 76), some (.int x1), some (.int x2), some (.int x3), none, none, none, none, none] [.int s0, .int s1] := by
  unfold B_X10_looksAhead_78 at h
  refine G_iadd pX10_looksAhead_78 ?_
  exact gB_X10_looksAhead_79 hrf x1 x2 x3 (s1 + s0) _ h
def B_X10_looksAhead_56 (x1 : Int32) (x2 : Int32) (x3 : Int32) (s0 : Int32) (s1 : Int32) (mem : MMt) (Q : MMt → Prop) : Prop := B_X10_looksAhead_79 x1 x2 x3 (s1 - s0) mem Q
set_option maxRecDepth 4000 in
theorem gB_X10_looksAhead_56 {sx : Nat × (Nat → Int32)} {rf : RFt} {Q : MMt → Prop} (hrf : RFok rf) (x1 : Int32) (x2 : Int32) (x3 : Int32) (s0 : Int32) (s1 : Int32) (mem : MMt) (h : B_X10_looksAhead_56 x1 x2 x3 s0 s1 mem Q) : G sx yX10_looksAhead cX10_looksAhead 9 none 5 NX NX (QQv (RFok) Q) NX rf mem 56 [some (.ref 76), some (.int x1), some (.int x2), some (.int x3), none, none, none, none, none] [.int s0, .int s1] := by
  unfold B_X10_looksAhead_56 at h
  refine G_isub pX10_looksAhead_56 ?_
  refine G_goto pX10_looksAhead_57 ?_
  exact gB_X10_looksAhead_79 hrf x1 x2 x3 (s1 - s0) _ h
def L_X10_looksAhead (a1 : Int32) (mem : MMt) (Q : MMt → Prop) : Prop := L_X10_of a1 (0 : Int32) mem (fun r2 m1 => L_X10_of a1 (1 : Int32) m1 (fun r4 m3 => L_X10_of a1 (3 : Int32) m3 (fun r6 m5 => L_X10_pulledNow a1 m5 (fun r8 m7 => (∀ v9 : Int32, v9 = r6 + r8 → L_X10_drag r2 r4 m7 (fun r11 m10 => ((v9 ≤ 0 → (((-v9) ≤ r11 → B_X10_looksAhead_78 a1 r2 r4 (-v9) v9 m10 Q) ∧ (¬ (-v9) ≤ r11 → B_X10_looksAhead_78 a1 r2 r4 r11 v9 m10 Q))) ∧ (¬ v9 ≤ 0 → ((v9 ≤ r11 → B_X10_looksAhead_56 a1 r2 r4 v9 v9 m10 Q) ∧ (¬ v9 ≤ r11 → B_X10_looksAhead_56 a1 r2 r4 r11 v9 m10 Q))))))))))
set_option maxRecDepth 4000 in
theorem g_X10_looksAhead {sx : Nat × (Nat → Int32)} {rf : RFt} {Q : MMt → Prop} (a1 : Int32) (hrf : RFok rf) (mem : MMt) (h : L_X10_looksAhead a1 mem Q) : Ct sx yX10_looksAhead cX10_looksAhead 9 none 5 [.ref 76, .int a1] NX NX rf mem (QQv (RFok) Q) := by
  refine Ct_of [some (.ref 76), some (.int a1), none, none, none, none, none, none, none] (by decide +kernel) (by simp [Lof, Value.category]) rfl ?_
  unfold L_X10_looksAhead at h
  refine G_aload_n (i := 0) pX10_looksAhead_0 rfl rfl ?_
  refine G_iload_n (i := 1) pX10_looksAhead_1 rfl rfl ?_
  refine G_iconst pX10_looksAhead_2 ic_0 ?_
  refine G_callV2i (b := 76) (ci := 10) (N := 29) pX10_looksAhead_3 (g_X10_of a1 (0 : Int32) hrf _ h) mV_X10_of ml_RX10_61 (by decide) ⟨Nat.le_refl _, Nat.le_refl _, Nat.le_refl _⟩ (Nat.le_of_ble_eq_true rfl) ltk_76 shk_76 rfl ?_
  intro r2 rf m1 hrf h hr2
  refine G_istore_n (i := 2) (L' := [some (.ref 76), some (.int a1), some (.int r2), none, none, none, none, none, none]) pX10_looksAhead_6 rfl rfl ?_
  refine G_aload_n (i := 0) pX10_looksAhead_7 rfl rfl ?_
  refine G_iload_n (i := 1) pX10_looksAhead_8 rfl rfl ?_
  refine G_iconst pX10_looksAhead_9 ic_1 ?_
  refine G_callV2i (b := 76) (ci := 10) (N := 29) pX10_looksAhead_10 (g_X10_of a1 (1 : Int32) hrf _ h) mV_X10_of ml_RX10_61 (by decide) ⟨Nat.le_refl _, Nat.le_refl _, Nat.le_refl _⟩ (Nat.le_of_ble_eq_true rfl) ltk_76 shk_76 rfl ?_
  intro r4 rf m3 hrf h hr4
  refine G_istore_n (i := 3) (L' := [some (.ref 76), some (.int a1), some (.int r2), some (.int r4), none, none, none, none, none]) pX10_looksAhead_13 rfl rfl ?_
  refine G_aload_n (i := 0) pX10_looksAhead_14 rfl rfl ?_
  refine G_iload_n (i := 1) pX10_looksAhead_15 rfl rfl ?_
  refine G_iconst pX10_looksAhead_16 ic_3 ?_
  refine G_callV2i (b := 76) (ci := 10) (N := 29) pX10_looksAhead_17 (g_X10_of a1 (3 : Int32) hrf _ h) mV_X10_of ml_RX10_61 (by decide) ⟨Nat.le_refl _, Nat.le_refl _, Nat.le_refl _⟩ (Nat.le_of_ble_eq_true rfl) ltk_76 shk_76 rfl ?_
  intro r6 rf m5 hrf h hr6
  refine G_aload_n (i := 0) pX10_looksAhead_20 rfl rfl ?_
  refine G_iload_n (i := 1) pX10_looksAhead_21 rfl rfl ?_
  refine G_callV1i (b := 76) (ci := 10) (N := 29) pX10_looksAhead_22 (g_X10_pulledNow a1 hrf _ h) mV_X10_pulledNow ml_RX10_94 (by decide) ⟨Nat.le_refl _, Nat.le_refl _, Nat.le_refl _⟩ (Nat.le_of_ble_eq_true rfl) ltk_76 shk_76 rfl ?_
  intro r8 rf m7 hrf h hr8
  refine G_iadd pX10_looksAhead_25 ?_
  obtain ⟨v9, e9⟩ : ∃ z : Int32, z = r6 + r8 := ⟨_, rfl⟩
  have h := h v9 e9
  refine G_istoreW (L' := [some (.ref 76), some (.int a1), some (.int r2), some (.int r4), some (.int v9), none, none, none, none]) pX10_looksAhead_26 e9.symm rfl ?_
  refine G_iload_n (i := 2) pX10_looksAhead_28 rfl rfl ?_
  refine G_iload_n (i := 3) pX10_looksAhead_29 rfl rfl ?_
  refine G_callS2i pX10_looksAhead_30 (g_X10_drag r2 r4 hrf _ h) mS_X10_drag ml_RX10_97 (by decide) ⟨Nat.le_refl _, Nat.le_refl _, Nat.le_refl _⟩ (Nat.le_of_ble_eq_true rfl) ?_
  intro r11 rf m10 hrf h hr11
  refine G_istore (i := 5) (L' := [some (.ref 76), some (.int a1), some (.int r2), some (.int r4), some (.int v9), some (.int r11), none, none, none]) pX10_looksAhead_33 rfl ?_
  refine G_iload (i := 4) pX10_looksAhead_35 rfl ?_
  refine G_if_le pX10_looksAhead_37 (fun c12 => ?_) (fun c12 => ?_)
  · have h := h.1 c12
    refine G_iload (i := 4) pX10_looksAhead_60 rfl ?_
    refine G_iload (i := 5) pX10_looksAhead_62 rfl ?_
    refine G_iload (i := 4) pX10_looksAhead_64 rfl ?_
    refine G_ineg pX10_looksAhead_66 ?_
    refine G_icmp_ge pX10_looksAhead_67 (fun c13 => ?_) (fun c13 => ?_)
    · have h := h.1 c13
      refine G_iload (i := 4) pX10_looksAhead_75 rfl ?_
      refine G_ineg pX10_looksAhead_77 ?_
      refine G_wk (L2 := [some (.ref 76), some (.int a1), some (.int r2), some (.int r4), none, none, none, none, none]) ⟨Or.inr rfl, Or.inr rfl, Or.inr rfl, Or.inr rfl, Or.inl rfl, Or.inl rfl, Or.inr rfl, Or.inr rfl, Or.inr rfl, trivial⟩ ?_
      exact gB_X10_looksAhead_78 hrf a1 r2 r4 (-v9) v9 _ h
    · have h := h.2 c13
      refine G_iload (i := 5) pX10_looksAhead_70 rfl ?_
      refine G_goto pX10_looksAhead_72 ?_
      refine G_wk (L2 := [some (.ref 76), some (.int a1), some (.int r2), some (.int r4), none, none, none, none, none]) ⟨Or.inr rfl, Or.inr rfl, Or.inr rfl, Or.inr rfl, Or.inl rfl, Or.inl rfl, Or.inr rfl, Or.inr rfl, Or.inr rfl, trivial⟩ ?_
      exact gB_X10_looksAhead_78 hrf a1 r2 r4 r11 v9 _ h
  · have h := h.2 c12
    refine G_iload (i := 4) pX10_looksAhead_40 rfl ?_
    refine G_iload (i := 5) pX10_looksAhead_42 rfl ?_
    refine G_iload (i := 4) pX10_looksAhead_44 rfl ?_
    refine G_icmp_ge pX10_looksAhead_46 (fun c14 => ?_) (fun c14 => ?_)
    · have h := h.1 c14
      refine G_iload (i := 4) pX10_looksAhead_54 rfl ?_
      refine G_wk (L2 := [some (.ref 76), some (.int a1), some (.int r2), some (.int r4), none, none, none, none, none]) ⟨Or.inr rfl, Or.inr rfl, Or.inr rfl, Or.inr rfl, Or.inl rfl, Or.inl rfl, Or.inr rfl, Or.inr rfl, Or.inr rfl, trivial⟩ ?_
      exact gB_X10_looksAhead_56 hrf a1 r2 r4 v9 v9 _ h
    · have h := h.2 c14
      refine G_iload (i := 5) pX10_looksAhead_49 rfl ?_
      refine G_goto pX10_looksAhead_51 ?_
      refine G_wk (L2 := [some (.ref 76), some (.int a1), some (.int r2), some (.int r4), none, none, none, none, none]) ⟨Or.inr rfl, Or.inr rfl, Or.inr rfl, Or.inr rfl, Or.inl rfl, Or.inl rfl, Or.inr rfl, Or.inr rfl, Or.inr rfl, trivial⟩ ?_
      exact gB_X10_looksAhead_56 hrf a1 r2 r4 r11 v9 _ h
def L_X10_isAtRest (a1 : Int32) (mem : MMt) (Q : Int32 → MMt → Prop) : Prop := L_X10_looksAhead a1 mem (fun m1 => L_X10_of a1 (2 : Int32) m1 (fun r3 m2 => ((¬ (m1 76 12) = r3 → Q (0 : Int32) m2) ∧ ((m1 76 12) = r3 → L_X10_of a1 (3 : Int32) m2 (fun r6 m5 => ((¬ (m2 76 13) = r6 → Q (0 : Int32) m5) ∧ ((m2 76 13) = r6 → Q (1 : Int32) m5)))))))
set_option maxRecDepth 4000 in
theorem g_X10_isAtRest {sx : Nat × (Nat → Int32)} {rf : RFt} {Q : Int32 → MMt → Prop} (a1 : Int32) (hrf : RFok rf) (mem : MMt) (h : L_X10_isAtRest a1 mem Q) : Ct sx yX10_isAtRest cX10_isAtRest 2 (some .boolean) 6 [.ref 76, .int a1] NX NX rf mem (QQi (RFok) Q) := by
  refine Ct_of [some (.ref 76), some (.int a1)] (by decide +kernel) (by simp [Lof, Value.category]) rfl ?_
  unfold L_X10_isAtRest at h
  refine G_aload_n (i := 0) pX10_isAtRest_0 rfl rfl ?_
  refine G_iload_n (i := 1) pX10_isAtRest_1 rfl rfl ?_
  refine G_callV1v (b := 76) (ci := 10) (N := 29) pX10_isAtRest_2 (g_X10_looksAhead a1 hrf _ h) mV_X10_looksAhead ml_RX10_201 (by decide) ⟨Nat.le_refl _, Nat.le_refl _, Nat.le_refl _⟩ (Nat.le_of_ble_eq_true rfl) ltk_76 shk_76 rfl ?_
  intro rf m1 hrf h
  refine G_aload_n (i := 0) pX10_isAtRest_5 rfl rfl ?_
  refine G_getI (ci := 10) (j := 12) (N := 29) pX10_isAtRest_6 fl_RX10_195 rfl ltk_76 shk_76 (by decide) rfl ?_
  refine G_aload_n (i := 0) pX10_isAtRest_9 rfl rfl ?_
  refine G_iload_n (i := 1) pX10_isAtRest_10 rfl rfl ?_
  refine G_iconst pX10_isAtRest_11 ic_2 ?_
  refine G_callV2i (b := 76) (ci := 10) (N := 29) pX10_isAtRest_12 (g_X10_of a1 (2 : Int32) hrf _ h) mV_X10_of ml_RX10_61 (by decide) ⟨Nat.le_refl _, Nat.le_refl _, Nat.le_refl _⟩ (Nat.le_of_ble_eq_true rfl) ltk_76 shk_76 rfl ?_
  intro r3 rf m2 hrf h hr3
  refine G_icmp_ne pX10_isAtRest_15 (fun c4 => ?_) (fun c4 => ?_)
  · have h := h.1 c4
    refine G_iconst pX10_isAtRest_35 ic_0 ?_
    exact G_ireturn (len := 1) pX10_isAtRest_36 ⟨hrf, _, rfl, h⟩ ⟨_, rfl, rfl⟩
  · have h := h.2 c4
    refine G_aload_n (i := 0) pX10_isAtRest_18 rfl rfl ?_
    refine G_getI (ci := 10) (j := 13) (N := 29) pX10_isAtRest_19 fl_RX10_198 rfl ltk_76 shk_76 (by decide) rfl ?_
    refine G_aload_n (i := 0) pX10_isAtRest_22 rfl rfl ?_
    refine G_iload_n (i := 1) pX10_isAtRest_23 rfl rfl ?_
    refine G_iconst pX10_isAtRest_24 ic_3 ?_
    refine G_callV2i (b := 76) (ci := 10) (N := 29) pX10_isAtRest_25 (g_X10_of a1 (3 : Int32) hrf _ h) mV_X10_of ml_RX10_61 (by decide) ⟨Nat.le_refl _, Nat.le_refl _, Nat.le_refl _⟩ (Nat.le_of_ble_eq_true rfl) ltk_76 shk_76 rfl ?_
    intro r6 rf m5 hrf h hr6
    refine G_icmp_ne pX10_isAtRest_28 (fun c7 => ?_) (fun c7 => ?_)
    · have h := h.1 c7
      refine G_iconst pX10_isAtRest_35 ic_0 ?_
      exact G_ireturn (len := 1) pX10_isAtRest_36 ⟨hrf, _, rfl, h⟩ ⟨_, rfl, rfl⟩
    · have h := h.2 c7
      refine G_iconst pX10_isAtRest_31 ic_1 ?_
      refine G_goto pX10_isAtRest_32 ?_
      exact G_ireturn (len := 1) pX10_isAtRest_36 ⟨hrf, _, rfl, h⟩ ⟨_, rfl, rfl⟩
def L_X10_ofGood (a1 : Int32) (a2 : Int32) (mem : MMt) (Q : Int32 → MMt → Prop) : Prop := L_X10_isGood a1 mem (fun r2 m1 => ((¬ r2 = 0 → ((a2 < (0 : Int32) → L_X10_error (1 : Int32) m1 (fun r5 m4 => Q r5 m4)) ∧ ((9 : Int32) < a2 → L_X10_error (1 : Int32) m1 (fun r5 m4 => Q r5 m4)) ∧ (a2 = (0 : Int32) → L_X10_of a1 a2 m1 (fun r9 m8 => Q r9 m8)) ∧ (a2 = (1 : Int32) → L_X10_of a1 a2 m1 (fun r11 m10 => Q r11 m10)) ∧ (a2 = (2 : Int32) → L_X10_of a1 a2 m1 (fun r13 m12 => Q r13 m12)) ∧ (a2 = (3 : Int32) → L_X10_of a1 a2 m1 (fun r15 m14 => Q r15 m14)) ∧ (a2 = (4 : Int32) → L_X10_of a1 a2 m1 (fun r17 m16 => Q r17 m16)) ∧ (a2 = (5 : Int32) → L_X10_loadOf a1 m1 (fun r19 m18 => Q r19 m18)) ∧ (a2 = (6 : Int32) → L_X10_pulledNow a1 m1 (fun r21 m20 => Q r21 m20)) ∧ (a2 = (7 : Int32) → L_X10_of a1 (0 : Int32) m1 (fun r23 m22 => L_X10_of a1 (1 : Int32) m22 (fun r25 m24 => L_X10_drag r23 r25 m24 (fun r27 m26 => Q r27 m26)))) ∧ (a2 = (8 : Int32) → L_X10_of a1 (0 : Int32) m1 (fun r29 m28 => L_X10_of a1 (1 : Int32) m28 (fun r31 m30 => L_X10_reach r29 r31 m30 (fun r33 m32 => Q r33 m32)))) ∧ (a2 = (9 : Int32) → L_X10_isAtRest a1 m1 (fun r35 m34 => ((r35 = 0 → Q (0 : Int32) m34) ∧ (¬ r35 = 0 → Q (1 : Int32) m34)))))) ∧ (r2 = 0 → L_X10_error (1 : Int32) m1 (fun r38 m37 => Q r38 m37))))
set_option maxRecDepth 4000 in
theorem g_X10_ofGood {sx : Nat × (Nat → Int32)} {rf : RFt} {Q : Int32 → MMt → Prop} (a1 : Int32) (a2 : Int32) (hrf : RFok rf) (mem : MMt) (h : L_X10_ofGood a1 a2 mem Q) : Ct sx yX10_ofGood cX10_ofGood 3 (some .int) 7 [.ref 76, .int a1, .int a2] NX NX rf mem (QQi (RFok) Q) := by
  refine Ct_of [some (.ref 76), some (.int a1), some (.int a2)] (by decide +kernel) (by simp [Lof, Value.category]) rfl ?_
  unfold L_X10_ofGood at h
  refine G_aload_n (i := 0) pX10_ofGood_0 rfl rfl ?_
  refine G_iload_n (i := 1) pX10_ofGood_1 rfl rfl ?_
  refine G_callV1i (b := 76) (ci := 10) (N := 29) pX10_ofGood_2 (g_X10_isGood a1 hrf _ h) mV_X10_isGood ml_RX10_87 (by decide) ⟨Nat.le_refl _, Nat.le_refl _, Nat.le_refl _⟩ (Nat.le_of_ble_eq_true rfl) ltk_76 shk_76 rfl ?_
  intro r2 rf m1 hrf h hr2
  refine G_if_ne pX10_ofGood_5 (fun c3 => ?_) (fun c3 => ?_)
  · have h := h.1 c3
    refine G_iload_n (i := 2) pX10_ofGood_14 rfl rfl ?_
    by_cases c6 : a2 < (0 : Int32)
    · have h := h.1 c6
      refine G_tsOut (tgt := 133) pX10_ofGood_15 (Or.inl (ts_lt c6 (by decide))) (by decide) ?_
      refine G_aload_n (i := 0) pX10_ofGood_133 rfl rfl ?_
      refine G_iconst pX10_ofGood_134 ic_1 ?_
      refine G_callV1i (b := 76) (ci := 10) (N := 29) pX10_ofGood_135 (g_X10_error (1 : Int32) hrf _ h) mV_X10_error ml_RX10_79 (by decide) ⟨Nat.le_refl _, Nat.le_refl _, Nat.le_refl _⟩ (Nat.le_of_ble_eq_true rfl) ltk_76 shk_76 rfl ?_
      intro r5 rf m4 hrf h hr5
      exact G_ireturn (len := 1) pX10_ofGood_138 ⟨hrf, _, rfl, h⟩ ⟨_, rfl, rfl⟩
    by_cases c7 : (9 : Int32) < a2
    · have h := h.2.1 c7
      refine G_tsOut (tgt := 133) pX10_ofGood_15 (Or.inr (ts_gt c7 (by decide))) (by decide) ?_
      refine G_aload_n (i := 0) pX10_ofGood_133 rfl rfl ?_
      refine G_iconst pX10_ofGood_134 ic_1 ?_
      refine G_callV1i (b := 76) (ci := 10) (N := 29) pX10_ofGood_135 (g_X10_error (1 : Int32) hrf _ h) mV_X10_error ml_RX10_79 (by decide) ⟨Nat.le_refl _, Nat.le_refl _, Nat.le_refl _⟩ (Nat.le_of_ble_eq_true rfl) ltk_76 shk_76 rfl ?_
      intro r5 rf m4 hrf h hr5
      exact G_ireturn (len := 1) pX10_ofGood_138 ⟨hrf, _, rfl, h⟩ ⟨_, rfl, rfl⟩
    rcases tsx_0_9 c6 c7 with hc | hc | hc | hc | hc | hc | hc | hc | hc | hc
    · have h := h.2.2.1 hc
      refine G_tsInE (v := (0 : Int32)) (off := 53) (tgt := 68) pX10_ofGood_15 hc (by decide) ?_
      refine G_aload_n (i := 0) pX10_ofGood_68 rfl rfl ?_
      refine G_iload_n (i := 1) pX10_ofGood_69 rfl rfl ?_
      refine G_iload_n (i := 2) pX10_ofGood_70 rfl rfl ?_
      refine G_callV2i (b := 76) (ci := 10) (N := 29) pX10_ofGood_71 (g_X10_of a1 a2 hrf _ h) mV_X10_of ml_RX10_61 (by decide) ⟨Nat.le_refl _, Nat.le_refl _, Nat.le_refl _⟩ (Nat.le_of_ble_eq_true rfl) ltk_76 shk_76 rfl ?_
      intro r9 rf m8 hrf h hr9
      exact G_ireturn (len := 1) pX10_ofGood_74 ⟨hrf, _, rfl, h⟩ ⟨_, rfl, rfl⟩
    · have h := h.2.2.2.1 hc
      refine G_tsInE (v := (1 : Int32)) (off := 53) (tgt := 68) pX10_ofGood_15 hc (by decide) ?_
      refine G_aload_n (i := 0) pX10_ofGood_68 rfl rfl ?_
      refine G_iload_n (i := 1) pX10_ofGood_69 rfl rfl ?_
      refine G_iload_n (i := 2) pX10_ofGood_70 rfl rfl ?_
      refine G_callV2i (b := 76) (ci := 10) (N := 29) pX10_ofGood_71 (g_X10_of a1 a2 hrf _ h) mV_X10_of ml_RX10_61 (by decide) ⟨Nat.le_refl _, Nat.le_refl _, Nat.le_refl _⟩ (Nat.le_of_ble_eq_true rfl) ltk_76 shk_76 rfl ?_
      intro r11 rf m10 hrf h hr11
      exact G_ireturn (len := 1) pX10_ofGood_74 ⟨hrf, _, rfl, h⟩ ⟨_, rfl, rfl⟩
    · have h := h.2.2.2.2.1 hc
      refine G_tsInE (v := (2 : Int32)) (off := 53) (tgt := 68) pX10_ofGood_15 hc (by decide) ?_
      refine G_aload_n (i := 0) pX10_ofGood_68 rfl rfl ?_
      refine G_iload_n (i := 1) pX10_ofGood_69 rfl rfl ?_
      refine G_iload_n (i := 2) pX10_ofGood_70 rfl rfl ?_
      refine G_callV2i (b := 76) (ci := 10) (N := 29) pX10_ofGood_71 (g_X10_of a1 a2 hrf _ h) mV_X10_of ml_RX10_61 (by decide) ⟨Nat.le_refl _, Nat.le_refl _, Nat.le_refl _⟩ (Nat.le_of_ble_eq_true rfl) ltk_76 shk_76 rfl ?_
      intro r13 rf m12 hrf h hr13
      exact G_ireturn (len := 1) pX10_ofGood_74 ⟨hrf, _, rfl, h⟩ ⟨_, rfl, rfl⟩
    · have h := h.2.2.2.2.2.1 hc
      refine G_tsInE (v := (3 : Int32)) (off := 53) (tgt := 68) pX10_ofGood_15 hc (by decide) ?_
      refine G_aload_n (i := 0) pX10_ofGood_68 rfl rfl ?_
      refine G_iload_n (i := 1) pX10_ofGood_69 rfl rfl ?_
      refine G_iload_n (i := 2) pX10_ofGood_70 rfl rfl ?_
      refine G_callV2i (b := 76) (ci := 10) (N := 29) pX10_ofGood_71 (g_X10_of a1 a2 hrf _ h) mV_X10_of ml_RX10_61 (by decide) ⟨Nat.le_refl _, Nat.le_refl _, Nat.le_refl _⟩ (Nat.le_of_ble_eq_true rfl) ltk_76 shk_76 rfl ?_
      intro r15 rf m14 hrf h hr15
      exact G_ireturn (len := 1) pX10_ofGood_74 ⟨hrf, _, rfl, h⟩ ⟨_, rfl, rfl⟩
    · have h := h.2.2.2.2.2.2.1 hc
      refine G_tsInE (v := (4 : Int32)) (off := 53) (tgt := 68) pX10_ofGood_15 hc (by decide) ?_
      refine G_aload_n (i := 0) pX10_ofGood_68 rfl rfl ?_
      refine G_iload_n (i := 1) pX10_ofGood_69 rfl rfl ?_
      refine G_iload_n (i := 2) pX10_ofGood_70 rfl rfl ?_
      refine G_callV2i (b := 76) (ci := 10) (N := 29) pX10_ofGood_71 (g_X10_of a1 a2 hrf _ h) mV_X10_of ml_RX10_61 (by decide) ⟨Nat.le_refl _, Nat.le_refl _, Nat.le_refl _⟩ (Nat.le_of_ble_eq_true rfl) ltk_76 shk_76 rfl ?_
      intro r17 rf m16 hrf h hr17
      exact G_ireturn (len := 1) pX10_ofGood_74 ⟨hrf, _, rfl, h⟩ ⟨_, rfl, rfl⟩
    · have h := h.2.2.2.2.2.2.2.1 hc
      refine G_tsInE (v := (5 : Int32)) (off := 60) (tgt := 75) pX10_ofGood_15 hc (by decide) ?_
      refine G_aload_n (i := 0) pX10_ofGood_75 rfl rfl ?_
      refine G_iload_n (i := 1) pX10_ofGood_76 rfl rfl ?_
      refine G_callV1i (b := 76) (ci := 10) (N := 29) pX10_ofGood_77 (g_X10_loadOf a1 hrf _ h) mV_X10_loadOf ml_RX10_91 (by decide) ⟨Nat.le_refl _, Nat.le_refl _, Nat.le_refl _⟩ (Nat.le_of_ble_eq_true rfl) ltk_76 shk_76 rfl ?_
      intro r19 rf m18 hrf h hr19
      exact G_ireturn (len := 1) pX10_ofGood_80 ⟨hrf, _, rfl, h⟩ ⟨_, rfl, rfl⟩
    · have h := h.2.2.2.2.2.2.2.2.1 hc
      refine G_tsInE (v := (6 : Int32)) (off := 66) (tgt := 81) pX10_ofGood_15 hc (by decide) ?_
      refine G_aload_n (i := 0) pX10_ofGood_81 rfl rfl ?_
      refine G_iload_n (i := 1) pX10_ofGood_82 rfl rfl ?_
      refine G_callV1i (b := 76) (ci := 10) (N := 29) pX10_ofGood_83 (g_X10_pulledNow a1 hrf _ h) mV_X10_pulledNow ml_RX10_94 (by decide) ⟨Nat.le_refl _, Nat.le_refl _, Nat.le_refl _⟩ (Nat.le_of_ble_eq_true rfl) ltk_76 shk_76 rfl ?_
      intro r21 rf m20 hrf h hr21
      exact G_ireturn (len := 1) pX10_ofGood_86 ⟨hrf, _, rfl, h⟩ ⟨_, rfl, rfl⟩
    · have h := h.2.2.2.2.2.2.2.2.2.1 hc
      refine G_tsInE (v := (7 : Int32)) (off := 72) (tgt := 87) pX10_ofGood_15 hc (by decide) ?_
      refine G_aload_n (i := 0) pX10_ofGood_87 rfl rfl ?_
      refine G_iload_n (i := 1) pX10_ofGood_88 rfl rfl ?_
      refine G_iconst pX10_ofGood_89 ic_0 ?_
      refine G_callV2i (b := 76) (ci := 10) (N := 29) pX10_ofGood_90 (g_X10_of a1 (0 : Int32) hrf _ h) mV_X10_of ml_RX10_61 (by decide) ⟨Nat.le_refl _, Nat.le_refl _, Nat.le_refl _⟩ (Nat.le_of_ble_eq_true rfl) ltk_76 shk_76 rfl ?_
      intro r23 rf m22 hrf h hr23
      refine G_aload_n (i := 0) pX10_ofGood_93 rfl rfl ?_
      refine G_iload_n (i := 1) pX10_ofGood_94 rfl rfl ?_
      refine G_iconst pX10_ofGood_95 ic_1 ?_
      refine G_callV2i (b := 76) (ci := 10) (N := 29) pX10_ofGood_96 (g_X10_of a1 (1 : Int32) hrf _ h) mV_X10_of ml_RX10_61 (by decide) ⟨Nat.le_refl _, Nat.le_refl _, Nat.le_refl _⟩ (Nat.le_of_ble_eq_true rfl) ltk_76 shk_76 rfl ?_
      intro r25 rf m24 hrf h hr25
      refine G_callS2i pX10_ofGood_99 (g_X10_drag r23 r25 hrf _ h) mS_X10_drag ml_RX10_97 (by decide) ⟨Nat.le_refl _, Nat.le_refl _, Nat.le_refl _⟩ (Nat.le_of_ble_eq_true rfl) ?_
      intro r27 rf m26 hrf h hr27
      exact G_ireturn (len := 1) pX10_ofGood_102 ⟨hrf, _, rfl, h⟩ ⟨_, rfl, rfl⟩
    · have h := h.2.2.2.2.2.2.2.2.2.2.1 hc
      refine G_tsInE (v := (8 : Int32)) (off := 88) (tgt := 103) pX10_ofGood_15 hc (by decide) ?_
      refine G_aload_n (i := 0) pX10_ofGood_103 rfl rfl ?_
      refine G_iload_n (i := 1) pX10_ofGood_104 rfl rfl ?_
      refine G_iconst pX10_ofGood_105 ic_0 ?_
      refine G_callV2i (b := 76) (ci := 10) (N := 29) pX10_ofGood_106 (g_X10_of a1 (0 : Int32) hrf _ h) mV_X10_of ml_RX10_61 (by decide) ⟨Nat.le_refl _, Nat.le_refl _, Nat.le_refl _⟩ (Nat.le_of_ble_eq_true rfl) ltk_76 shk_76 rfl ?_
      intro r29 rf m28 hrf h hr29
      refine G_aload_n (i := 0) pX10_ofGood_109 rfl rfl ?_
      refine G_iload_n (i := 1) pX10_ofGood_110 rfl rfl ?_
      refine G_iconst pX10_ofGood_111 ic_1 ?_
      refine G_callV2i (b := 76) (ci := 10) (N := 29) pX10_ofGood_112 (g_X10_of a1 (1 : Int32) hrf _ h) mV_X10_of ml_RX10_61 (by decide) ⟨Nat.le_refl _, Nat.le_refl _, Nat.le_refl _⟩ (Nat.le_of_ble_eq_true rfl) ltk_76 shk_76 rfl ?_
      intro r31 rf m30 hrf h hr31
      refine G_callS2i pX10_ofGood_115 (g_X10_reach r29 r31 hrf _ h) mS_X10_reach ml_RX10_100 (by decide) ⟨Nat.le_refl _, Nat.le_refl _, Nat.le_refl _⟩ (Nat.le_of_ble_eq_true rfl) ?_
      intro r33 rf m32 hrf h hr33
      exact G_ireturn (len := 1) pX10_ofGood_118 ⟨hrf, _, rfl, h⟩ ⟨_, rfl, rfl⟩
    · have h := h.2.2.2.2.2.2.2.2.2.2.2 hc
      refine G_tsInE (v := (9 : Int32)) (off := 104) (tgt := 119) pX10_ofGood_15 hc (by decide) ?_
      refine G_aload_n (i := 0) pX10_ofGood_119 rfl rfl ?_
      refine G_iload_n (i := 1) pX10_ofGood_120 rfl rfl ?_
      refine G_callV1i (b := 76) (ci := 10) (N := 29) pX10_ofGood_121 (g_X10_isAtRest a1 hrf _ h) mV_X10_isAtRest ml_RX10_103 (by decide) ⟨Nat.le_refl _, Nat.le_refl _, Nat.le_refl _⟩ (Nat.le_of_ble_eq_true rfl) ltk_76 shk_76 rfl ?_
      intro r35 rf m34 hrf h hr35
      refine G_if_eq pX10_ofGood_124 (fun c36 => ?_) (fun c36 => ?_)
      · have h := h.1 c36
        refine G_iconst pX10_ofGood_131 ic_0 ?_
        exact G_ireturn (len := 1) pX10_ofGood_132 ⟨hrf, _, rfl, h⟩ ⟨_, rfl, rfl⟩
      · have h := h.2 c36
        refine G_iconst pX10_ofGood_127 ic_1 ?_
        refine G_goto pX10_ofGood_128 ?_
        exact G_ireturn (len := 1) pX10_ofGood_132 ⟨hrf, _, rfl, h⟩ ⟨_, rfl, rfl⟩
  · have h := h.2 c3
    refine G_aload_n (i := 0) pX10_ofGood_8 rfl rfl ?_
    refine G_iconst pX10_ofGood_9 ic_1 ?_
    refine G_callV1i (b := 76) (ci := 10) (N := 29) pX10_ofGood_10 (g_X10_error (1 : Int32) hrf _ h) mV_X10_error ml_RX10_79 (by decide) ⟨Nat.le_refl _, Nat.le_refl _, Nat.le_refl _⟩ (Nat.le_of_ble_eq_true rfl) ltk_76 shk_76 rfl ?_
    intro r38 rf m37 hrf h hr38
    exact G_ireturn (len := 1) pX10_ofGood_13 ⟨hrf, _, rfl, h⟩ ⟨_, rfl, rfl⟩
def L_X10_become (a1 : Int32) (a2 : Int32) (mem : MMt) (Q : Int32 → MMt → Prop) : Prop := L_X10_isGood a1 mem (fun r2 m1 => ((r2 = 0 → L_X10_error (1 : Int32) m1 (fun r5 m4 => Q r5 m4)) ∧ (¬ r2 = 0 → L_X10_isIn a2.toInt64 (0 : Int64) (69 : Int64) m1 (fun r7 m6 => ((¬ r7 = 0 → L_X10_of a1 (0 : Int32) m6 (fun r10 m9 => L_X10_sets a1 (0 : Int32) (a2 / (10 : Int32)) m9 (fun m11 => L_X10_sets a1 (1 : Int32) (a2 - a2 / (10 : Int32) * (10 : Int32)) m11 (fun m12 => Q r10 m12)))) ∧ (r7 = 0 → L_X10_error (1 : Int32) m6 (fun r14 m13 => Q r14 m13)))))))
set_option maxRecDepth 4000 in
theorem g_X10_become {sx : Nat × (Nat → Int32)} {rf : RFt} {Q : Int32 → MMt → Prop} (a1 : Int32) (a2 : Int32) (hrf : RFok rf) (mem : MMt) (h : L_X10_become a1 a2 mem Q) : Ct sx yX10_become cX10_become 4 (some .int) 3 [.ref 76, .int a1, .int a2] NX NX rf mem (QQi (RFok) Q) := by
  refine Ct_of [some (.ref 76), some (.int a1), some (.int a2), none] (by decide +kernel) (by simp [Lof, Value.category]) rfl ?_
  unfold L_X10_become at h
  refine G_aload_n (i := 0) pX10_become_0 rfl rfl ?_
  refine G_iload_n (i := 1) pX10_become_1 rfl rfl ?_
  refine G_callV1i (b := 76) (ci := 10) (N := 29) pX10_become_2 (g_X10_isGood a1 hrf _ h) mV_X10_isGood ml_RX10_87 (by decide) ⟨Nat.le_refl _, Nat.le_refl _, Nat.le_refl _⟩ (Nat.le_of_ble_eq_true rfl) ltk_76 shk_76 rfl ?_
  intro r2 rf m1 hrf h hr2
  refine G_if_eq pX10_become_5 (fun c3 => ?_) (fun c3 => ?_)
  · have h := h.1 c3
    refine G_aload_n (i := 0) pX10_become_20 rfl rfl ?_
    refine G_iconst pX10_become_21 ic_1 ?_
    refine G_callV1i (b := 76) (ci := 10) (N := 29) pX10_become_22 (g_X10_error (1 : Int32) hrf _ h) mV_X10_error ml_RX10_79 (by decide) ⟨Nat.le_refl _, Nat.le_refl _, Nat.le_refl _⟩ (Nat.le_of_ble_eq_true rfl) ltk_76 shk_76 rfl ?_
    intro r5 rf m4 hrf h hr5
    exact G_ireturn (len := 1) pX10_become_25 ⟨hrf, _, rfl, h⟩ ⟨_, rfl, rfl⟩
  · have h := h.2 c3
    refine G_iload_n (i := 2) pX10_become_8 rfl rfl ?_
    refine G_i2l pX10_become_9 ?_
    refine G_lconst pX10_become_10 lc_0 ?_
    refine G_ldc2 pX10_become_11 rfl wcl_RX10_75 ?_
    refine G_callS3i pX10_become_14 (g_X10_isIn a2.toInt64 (0 : Int64) (69 : Int64) hrf _ h) mS_X10_isIn ml_RX10_53 (by decide) ⟨Nat.le_refl _, Nat.le_refl _, Nat.le_refl _⟩ (Nat.le_of_ble_eq_true rfl) ?_
    intro r7 rf m6 hrf h hr7
    refine G_if_ne pX10_become_17 (fun c8 => ?_) (fun c8 => ?_)
    · have h := h.1 c8
      refine G_aload_n (i := 0) pX10_become_26 rfl rfl ?_
      refine G_iload_n (i := 1) pX10_become_27 rfl rfl ?_
      refine G_iconst pX10_become_28 ic_0 ?_
      refine G_callV2i (b := 76) (ci := 10) (N := 29) pX10_become_29 (g_X10_of a1 (0 : Int32) hrf _ h) mV_X10_of ml_RX10_61 (by decide) ⟨Nat.le_refl _, Nat.le_refl _, Nat.le_refl _⟩ (Nat.le_of_ble_eq_true rfl) ltk_76 shk_76 rfl ?_
      intro r10 rf m9 hrf h hr10
      refine G_istore_n (i := 3) (L' := [some (.ref 76), some (.int a1), some (.int a2), some (.int r10)]) pX10_become_32 rfl rfl ?_
      refine G_aload_n (i := 0) pX10_become_33 rfl rfl ?_
      refine G_iload_n (i := 1) pX10_become_34 rfl rfl ?_
      refine G_iconst pX10_become_35 ic_0 ?_
      refine G_iload_n (i := 2) pX10_become_36 rfl rfl ?_
      refine G_bipush pX10_become_37 bi_10 ?_
      refine G_idiv pX10_become_39 (by decide) ?_
      refine G_callV3v (b := 76) (ci := 10) (N := 29) pX10_become_40 (g_X10_sets a1 (0 : Int32) (a2 / (10 : Int32)) hrf _ h) mV_X10_sets ml_RX10_83 (by decide) ⟨Nat.le_refl _, Nat.le_refl _, Nat.le_refl _⟩ (Nat.le_of_ble_eq_true rfl) ltk_76 shk_76 rfl ?_
      intro rf m11 hrf h
      refine G_aload_n (i := 0) pX10_become_43 rfl rfl ?_
      refine G_iload_n (i := 1) pX10_become_44 rfl rfl ?_
      refine G_iconst pX10_become_45 ic_1 ?_
      refine G_iload_n (i := 2) pX10_become_46 rfl rfl ?_
      refine G_bipush pX10_become_47 bi_10 ?_
      refine G_irem pX10_become_49 (by decide) ?_
      refine G_callV3v (b := 76) (ci := 10) (N := 29) pX10_become_50 (g_X10_sets a1 (1 : Int32) (a2 - a2 / (10 : Int32) * (10 : Int32)) hrf _ h) mV_X10_sets ml_RX10_83 (by decide) ⟨Nat.le_refl _, Nat.le_refl _, Nat.le_refl _⟩ (Nat.le_of_ble_eq_true rfl) ltk_76 shk_76 rfl ?_
      intro rf m12 hrf h
      refine G_iload_n (i := 3) pX10_become_53 rfl rfl ?_
      exact G_ireturn (len := 1) pX10_become_54 ⟨hrf, _, rfl, h⟩ ⟨_, rfl, rfl⟩
    · have h := h.2 c8
      refine G_aload_n (i := 0) pX10_become_20 rfl rfl ?_
      refine G_iconst pX10_become_21 ic_1 ?_
      refine G_callV1i (b := 76) (ci := 10) (N := 29) pX10_become_22 (g_X10_error (1 : Int32) hrf _ h) mV_X10_error ml_RX10_79 (by decide) ⟨Nat.le_refl _, Nat.le_refl _, Nat.le_refl _⟩ (Nat.le_of_ble_eq_true rfl) ltk_76 shk_76 rfl ?_
      intro r14 rf m13 hrf h hr14
      exact G_ireturn (len := 1) pX10_become_25 ⟨hrf, _, rfl, h⟩ ⟨_, rfl, rfl⟩
def L_X10_as (a1 : Int32) (a2 : Int32) (mem : MMt) (Q : Int32 → MMt → Prop) : Prop := L_X10_isGood a1 mem (fun r2 m1 => ((r2 = 0 → L_X10_error (1 : Int32) m1 (fun r5 m4 => Q r5 m4)) ∧ (¬ r2 = 0 → L_X10_isIn a2.toInt64 (0 : Int64) (6 : Int64) m1 (fun r7 m6 => ((¬ r7 = 0 → L_X10_of a1 (0 : Int32) m6 (fun r10 m9 => L_X10_isUnder r10 a2 m9 (fun r12 m11 => ((r12 = 0 → L_X10_error (5 : Int32) m11 (fun r15 m14 => Q r15 m14)) ∧ (¬ r12 = 0 → L_X10_of a1 (1 : Int32) m11 (fun r17 m16 => Q r17 m16)))))) ∧ (r7 = 0 → L_X10_error (1 : Int32) m6 (fun r19 m18 => Q r19 m18)))))))
set_option maxRecDepth 4000 in
theorem g_X10_as {sx : Nat × (Nat → Int32)} {rf : RFt} {Q : Int32 → MMt → Prop} (a1 : Int32) (a2 : Int32) (hrf : RFok rf) (mem : MMt) (h : L_X10_as a1 a2 mem Q) : Ct sx yX10_as cX10_as 3 (some .int) 3 [.ref 76, .int a1, .int a2] NX NX rf mem (QQi (RFok) Q) := by
  refine Ct_of [some (.ref 76), some (.int a1), some (.int a2)] (by decide +kernel) (by simp [Lof, Value.category]) rfl ?_
  unfold L_X10_as at h
  refine G_aload_n (i := 0) pX10_as_0 rfl rfl ?_
  refine G_iload_n (i := 1) pX10_as_1 rfl rfl ?_
  refine G_callV1i (b := 76) (ci := 10) (N := 29) pX10_as_2 (g_X10_isGood a1 hrf _ h) mV_X10_isGood ml_RX10_87 (by decide) ⟨Nat.le_refl _, Nat.le_refl _, Nat.le_refl _⟩ (Nat.le_of_ble_eq_true rfl) ltk_76 shk_76 rfl ?_
  intro r2 rf m1 hrf h hr2
  refine G_if_eq pX10_as_5 (fun c3 => ?_) (fun c3 => ?_)
  · have h := h.1 c3
    refine G_aload_n (i := 0) pX10_as_20 rfl rfl ?_
    refine G_iconst pX10_as_21 ic_1 ?_
    refine G_callV1i (b := 76) (ci := 10) (N := 29) pX10_as_22 (g_X10_error (1 : Int32) hrf _ h) mV_X10_error ml_RX10_79 (by decide) ⟨Nat.le_refl _, Nat.le_refl _, Nat.le_refl _⟩ (Nat.le_of_ble_eq_true rfl) ltk_76 shk_76 rfl ?_
    intro r5 rf m4 hrf h hr5
    exact G_ireturn (len := 1) pX10_as_25 ⟨hrf, _, rfl, h⟩ ⟨_, rfl, rfl⟩
  · have h := h.2 c3
    refine G_iload_n (i := 2) pX10_as_8 rfl rfl ?_
    refine G_i2l pX10_as_9 ?_
    refine G_lconst pX10_as_10 lc_0 ?_
    refine G_ldc2 pX10_as_11 rfl wcl_RX10_106 ?_
    refine G_callS3i pX10_as_14 (g_X10_isIn a2.toInt64 (0 : Int64) (6 : Int64) hrf _ h) mS_X10_isIn ml_RX10_53 (by decide) ⟨Nat.le_refl _, Nat.le_refl _, Nat.le_refl _⟩ (Nat.le_of_ble_eq_true rfl) ?_
    intro r7 rf m6 hrf h hr7
    refine G_if_ne pX10_as_17 (fun c8 => ?_) (fun c8 => ?_)
    · have h := h.1 c8
      refine G_aload_n (i := 0) pX10_as_26 rfl rfl ?_
      refine G_iload_n (i := 1) pX10_as_27 rfl rfl ?_
      refine G_iconst pX10_as_28 ic_0 ?_
      refine G_callV2i (b := 76) (ci := 10) (N := 29) pX10_as_29 (g_X10_of a1 (0 : Int32) hrf _ h) mV_X10_of ml_RX10_61 (by decide) ⟨Nat.le_refl _, Nat.le_refl _, Nat.le_refl _⟩ (Nat.le_of_ble_eq_true rfl) ltk_76 shk_76 rfl ?_
      intro r10 rf m9 hrf h hr10
      refine G_iload_n (i := 2) pX10_as_32 rfl rfl ?_
      refine G_callS2i pX10_as_33 (g_X10_isUnder r10 a2 hrf _ h) mS_X10_isUnder ml_RX10_108 (by decide) ⟨Nat.le_refl _, Nat.le_refl _, Nat.le_refl _⟩ (Nat.le_of_ble_eq_true rfl) ?_
      intro r12 rf m11 hrf h hr12
      refine G_if_eq pX10_as_36 (fun c13 => ?_) (fun c13 => ?_)
      · have h := h.1 c13
        refine G_aload_n (i := 0) pX10_as_48 rfl rfl ?_
        refine G_iconst pX10_as_49 ic_5 ?_
        refine G_callV1i (b := 76) (ci := 10) (N := 29) pX10_as_50 (g_X10_error (5 : Int32) hrf _ h) mV_X10_error ml_RX10_79 (by decide) ⟨Nat.le_refl _, Nat.le_refl _, Nat.le_refl _⟩ (Nat.le_of_ble_eq_true rfl) ltk_76 shk_76 rfl ?_
        intro r15 rf m14 hrf h hr15
        exact G_ireturn (len := 1) pX10_as_53 ⟨hrf, _, rfl, h⟩ ⟨_, rfl, rfl⟩
      · have h := h.2 c13
        refine G_aload_n (i := 0) pX10_as_39 rfl rfl ?_
        refine G_iload_n (i := 1) pX10_as_40 rfl rfl ?_
        refine G_iconst pX10_as_41 ic_1 ?_
        refine G_callV2i (b := 76) (ci := 10) (N := 29) pX10_as_42 (g_X10_of a1 (1 : Int32) hrf _ h) mV_X10_of ml_RX10_61 (by decide) ⟨Nat.le_refl _, Nat.le_refl _, Nat.le_refl _⟩ (Nat.le_of_ble_eq_true rfl) ltk_76 shk_76 rfl ?_
        intro r17 rf m16 hrf h hr17
        refine G_goto pX10_as_45 ?_
        exact G_ireturn (len := 1) pX10_as_53 ⟨hrf, _, rfl, h⟩ ⟨_, rfl, rfl⟩
    · have h := h.2 c8
      refine G_aload_n (i := 0) pX10_as_20 rfl rfl ?_
      refine G_iconst pX10_as_21 ic_1 ?_
      refine G_callV1i (b := 76) (ci := 10) (N := 29) pX10_as_22 (g_X10_error (1 : Int32) hrf _ h) mV_X10_error ml_RX10_79 (by decide) ⟨Nat.le_refl _, Nat.le_refl _, Nat.le_refl _⟩ (Nat.le_of_ble_eq_true rfl) ltk_76 shk_76 rfl ?_
      intro r19 rf m18 hrf h hr19
      exact G_ireturn (len := 1) pX10_as_25 ⟨hrf, _, rfl, h⟩ ⟨_, rfl, rfl⟩
def L_X10_place (a1 : Int32) (a2 : Int32) (mem : MMt) (Q : Int32 → MMt → Prop) : Prop := L_X10_isGood a1 mem (fun r2 m1 => ((r2 = 0 → L_X10_error (1 : Int32) m1 (fun r5 m4 => Q r5 m4)) ∧ (¬ r2 = 0 → L_X10_isIn a2.toInt64 (0 : Int64) (40 : Int64) m1 (fun r7 m6 => ((¬ r7 = 0 → L_X10_of a1 (2 : Int32) m6 (fun r10 m9 => L_X10_sets a1 (2 : Int32) a2 m9 (fun m11 => L_X10_sets a1 (4 : Int32) a2 m11 (fun m12 => L_X10_sets a1 (3 : Int32) (0 : Int32) m12 (fun m13 => Q r10 m13))))) ∧ (r7 = 0 → L_X10_error (1 : Int32) m6 (fun r15 m14 => Q r15 m14)))))))
set_option maxRecDepth 4000 in
theorem g_X10_place {sx : Nat × (Nat → Int32)} {rf : RFt} {Q : Int32 → MMt → Prop} (a1 : Int32) (a2 : Int32) (hrf : RFok rf) (mem : MMt) (h : L_X10_place a1 a2 mem Q) : Ct sx yX10_place cX10_place 4 (some .int) 3 [.ref 76, .int a1, .int a2] NX NX rf mem (QQi (RFok) Q) := by
  refine Ct_of [some (.ref 76), some (.int a1), some (.int a2), none] (by decide +kernel) (by simp [Lof, Value.category]) rfl ?_
  unfold L_X10_place at h
  refine G_aload_n (i := 0) pX10_place_0 rfl rfl ?_
  refine G_iload_n (i := 1) pX10_place_1 rfl rfl ?_
  refine G_callV1i (b := 76) (ci := 10) (N := 29) pX10_place_2 (g_X10_isGood a1 hrf _ h) mV_X10_isGood ml_RX10_87 (by decide) ⟨Nat.le_refl _, Nat.le_refl _, Nat.le_refl _⟩ (Nat.le_of_ble_eq_true rfl) ltk_76 shk_76 rfl ?_
  intro r2 rf m1 hrf h hr2
  refine G_if_eq pX10_place_5 (fun c3 => ?_) (fun c3 => ?_)
  · have h := h.1 c3
    refine G_aload_n (i := 0) pX10_place_20 rfl rfl ?_
    refine G_iconst pX10_place_21 ic_1 ?_
    refine G_callV1i (b := 76) (ci := 10) (N := 29) pX10_place_22 (g_X10_error (1 : Int32) hrf _ h) mV_X10_error ml_RX10_79 (by decide) ⟨Nat.le_refl _, Nat.le_refl _, Nat.le_refl _⟩ (Nat.le_of_ble_eq_true rfl) ltk_76 shk_76 rfl ?_
    intro r5 rf m4 hrf h hr5
    exact G_ireturn (len := 1) pX10_place_25 ⟨hrf, _, rfl, h⟩ ⟨_, rfl, rfl⟩
  · have h := h.2 c3
    refine G_iload_n (i := 2) pX10_place_8 rfl rfl ?_
    refine G_i2l pX10_place_9 ?_
    refine G_lconst pX10_place_10 lc_0 ?_
    refine G_ldc2 pX10_place_11 rfl wcl_RX10_77 ?_
    refine G_callS3i pX10_place_14 (g_X10_isIn a2.toInt64 (0 : Int64) (40 : Int64) hrf _ h) mS_X10_isIn ml_RX10_53 (by decide) ⟨Nat.le_refl _, Nat.le_refl _, Nat.le_refl _⟩ (Nat.le_of_ble_eq_true rfl) ?_
    intro r7 rf m6 hrf h hr7
    refine G_if_ne pX10_place_17 (fun c8 => ?_) (fun c8 => ?_)
    · have h := h.1 c8
      refine G_aload_n (i := 0) pX10_place_26 rfl rfl ?_
      refine G_iload_n (i := 1) pX10_place_27 rfl rfl ?_
      refine G_iconst pX10_place_28 ic_2 ?_
      refine G_callV2i (b := 76) (ci := 10) (N := 29) pX10_place_29 (g_X10_of a1 (2 : Int32) hrf _ h) mV_X10_of ml_RX10_61 (by decide) ⟨Nat.le_refl _, Nat.le_refl _, Nat.le_refl _⟩ (Nat.le_of_ble_eq_true rfl) ltk_76 shk_76 rfl ?_
      intro r10 rf m9 hrf h hr10
      refine G_istore_n (i := 3) (L' := [some (.ref 76), some (.int a1), some (.int a2), some (.int r10)]) pX10_place_32 rfl rfl ?_
      refine G_aload_n (i := 0) pX10_place_33 rfl rfl ?_
      refine G_iload_n (i := 1) pX10_place_34 rfl rfl ?_
      refine G_iconst pX10_place_35 ic_2 ?_
      refine G_iload_n (i := 2) pX10_place_36 rfl rfl ?_
      refine G_callV3v (b := 76) (ci := 10) (N := 29) pX10_place_37 (g_X10_sets a1 (2 : Int32) a2 hrf _ h) mV_X10_sets ml_RX10_83 (by decide) ⟨Nat.le_refl _, Nat.le_refl _, Nat.le_refl _⟩ (Nat.le_of_ble_eq_true rfl) ltk_76 shk_76 rfl ?_
      intro rf m11 hrf h
      refine G_aload_n (i := 0) pX10_place_40 rfl rfl ?_
      refine G_iload_n (i := 1) pX10_place_41 rfl rfl ?_
      refine G_iconst pX10_place_42 ic_4 ?_
      refine G_iload_n (i := 2) pX10_place_43 rfl rfl ?_
      refine G_callV3v (b := 76) (ci := 10) (N := 29) pX10_place_44 (g_X10_sets a1 (4 : Int32) a2 hrf _ h) mV_X10_sets ml_RX10_83 (by decide) ⟨Nat.le_refl _, Nat.le_refl _, Nat.le_refl _⟩ (Nat.le_of_ble_eq_true rfl) ltk_76 shk_76 rfl ?_
      intro rf m12 hrf h
      refine G_aload_n (i := 0) pX10_place_47 rfl rfl ?_
      refine G_iload_n (i := 1) pX10_place_48 rfl rfl ?_
      refine G_iconst pX10_place_49 ic_3 ?_
      refine G_iconst pX10_place_50 ic_0 ?_
      refine G_callV3v (b := 76) (ci := 10) (N := 29) pX10_place_51 (g_X10_sets a1 (3 : Int32) (0 : Int32) hrf _ h) mV_X10_sets ml_RX10_83 (by decide) ⟨Nat.le_refl _, Nat.le_refl _, Nat.le_refl _⟩ (Nat.le_of_ble_eq_true rfl) ltk_76 shk_76 rfl ?_
      intro rf m13 hrf h
      refine G_iload_n (i := 3) pX10_place_54 rfl rfl ?_
      exact G_ireturn (len := 1) pX10_place_55 ⟨hrf, _, rfl, h⟩ ⟨_, rfl, rfl⟩
    · have h := h.2 c8
      refine G_aload_n (i := 0) pX10_place_20 rfl rfl ?_
      refine G_iconst pX10_place_21 ic_1 ?_
      refine G_callV1i (b := 76) (ci := 10) (N := 29) pX10_place_22 (g_X10_error (1 : Int32) hrf _ h) mV_X10_error ml_RX10_79 (by decide) ⟨Nat.le_refl _, Nat.le_refl _, Nat.le_refl _⟩ (Nat.le_of_ble_eq_true rfl) ltk_76 shk_76 rfl ?_
      intro r15 rf m14 hrf h hr15
      exact G_ireturn (len := 1) pX10_place_25 ⟨hrf, _, rfl, h⟩ ⟨_, rfl, rfl⟩
def L_X10_pushed (a1 : Int32) (a2 : Int32) (mem : MMt) (Q : Int32 → MMt → Prop) : Prop := L_X10_of a1 (3 : Int32) mem (fun r2 m1 => L_X10_within (r2 + a2) (-9 : Int32) (9 : Int32) m1 (fun r4 m3 => L_X10_sets a1 (3 : Int32) r4 m3 (fun m5 => L_X10_of a1 (3 : Int32) m5 (fun r7 m6 => Q r7 m6))))
set_option maxRecDepth 4000 in
theorem g_X10_pushed {sx : Nat × (Nat → Int32)} {rf : RFt} {Q : Int32 → MMt → Prop} (a1 : Int32) (a2 : Int32) (hrf : RFok rf) (mem : MMt) (h : L_X10_pushed a1 a2 mem Q) : Ct sx yX10_pushed cX10_pushed 3 (some .int) 2 [.ref 76, .int a1, .int a2] NX NX rf mem (QQi (RFok) Q) := by
  refine Ct_of [some (.ref 76), some (.int a1), some (.int a2)] (by decide +kernel) (by simp [Lof, Value.category]) rfl ?_
  unfold L_X10_pushed at h
  refine G_aload_n (i := 0) pX10_pushed_0 rfl rfl ?_
  refine G_iload_n (i := 1) pX10_pushed_1 rfl rfl ?_
  refine G_iconst pX10_pushed_2 ic_3 ?_
  refine G_aload_n (i := 0) pX10_pushed_3 rfl rfl ?_
  refine G_iload_n (i := 1) pX10_pushed_4 rfl rfl ?_
  refine G_iconst pX10_pushed_5 ic_3 ?_
  refine G_callV2i (b := 76) (ci := 10) (N := 29) pX10_pushed_6 (g_X10_of a1 (3 : Int32) hrf _ h) mV_X10_of ml_RX10_61 (by decide) ⟨Nat.le_refl _, Nat.le_refl _, Nat.le_refl _⟩ (Nat.le_of_ble_eq_true rfl) ltk_76 shk_76 rfl ?_
  intro r2 rf m1 hrf h hr2
  refine G_iload_n (i := 2) pX10_pushed_9 rfl rfl ?_
  refine G_iadd pX10_pushed_10 ?_
  refine G_bipush pX10_pushed_11 bi_m9 ?_
  refine G_bipush pX10_pushed_13 bi_9 ?_
  refine G_callS3i pX10_pushed_15 (g_X10_within (r2 + a2) (-9 : Int32) (9 : Int32) hrf _ h) mS_X10_within ml_RX10_112 (by decide) ⟨Nat.le_refl _, Nat.le_refl _, Nat.le_refl _⟩ (Nat.le_of_ble_eq_true rfl) ?_
  intro r4 rf m3 hrf h hr4
  refine G_callV3v (b := 76) (ci := 10) (N := 29) pX10_pushed_18 (g_X10_sets a1 (3 : Int32) r4 hrf _ h) mV_X10_sets ml_RX10_83 (by decide) ⟨Nat.le_refl _, Nat.le_refl _, Nat.le_refl _⟩ (Nat.le_of_ble_eq_true rfl) ltk_76 shk_76 rfl ?_
  intro rf m5 hrf h
  refine G_aload_n (i := 0) pX10_pushed_21 rfl rfl ?_
  refine G_iload_n (i := 1) pX10_pushed_22 rfl rfl ?_
  refine G_iconst pX10_pushed_23 ic_3 ?_
  refine G_callV2i (b := 76) (ci := 10) (N := 29) pX10_pushed_24 (g_X10_of a1 (3 : Int32) hrf _ h) mV_X10_of ml_RX10_61 (by decide) ⟨Nat.le_refl _, Nat.le_refl _, Nat.le_refl _⟩ (Nat.le_of_ble_eq_true rfl) ltk_76 shk_76 rfl ?_
  intro r7 rf m6 hrf h hr7
  exact G_ireturn (len := 1) pX10_pushed_27 ⟨hrf, _, rfl, h⟩ ⟨_, rfl, rfl⟩
def L_X10_push (a1 : Int32) (a2 : Int32) (mem : MMt) (Q : Int32 → MMt → Prop) : Prop := L_X10_isGood a1 mem (fun r2 m1 => ((r2 = 0 → L_X10_error (1 : Int32) m1 (fun r5 m4 => Q r5 m4)) ∧ (¬ r2 = 0 → L_X10_isPush a2 m1 (fun r7 m6 => ((r7 = 0 → L_X10_error (1 : Int32) m6 (fun r10 m9 => Q r10 m9)) ∧ (¬ r7 = 0 → L_X10_pushed a1 a2 m6 (fun r12 m11 => Q r12 m11)))))))
set_option maxRecDepth 4000 in
theorem g_X10_push {sx : Nat × (Nat → Int32)} {rf : RFt} {Q : Int32 → MMt → Prop} (a1 : Int32) (a2 : Int32) (hrf : RFok rf) (mem : MMt) (h : L_X10_push a1 a2 mem Q) : Ct sx yX10_push cX10_push 3 (some .int) 3 [.ref 76, .int a1, .int a2] NX NX rf mem (QQi (RFok) Q) := by
  refine Ct_of [some (.ref 76), some (.int a1), some (.int a2)] (by decide +kernel) (by simp [Lof, Value.category]) rfl ?_
  unfold L_X10_push at h
  refine G_aload_n (i := 0) pX10_push_0 rfl rfl ?_
  refine G_iload_n (i := 1) pX10_push_1 rfl rfl ?_
  refine G_callV1i (b := 76) (ci := 10) (N := 29) pX10_push_2 (g_X10_isGood a1 hrf _ h) mV_X10_isGood ml_RX10_87 (by decide) ⟨Nat.le_refl _, Nat.le_refl _, Nat.le_refl _⟩ (Nat.le_of_ble_eq_true rfl) ltk_76 shk_76 rfl ?_
  intro r2 rf m1 hrf h hr2
  refine G_if_eq pX10_push_5 (fun c3 => ?_) (fun c3 => ?_)
  · have h := h.1 c3
    refine G_aload_n (i := 0) pX10_push_24 rfl rfl ?_
    refine G_iconst pX10_push_25 ic_1 ?_
    refine G_callV1i (b := 76) (ci := 10) (N := 29) pX10_push_26 (g_X10_error (1 : Int32) hrf _ h) mV_X10_error ml_RX10_79 (by decide) ⟨Nat.le_refl _, Nat.le_refl _, Nat.le_refl _⟩ (Nat.le_of_ble_eq_true rfl) ltk_76 shk_76 rfl ?_
    intro r5 rf m4 hrf h hr5
    exact G_ireturn (len := 1) pX10_push_29 ⟨hrf, _, rfl, h⟩ ⟨_, rfl, rfl⟩
  · have h := h.2 c3
    refine G_iload_n (i := 2) pX10_push_8 rfl rfl ?_
    refine G_callS1i pX10_push_9 (g_X10_isPush a2 hrf _ h) mS_X10_isPush ml_RX10_116 (by decide) ⟨Nat.le_refl _, Nat.le_refl _, Nat.le_refl _⟩ (Nat.le_of_ble_eq_true rfl) ?_
    intro r7 rf m6 hrf h hr7
    refine G_if_eq pX10_push_12 (fun c8 => ?_) (fun c8 => ?_)
    · have h := h.1 c8
      refine G_aload_n (i := 0) pX10_push_24 rfl rfl ?_
      refine G_iconst pX10_push_25 ic_1 ?_
      refine G_callV1i (b := 76) (ci := 10) (N := 29) pX10_push_26 (g_X10_error (1 : Int32) hrf _ h) mV_X10_error ml_RX10_79 (by decide) ⟨Nat.le_refl _, Nat.le_refl _, Nat.le_refl _⟩ (Nat.le_of_ble_eq_true rfl) ltk_76 shk_76 rfl ?_
      intro r10 rf m9 hrf h hr10
      exact G_ireturn (len := 1) pX10_push_29 ⟨hrf, _, rfl, h⟩ ⟨_, rfl, rfl⟩
    · have h := h.2 c8
      refine G_aload_n (i := 0) pX10_push_15 rfl rfl ?_
      refine G_iload_n (i := 1) pX10_push_16 rfl rfl ?_
      refine G_iload_n (i := 2) pX10_push_17 rfl rfl ?_
      refine G_callV2i (b := 76) (ci := 10) (N := 29) pX10_push_18 (g_X10_pushed a1 a2 hrf _ h) mV_X10_pushed ml_RX10_119 (by decide) ⟨Nat.le_refl _, Nat.le_refl _, Nat.le_refl _⟩ (Nat.le_of_ble_eq_true rfl) ltk_76 shk_76 rfl ?_
      intro r12 rf m11 hrf h hr12
      refine G_goto pX10_push_21 ?_
      exact G_ireturn (len := 1) pX10_push_29 ⟨hrf, _, rfl, h⟩ ⟨_, rfl, rfl⟩
def L_X10_off (a1 : Int32) (a2 : Int32) (a3 : Int32) (mem : MMt) (Q : Int32 → MMt → Prop) : Prop := L_X10_isGood a1 mem (fun r2 m1 => ((r2 = 0 → L_X10_error (1 : Int32) m1 (fun r5 m4 => Q r5 m4)) ∧ (¬ r2 = 0 → L_X10_isGood a2 m1 (fun r7 m6 => ((r7 = 0 → L_X10_error (1 : Int32) m6 (fun r10 m9 => Q r10 m9)) ∧ (¬ r7 = 0 → ((a1 = a2 → L_X10_error (1 : Int32) m6 (fun r13 m12 => Q r13 m12)) ∧ (¬ a1 = a2 → L_X10_isPush a3 m6 (fun r15 m14 => ((¬ r15 = 0 → L_X10_of a1 (2 : Int32) m14 (fun r18 m17 => L_X10_of a2 (2 : Int32) m17 (fun r20 m19 => ((r18 = r20 → L_X10_pushed a2 (-a3) m19 (fun r23 m22 => L_X10_pushed a1 a3 m22 (fun r25 m24 => Q r25 m24))) ∧ (¬ r18 = r20 → L_X10_error (3 : Int32) m19 (fun r27 m26 => Q r27 m26)))))) ∧ (r15 = 0 → L_X10_error (1 : Int32) m14 (fun r29 m28 => Q r29 m28))))))))))))
set_option maxRecDepth 4000 in
theorem g_X10_off {sx : Nat × (Nat → Int32)} {rf : RFt} {Q : Int32 → MMt → Prop} (a1 : Int32) (a2 : Int32) (a3 : Int32) (hrf : RFok rf) (mem : MMt) (h : L_X10_off a1 a2 a3 mem Q) : Ct sx yX10_off cX10_off 4 (some .int) 3 [.ref 76, .int a1, .int a2, .int a3] NX NX rf mem (QQi (RFok) Q) := by
  refine Ct_of [some (.ref 76), some (.int a1), some (.int a2), some (.int a3)] (by decide +kernel) (by simp [Lof, Value.category]) rfl ?_
  unfold L_X10_off at h
  refine G_aload_n (i := 0) pX10_off_0 rfl rfl ?_
  refine G_iload_n (i := 1) pX10_off_1 rfl rfl ?_
  refine G_callV1i (b := 76) (ci := 10) (N := 29) pX10_off_2 (g_X10_isGood a1 hrf _ h) mV_X10_isGood ml_RX10_87 (by decide) ⟨Nat.le_refl _, Nat.le_refl _, Nat.le_refl _⟩ (Nat.le_of_ble_eq_true rfl) ltk_76 shk_76 rfl ?_
  intro r2 rf m1 hrf h hr2
  refine G_if_eq pX10_off_5 (fun c3 => ?_) (fun c3 => ?_)
  · have h := h.1 c3
    refine G_aload_n (i := 0) pX10_off_28 rfl rfl ?_
    refine G_iconst pX10_off_29 ic_1 ?_
    refine G_callV1i (b := 76) (ci := 10) (N := 29) pX10_off_30 (g_X10_error (1 : Int32) hrf _ h) mV_X10_error ml_RX10_79 (by decide) ⟨Nat.le_refl _, Nat.le_refl _, Nat.le_refl _⟩ (Nat.le_of_ble_eq_true rfl) ltk_76 shk_76 rfl ?_
    intro r5 rf m4 hrf h hr5
    exact G_ireturn (len := 1) pX10_off_33 ⟨hrf, _, rfl, h⟩ ⟨_, rfl, rfl⟩
  · have h := h.2 c3
    refine G_aload_n (i := 0) pX10_off_8 rfl rfl ?_
    refine G_iload_n (i := 2) pX10_off_9 rfl rfl ?_
    refine G_callV1i (b := 76) (ci := 10) (N := 29) pX10_off_10 (g_X10_isGood a2 hrf _ h) mV_X10_isGood ml_RX10_87 (by decide) ⟨Nat.le_refl _, Nat.le_refl _, Nat.le_refl _⟩ (Nat.le_of_ble_eq_true rfl) ltk_76 shk_76 rfl ?_
    intro r7 rf m6 hrf h hr7
    refine G_if_eq pX10_off_13 (fun c8 => ?_) (fun c8 => ?_)
    · have h := h.1 c8
      refine G_aload_n (i := 0) pX10_off_28 rfl rfl ?_
      refine G_iconst pX10_off_29 ic_1 ?_
      refine G_callV1i (b := 76) (ci := 10) (N := 29) pX10_off_30 (g_X10_error (1 : Int32) hrf _ h) mV_X10_error ml_RX10_79 (by decide) ⟨Nat.le_refl _, Nat.le_refl _, Nat.le_refl _⟩ (Nat.le_of_ble_eq_true rfl) ltk_76 shk_76 rfl ?_
      intro r10 rf m9 hrf h hr10
      exact G_ireturn (len := 1) pX10_off_33 ⟨hrf, _, rfl, h⟩ ⟨_, rfl, rfl⟩
    · have h := h.2 c8
      refine G_iload_n (i := 1) pX10_off_16 rfl rfl ?_
      refine G_iload_n (i := 2) pX10_off_17 rfl rfl ?_
      refine G_icmp_eq pX10_off_18 (fun c11 => ?_) (fun c11 => ?_)
      · have h := h.1 c11
        refine G_aload_n (i := 0) pX10_off_28 rfl rfl ?_
        refine G_iconst pX10_off_29 ic_1 ?_
        refine G_callV1i (b := 76) (ci := 10) (N := 29) pX10_off_30 (g_X10_error (1 : Int32) hrf _ h) mV_X10_error ml_RX10_79 (by decide) ⟨Nat.le_refl _, Nat.le_refl _, Nat.le_refl _⟩ (Nat.le_of_ble_eq_true rfl) ltk_76 shk_76 rfl ?_
        intro r13 rf m12 hrf h hr13
        exact G_ireturn (len := 1) pX10_off_33 ⟨hrf, _, rfl, h⟩ ⟨_, rfl, rfl⟩
      · have h := h.2 c11
        refine G_iload_n (i := 3) pX10_off_21 rfl rfl ?_
        refine G_callS1i pX10_off_22 (g_X10_isPush a3 hrf _ h) mS_X10_isPush ml_RX10_116 (by decide) ⟨Nat.le_refl _, Nat.le_refl _, Nat.le_refl _⟩ (Nat.le_of_ble_eq_true rfl) ?_
        intro r15 rf m14 hrf h hr15
        refine G_if_ne pX10_off_25 (fun c16 => ?_) (fun c16 => ?_)
        · have h := h.1 c16
          refine G_aload_n (i := 0) pX10_off_34 rfl rfl ?_
          refine G_iload_n (i := 1) pX10_off_35 rfl rfl ?_
          refine G_iconst pX10_off_36 ic_2 ?_
          refine G_callV2i (b := 76) (ci := 10) (N := 29) pX10_off_37 (g_X10_of a1 (2 : Int32) hrf _ h) mV_X10_of ml_RX10_61 (by decide) ⟨Nat.le_refl _, Nat.le_refl _, Nat.le_refl _⟩ (Nat.le_of_ble_eq_true rfl) ltk_76 shk_76 rfl ?_
          intro r18 rf m17 hrf h hr18
          refine G_aload_n (i := 0) pX10_off_40 rfl rfl ?_
          refine G_iload_n (i := 2) pX10_off_41 rfl rfl ?_
          refine G_iconst pX10_off_42 ic_2 ?_
          refine G_callV2i (b := 76) (ci := 10) (N := 29) pX10_off_43 (g_X10_of a2 (2 : Int32) hrf _ h) mV_X10_of ml_RX10_61 (by decide) ⟨Nat.le_refl _, Nat.le_refl _, Nat.le_refl _⟩ (Nat.le_of_ble_eq_true rfl) ltk_76 shk_76 rfl ?_
          intro r20 rf m19 hrf h hr20
          refine G_icmp_eq pX10_off_46 (fun c21 => ?_) (fun c21 => ?_)
          · have h := h.1 c21
            refine G_aload_n (i := 0) pX10_off_55 rfl rfl ?_
            refine G_iload_n (i := 2) pX10_off_56 rfl rfl ?_
            refine G_iload_n (i := 3) pX10_off_57 rfl rfl ?_
            refine G_ineg pX10_off_58 ?_
            refine G_callV2i (b := 76) (ci := 10) (N := 29) pX10_off_59 (g_X10_pushed a2 (-a3) hrf _ h) mV_X10_pushed ml_RX10_119 (by decide) ⟨Nat.le_refl _, Nat.le_refl _, Nat.le_refl _⟩ (Nat.le_of_ble_eq_true rfl) ltk_76 shk_76 rfl ?_
            intro r23 rf m22 hrf h hr23
            refine G_pop pX10_off_62 rfl ?_
            refine G_aload_n (i := 0) pX10_off_63 rfl rfl ?_
            refine G_iload_n (i := 1) pX10_off_64 rfl rfl ?_
            refine G_iload_n (i := 3) pX10_off_65 rfl rfl ?_
            refine G_callV2i (b := 76) (ci := 10) (N := 29) pX10_off_66 (g_X10_pushed a1 a3 hrf _ h) mV_X10_pushed ml_RX10_119 (by decide) ⟨Nat.le_refl _, Nat.le_refl _, Nat.le_refl _⟩ (Nat.le_of_ble_eq_true rfl) ltk_76 shk_76 rfl ?_
            intro r25 rf m24 hrf h hr25
            exact G_ireturn (len := 1) pX10_off_69 ⟨hrf, _, rfl, h⟩ ⟨_, rfl, rfl⟩
          · have h := h.2 c21
            refine G_aload_n (i := 0) pX10_off_49 rfl rfl ?_
            refine G_iconst pX10_off_50 ic_3 ?_
            refine G_callV1i (b := 76) (ci := 10) (N := 29) pX10_off_51 (g_X10_error (3 : Int32) hrf _ h) mV_X10_error ml_RX10_79 (by decide) ⟨Nat.le_refl _, Nat.le_refl _, Nat.le_refl _⟩ (Nat.le_of_ble_eq_true rfl) ltk_76 shk_76 rfl ?_
            intro r27 rf m26 hrf h hr27
            exact G_ireturn (len := 1) pX10_off_54 ⟨hrf, _, rfl, h⟩ ⟨_, rfl, rfl⟩
        · have h := h.2 c16
          refine G_aload_n (i := 0) pX10_off_28 rfl rfl ?_
          refine G_iconst pX10_off_29 ic_1 ?_
          refine G_callV1i (b := 76) (ci := 10) (N := 29) pX10_off_30 (g_X10_error (1 : Int32) hrf _ h) mV_X10_error ml_RX10_79 (by decide) ⟨Nat.le_refl _, Nat.le_refl _, Nat.le_refl _⟩ (Nat.le_of_ble_eq_true rfl) ltk_76 shk_76 rfl ?_
          intro r29 rf m28 hrf h hr29
          exact G_ireturn (len := 1) pX10_off_33 ⟨hrf, _, rfl, h⟩ ⟨_, rfl, rfl⟩
def B_X10_set_40 (x1 : Int32) (x2 : Int32) (s0 : Int64) (s1 : Int64) (s2 : Int64) (mem : MMt) (Q : Int32 → MMt → Prop) : Prop := L_X10_isIn s2 s1 s0 mem (fun r2 m1 => ((¬ r2 = 0 → (vp_in ((2 : Int32) + x1) 322 ∧ (∀ v5 : Int32, v5 = m1 77 ((2 : Int32) + x1).toNatClampNeg → (vp_in ((2 : Int32) + x1) 322 ∧ ∀ m6 : MMt, m6 = up2 m1 77 ((2 : Int32) + x1).toNatClampNeg x2 → Q v5 m6)))) ∧ (r2 = 0 → L_X10_error (1 : Int32) m1 (fun r9 m8 => Q r9 m8))))
set_option maxRecDepth 4000 in
theorem gB_X10_set_40 {sx : Nat × (Nat → Int32)} {rf : RFt} {Q : Int32 → MMt → Prop} (hrf : RFok rf) (x1 : Int32) (x2 : Int32) (s0 : Int64) (s1 : Int64) (s2 : Int64) (mem : MMt) (h : B_X10_set_40 x1 x2 s0 s1 s2 mem Q) : G sx yX10_set cX10_set 4 (some .int) 2 NX NX (QQi (RFok) Q) NX rf mem 40 [some (.ref 76), some (.int x1), some (.int x2), none] [.long s0, .long s1, .long s2] := by
  unfold B_X10_set_40 at h
  refine G_callS3i pX10_set_40 (g_X10_isIn s2 s1 s0 hrf _ h) mS_X10_isIn ml_RX10_53 (by decide) ⟨Nat.le_refl _, Nat.le_refl _, Nat.le_refl _⟩ (Nat.le_of_ble_eq_true rfl) ?_
  intro r2 rf m1 hrf h hr2
  refine G_if_ne pX10_set_43 (fun c3 => ?_) (fun c3 => ?_)
  · have h := h.1 c3
    refine G_aload_n (i := 0) pX10_set_52 rfl rfl ?_
    refine G_getR (ci := 10) (j := 0) (N := 29) pX10_set_53 fl_RX10_9 rfl ltk_76 shk_76 (by decide) rfl (hrf.lit 76 0 rfl) ?_
    refine G_iconst pX10_set_56 ic_2 ?_
    refine G_iload_n (i := 1) pX10_set_57 rfl rfl ?_
    refine G_iadd pX10_set_58 ?_
    obtain ⟨hi4, h⟩ := h
    refine G_iald pX10_set_59 ltk_77 shk_77 hi4 ?_
    obtain ⟨v5, e5⟩ : ∃ z : Int32, z = m1 77 ((2 : Int32) + x1).toNatClampNeg := ⟨_, rfl⟩
    have h := h v5 e5
    refine G_istore_nW (L' := [some (.ref 76), some (.int x1), some (.int x2), some (.int v5)]) pX10_set_60 rfl e5.symm rfl ?_
    refine G_aload_n (i := 0) pX10_set_61 rfl rfl ?_
    refine G_getR (ci := 10) (j := 0) (N := 29) pX10_set_62 fl_RX10_9 rfl ltk_76 shk_76 (by decide) rfl (hrf.lit 76 0 rfl) ?_
    refine G_iconst pX10_set_65 ic_2 ?_
    refine G_iload_n (i := 1) pX10_set_66 rfl rfl ?_
    refine G_iadd pX10_set_67 ?_
    refine G_iload_n (i := 2) pX10_set_68 rfl rfl ?_
    obtain ⟨hi7, h⟩ := h
    obtain ⟨m6, em6⟩ : ∃ z : MMt, z = up2 m1 77 ((2 : Int32) + x1).toNatClampNeg x2 := ⟨_, rfl⟩
    have h := h m6 em6
    refine G_iastW pX10_set_69 ltk_77 shk_77 hi7 em6.symm ?_
    refine G_iload_n (i := 3) pX10_set_70 rfl rfl ?_
    exact G_ireturn (len := 1) pX10_set_71 ⟨hrf, _, rfl, h⟩ ⟨_, rfl, rfl⟩
  · have h := h.2 c3
    refine G_aload_n (i := 0) pX10_set_46 rfl rfl ?_
    refine G_iconst pX10_set_47 ic_1 ?_
    refine G_callV1i (b := 76) (ci := 10) (N := 29) pX10_set_48 (g_X10_error (1 : Int32) hrf _ h) mV_X10_error ml_RX10_79 (by decide) ⟨Nat.le_refl _, Nat.le_refl _, Nat.le_refl _⟩ (Nat.le_of_ble_eq_true rfl) ltk_76 shk_76 rfl ?_
    intro r9 rf m8 hrf h hr9
    exact G_ireturn (len := 1) pX10_set_51 ⟨hrf, _, rfl, h⟩ ⟨_, rfl, rfl⟩
def B_X10_set_27 (x1 : Int32) (x2 : Int32) (s0 : Int64) (s1 : Int64) (mem : MMt) (Q : Int32 → MMt → Prop) : Prop := ((¬ x1 = 0 → B_X10_set_40 x1 x2 (9 : Int64) s0 s1 mem Q) ∧ (x1 = 0 → B_X10_set_40 x1 x2 (24 : Int64) s0 s1 mem Q))
set_option maxRecDepth 4000 in
theorem gB_X10_set_27 {sx : Nat × (Nat → Int32)} {rf : RFt} {Q : Int32 → MMt → Prop} (hrf : RFok rf) (x1 : Int32) (x2 : Int32) (s0 : Int64) (s1 : Int64) (mem : MMt) (h : B_X10_set_27 x1 x2 s0 s1 mem Q) : G sx yX10_set cX10_set 4 (some .int) 2 NX NX (QQi (RFok) Q) NX rf mem 27 [some (.ref 76), some (.int x1), some (.int x2), none] [.long s0, .long s1] := by
  unfold B_X10_set_27 at h
  refine G_iload_n (i := 1) pX10_set_27 rfl rfl ?_
  refine G_if_ne pX10_set_28 (fun c1 => ?_) (fun c1 => ?_)
  · have h := h.1 c1
    refine G_ldc2 pX10_set_37 rfl wcl_RX10_59 ?_
    exact gB_X10_set_40 hrf x1 x2 (9 : Int64) s0 s1 _ h
  · have h := h.2 c1
    refine G_ldc2 pX10_set_31 rfl wcl_RX10_124 ?_
    refine G_goto pX10_set_34 ?_
    exact gB_X10_set_40 hrf x1 x2 (24 : Int64) s0 s1 _ h
def L_X10_set (a1 : Int32) (a2 : Int32) (mem : MMt) (Q : Int32 → MMt → Prop) : Prop := L_X10_isIn a1.toInt64 (0 : Int64) (2 : Int64) mem (fun r2 m1 => ((r2 = 0 → L_X10_error (1 : Int32) m1 (fun r5 m4 => Q r5 m4)) ∧ (¬ r2 = 0 → ((¬ a1 = 0 → B_X10_set_27 a1 a2 (-9 : Int64) a2.toInt64 m1 Q) ∧ (a1 = 0 → B_X10_set_27 a1 a2 (2 : Int64) a2.toInt64 m1 Q)))))
set_option maxRecDepth 4000 in
theorem g_X10_set {sx : Nat × (Nat → Int32)} {rf : RFt} {Q : Int32 → MMt → Prop} (a1 : Int32) (a2 : Int32) (hrf : RFok rf) (mem : MMt) (h : L_X10_set a1 a2 mem Q) : Ct sx yX10_set cX10_set 4 (some .int) 2 [.ref 76, .int a1, .int a2] NX NX rf mem (QQi (RFok) Q) := by
  refine Ct_of [some (.ref 76), some (.int a1), some (.int a2), none] (by decide +kernel) (by simp [Lof, Value.category]) rfl ?_
  unfold L_X10_set at h
  refine G_iload_n (i := 1) pX10_set_0 rfl rfl ?_
  refine G_i2l pX10_set_1 ?_
  refine G_lconst pX10_set_2 lc_0 ?_
  refine G_ldc2 pX10_set_3 rfl wcl_RX10_122 ?_
  refine G_callS3i pX10_set_6 (g_X10_isIn a1.toInt64 (0 : Int64) (2 : Int64) hrf _ h) mS_X10_isIn ml_RX10_53 (by decide) ⟨Nat.le_refl _, Nat.le_refl _, Nat.le_refl _⟩ (Nat.le_of_ble_eq_true rfl) ?_
  intro r2 rf m1 hrf h hr2
  refine G_if_eq pX10_set_9 (fun c3 => ?_) (fun c3 => ?_)
  · have h := h.1 c3
    refine G_aload_n (i := 0) pX10_set_46 rfl rfl ?_
    refine G_iconst pX10_set_47 ic_1 ?_
    refine G_callV1i (b := 76) (ci := 10) (N := 29) pX10_set_48 (g_X10_error (1 : Int32) hrf _ h) mV_X10_error ml_RX10_79 (by decide) ⟨Nat.le_refl _, Nat.le_refl _, Nat.le_refl _⟩ (Nat.le_of_ble_eq_true rfl) ltk_76 shk_76 rfl ?_
    intro r5 rf m4 hrf h hr5
    exact G_ireturn (len := 1) pX10_set_51 ⟨hrf, _, rfl, h⟩ ⟨_, rfl, rfl⟩
  · have h := h.2 c3
    refine G_iload_n (i := 2) pX10_set_12 rfl rfl ?_
    refine G_i2l pX10_set_13 ?_
    refine G_iload_n (i := 1) pX10_set_14 rfl rfl ?_
    refine G_if_ne pX10_set_15 (fun c6 => ?_) (fun c6 => ?_)
    · have h := h.1 c6
      refine G_ldc2 pX10_set_24 rfl wcl_RX10_57 ?_
      exact gB_X10_set_27 hrf a1 a2 (-9 : Int64) a2.toInt64 _ h
    · have h := h.2 c6
      refine G_ldc2 pX10_set_18 rfl wcl_RX10_122 ?_
      refine G_goto pX10_set_21 ?_
      exact gB_X10_set_27 hrf a1 a2 (2 : Int64) a2.toInt64 _ h
def L_X10_stands (a1 : Int32) (a2 : Int32) (a3 : Int32) (mem : MMt) (Q : Int32 → MMt → Prop) : Prop := (vp_in ((3 : Int32) + a1) 322 ∧ (¬ mem 77 2 = 0 ∧ (∀ v2 : Int32, v2 = (a2 + ((mem 77 ((3 : Int32) + a1).toNatClampNeg) * a3)) - (a2 + ((mem 77 ((3 : Int32) + a1).toNatClampNeg) * a3)) / (mem 77 2) * (mem 77 2) → ((0 ≤ v2 → Q v2 mem) ∧ (¬ 0 ≤ v2 → Q (v2 + (mem 77 2)) mem)))))
set_option maxRecDepth 4000 in
theorem g_X10_stands {sx : Nat × (Nat → Int32)} {rf : RFt} {Q : Int32 → MMt → Prop} (a1 : Int32) (a2 : Int32) (a3 : Int32) (hrf : RFok rf) (mem : MMt) (h : L_X10_stands a1 a2 a3 mem Q) : Ct sx yX10_stands cX10_stands 5 (some .int) 1 [.ref 76, .int a1, .int a2, .int a3] NX NX rf mem (QQi (RFok) Q) := by
  refine Ct_of [some (.ref 76), some (.int a1), some (.int a2), some (.int a3), none] (by decide +kernel) (by simp [Lof, Value.category]) rfl ?_
  unfold L_X10_stands at h
  refine G_iload_n (i := 2) pX10_stands_0 rfl rfl ?_
  refine G_aload_n (i := 0) pX10_stands_1 rfl rfl ?_
  refine G_getR (ci := 10) (j := 0) (N := 29) pX10_stands_2 fl_RX10_9 rfl ltk_76 shk_76 (by decide) rfl (hrf.lit 76 0 rfl) ?_
  refine G_iconst pX10_stands_5 ic_3 ?_
  refine G_iload_n (i := 1) pX10_stands_6 rfl rfl ?_
  refine G_iadd pX10_stands_7 ?_
  obtain ⟨hi1, h⟩ := h
  refine G_iald pX10_stands_8 ltk_77 shk_77 hi1 ?_
  refine G_iload_n (i := 3) pX10_stands_9 rfl rfl ?_
  refine G_imul pX10_stands_10 ?_
  refine G_iadd pX10_stands_11 ?_
  refine G_aload_n (i := 0) pX10_stands_12 rfl rfl ?_
  refine G_getR (ci := 10) (j := 0) (N := 29) pX10_stands_13 fl_RX10_9 rfl ltk_76 shk_76 (by decide) rfl (hrf.lit 76 0 rfl) ?_
  refine G_iconst pX10_stands_16 ic_2 ?_
  refine G_ialdL (j := 2) pX10_stands_17 ltk_77 shk_77 (vpl (by decide)) (by decide) ?_
  obtain ⟨hz, h⟩ := h
  refine G_irem pX10_stands_18 hz ?_
  obtain ⟨v2, e2⟩ : ∃ z : Int32, z = (a2 + ((mem 77 ((3 : Int32) + a1).toNatClampNeg) * a3)) - (a2 + ((mem 77 ((3 : Int32) + a1).toNatClampNeg) * a3)) / (mem 77 2) * (mem 77 2) := ⟨_, rfl⟩
  have h := h v2 e2
  refine G_istoreW (L' := [some (.ref 76), some (.int a1), some (.int a2), some (.int a3), some (.int v2)]) pX10_stands_19 e2.symm rfl ?_
  refine G_iload (i := 4) pX10_stands_21 rfl ?_
  refine G_if_ge pX10_stands_23 (fun c3 => ?_) (fun c3 => ?_)
  · have h := h.1 c3
    refine G_iload (i := 4) pX10_stands_38 rfl ?_
    exact G_ireturn (len := 1) pX10_stands_40 ⟨hrf, _, rfl, h⟩ ⟨_, rfl, rfl⟩
  · have h := h.2 c3
    refine G_iload (i := 4) pX10_stands_26 rfl ?_
    refine G_aload_n (i := 0) pX10_stands_28 rfl rfl ?_
    refine G_getR (ci := 10) (j := 0) (N := 29) pX10_stands_29 fl_RX10_9 rfl ltk_76 shk_76 (by decide) rfl (hrf.lit 76 0 rfl) ?_
    refine G_iconst pX10_stands_32 ic_2 ?_
    refine G_ialdL (j := 2) pX10_stands_33 ltk_77 shk_77 (vpl (by decide)) (by decide) ?_
    refine G_iadd pX10_stands_34 ?_
    refine G_goto pX10_stands_35 ?_
    exact G_ireturn (len := 1) pX10_stands_40 ⟨hrf, _, rfl, h⟩ ⟨_, rfl, rfl⟩
def L_X10_isDoor (a1 : Int32) (mem : MMt) (Q : Int32 → MMt → Prop) : Prop := L_X10_isIn a1.toInt64 (0 : Int64) (((mem 77 2) - (1 : Int32)).toInt64) mem (fun r2 m1 => Q r2 m1)
set_option maxRecDepth 4000 in
theorem g_X10_isDoor {sx : Nat × (Nat → Int32)} {rf : RFt} {Q : Int32 → MMt → Prop} (a1 : Int32) (hrf : RFok rf) (mem : MMt) (h : L_X10_isDoor a1 mem Q) : Ct sx yX10_isDoor cX10_isDoor 2 (some .boolean) 2 [.ref 76, .int a1] NX NX rf mem (QQi (RFok) Q) := by
  refine Ct_of [some (.ref 76), some (.int a1)] (by decide +kernel) (by simp [Lof, Value.category]) rfl ?_
  unfold L_X10_isDoor at h
  refine G_iload_n (i := 1) pX10_isDoor_0 rfl rfl ?_
  refine G_i2l pX10_isDoor_1 ?_
  refine G_lconst pX10_isDoor_2 lc_0 ?_
  refine G_aload_n (i := 0) pX10_isDoor_3 rfl rfl ?_
  refine G_getR (ci := 10) (j := 0) (N := 29) pX10_isDoor_4 fl_RX10_9 rfl ltk_76 shk_76 (by decide) rfl (hrf.lit 76 0 rfl) ?_
  refine G_iconst pX10_isDoor_7 ic_2 ?_
  refine G_ialdL (j := 2) pX10_isDoor_8 ltk_77 shk_77 (vpl (by decide)) (by decide) ?_
  refine G_iconst pX10_isDoor_9 ic_1 ?_
  refine G_isub pX10_isDoor_10 ?_
  refine G_i2l pX10_isDoor_11 ?_
  refine G_callS3i pX10_isDoor_12 (g_X10_isIn a1.toInt64 (0 : Int64) (((mem 77 2) - (1 : Int32)).toInt64) hrf _ h) mS_X10_isIn ml_RX10_53 (by decide) ⟨Nat.le_refl _, Nat.le_refl _, Nat.le_refl _⟩ (Nat.le_of_ble_eq_true rfl) ?_
  intro r2 rf m1 hrf h hr2
  exact G_ireturn (len := 1) pX10_isDoor_15 ⟨hrf, _, rfl, h⟩ hr2
def L_X10_door (a1 : Int32) (a2 : Int32) (mem : MMt) (Q : Int32 → MMt → Prop) : Prop := L_X10_isSide a1 mem (fun r2 m1 => ((r2 = 0 → L_X10_error (1 : Int32) m1 (fun r5 m4 => Q r5 m4)) ∧ (¬ r2 = 0 → L_X10_isDoor a2 m1 (fun r7 m6 => ((r7 = 0 → L_X10_error (1 : Int32) m6 (fun r10 m9 => Q r10 m9)) ∧ (¬ r7 = 0 → L_X10_stands a1 a2 (m6 77 0) m6 (fun r12 m11 => Q r12 m11)))))))
set_option maxRecDepth 4000 in
theorem g_X10_door {sx : Nat × (Nat → Int32)} {rf : RFt} {Q : Int32 → MMt → Prop} (a1 : Int32) (a2 : Int32) (hrf : RFok rf) (mem : MMt) (h : L_X10_door a1 a2 mem Q) : Ct sx yX10_door cX10_door 3 (some .int) 3 [.ref 76, .int a1, .int a2] NX NX rf mem (QQi (RFok) Q) := by
  refine Ct_of [some (.ref 76), some (.int a1), some (.int a2)] (by decide +kernel) (by simp [Lof, Value.category]) rfl ?_
  unfold L_X10_door at h
  refine G_iload_n (i := 1) pX10_door_0 rfl rfl ?_
  refine G_callS1i pX10_door_1 (g_X10_isSide a1 hrf _ h) mS_X10_isSide ml_RX10_126 (by decide) ⟨Nat.le_refl _, Nat.le_refl _, Nat.le_refl _⟩ (Nat.le_of_ble_eq_true rfl) ?_
  intro r2 rf m1 hrf h hr2
  refine G_if_eq pX10_door_4 (fun c3 => ?_) (fun c3 => ?_)
  · have h := h.1 c3
    refine G_aload_n (i := 0) pX10_door_30 rfl rfl ?_
    refine G_iconst pX10_door_31 ic_1 ?_
    refine G_callV1i (b := 76) (ci := 10) (N := 29) pX10_door_32 (g_X10_error (1 : Int32) hrf _ h) mV_X10_error ml_RX10_79 (by decide) ⟨Nat.le_refl _, Nat.le_refl _, Nat.le_refl _⟩ (Nat.le_of_ble_eq_true rfl) ltk_76 shk_76 rfl ?_
    intro r5 rf m4 hrf h hr5
    exact G_ireturn (len := 1) pX10_door_35 ⟨hrf, _, rfl, h⟩ ⟨_, rfl, rfl⟩
  · have h := h.2 c3
    refine G_aload_n (i := 0) pX10_door_7 rfl rfl ?_
    refine G_iload_n (i := 2) pX10_door_8 rfl rfl ?_
    refine G_callV1i (b := 76) (ci := 10) (N := 29) pX10_door_9 (g_X10_isDoor a2 hrf _ h) mV_X10_isDoor ml_RX10_129 (by decide) ⟨Nat.le_refl _, Nat.le_refl _, Nat.le_refl _⟩ (Nat.le_of_ble_eq_true rfl) ltk_76 shk_76 rfl ?_
    intro r7 rf m6 hrf h hr7
    refine G_if_eq pX10_door_12 (fun c8 => ?_) (fun c8 => ?_)
    · have h := h.1 c8
      refine G_aload_n (i := 0) pX10_door_30 rfl rfl ?_
      refine G_iconst pX10_door_31 ic_1 ?_
      refine G_callV1i (b := 76) (ci := 10) (N := 29) pX10_door_32 (g_X10_error (1 : Int32) hrf _ h) mV_X10_error ml_RX10_79 (by decide) ⟨Nat.le_refl _, Nat.le_refl _, Nat.le_refl _⟩ (Nat.le_of_ble_eq_true rfl) ltk_76 shk_76 rfl ?_
      intro r10 rf m9 hrf h hr10
      exact G_ireturn (len := 1) pX10_door_35 ⟨hrf, _, rfl, h⟩ ⟨_, rfl, rfl⟩
    · have h := h.2 c8
      refine G_aload_n (i := 0) pX10_door_15 rfl rfl ?_
      refine G_iload_n (i := 1) pX10_door_16 rfl rfl ?_
      refine G_iload_n (i := 2) pX10_door_17 rfl rfl ?_
      refine G_aload_n (i := 0) pX10_door_18 rfl rfl ?_
      refine G_getR (ci := 10) (j := 0) (N := 29) pX10_door_19 fl_RX10_9 rfl ltk_76 shk_76 (by decide) rfl (hrf.lit 76 0 rfl) ?_
      refine G_iconst pX10_door_22 ic_0 ?_
      refine G_ialdL (j := 0) pX10_door_23 ltk_77 shk_77 (vpl (by decide)) (by decide) ?_
      refine G_callV3i (b := 76) (ci := 10) (N := 29) pX10_door_24 (g_X10_stands a1 a2 (m6 77 0) hrf _ h) mV_X10_stands ml_RX10_132 (by decide) ⟨Nat.le_refl _, Nat.le_refl _, Nat.le_refl _⟩ (Nat.le_of_ble_eq_true rfl) ltk_76 shk_76 rfl ?_
      intro r12 rf m11 hrf h hr12
      refine G_goto pX10_door_27 ?_
      exact G_ireturn (len := 1) pX10_door_35 ⟨hrf, _, rfl, h⟩ ⟨_, rfl, rfl⟩
def B_X10_lineUp_24 (x1 : Int32) (x2 : Int32) (x3 : Int32) (mem : MMt) (Q : Int32 → MMt → Prop) : Prop := LOOP (σ := Int32 × MMt) (fun X24 z => (fun (x3 : Int32) (mem : MMt) => (((mem 77 2) ≤ x3 → L_X10_error (2 : Int32) mem (fun r3 m2 => Q r3 m2)) ∧ (¬ (mem 77 2) ≤ x3 → L_X10_stands (0 : Int32) x1 ((mem 77 0) + x3) mem (fun r5 m4 => L_X10_stands (1 : Int32) x2 ((m4 77 0) + x3) m4 (fun r7 m6 => ((¬ r5 = r7 → (∀ v9 : Int32, v9 = x3 + (1 : Int32) → X24 (v9, m6))) ∧ (r5 = r7 → Q x3 m6))))))) z.1 z.2) (x3, mem)
set_option maxRecDepth 4000 in
theorem gB_X10_lineUp_24 {sx : Nat × (Nat → Int32)} {rf : RFt} {Q : Int32 → MMt → Prop} (hrf : RFok rf) (x1 : Int32) (x2 : Int32) (x3 : Int32) (mem : MMt) (h : B_X10_lineUp_24 x1 x2 x3 mem Q) : G sx yX10_lineUp cX10_lineUp 4 (some .int) 3 NX NX (QQi (RFok) Q) NX rf mem 24 [some (.ref 76), some (.int x1), some (.int x2), some (.int x3)] [] := by
  obtain ⟨I, ⟨n, h0⟩, hI⟩ := h
  have key : ∀ (n : Nat) (rf : RFt) (x3 : Int32) (mem : MMt), RFok rf → I n (x3, mem) → G sx yX10_lineUp cX10_lineUp 4 (some .int) 3 NX NX (QQi (RFok) Q) NX rf mem 24 [some (.ref 76), some (.int x1), some (.int x2), some (.int x3)] [] := by
    intro n
    induction n using Nat.strongRecOn with
    | _ n ih =>
    intro rf x3 mem hrf h0
    have hX24 : ∀ (rf : RFt) (x3 : Int32) (mem : MMt), RFok rf → (fun s' => ∃ m, m < n ∧ I m s') (x3, mem) → G sx yX10_lineUp cX10_lineUp 4 (some .int) 3 NX NX (QQi (RFok) Q) NX rf mem 24 [some (.ref 76), some (.int x1), some (.int x2), some (.int x3)] [] := fun rf x3 mem hrf ⟨m, hm, hi⟩ => ih m hm rf x3 mem hrf hi
    have h := hI n _ h0
    clear ih h0
    try dsimp only at h
    refine G_iload_n (i := 3) pX10_lineUp_24 rfl rfl ?_
    refine G_aload_n (i := 0) pX10_lineUp_25 rfl rfl ?_
    refine G_getR (ci := 10) (j := 0) (N := 29) pX10_lineUp_26 fl_RX10_9 rfl ltk_76 shk_76 (by decide) rfl (hrf.lit 76 0 rfl) ?_
    refine G_iconst pX10_lineUp_29 ic_2 ?_
    refine G_ialdL (j := 2) pX10_lineUp_30 ltk_77 shk_77 (vpl (by decide)) (by decide) ?_
    refine G_icmp_ge pX10_lineUp_31 (fun c1 => ?_) (fun c1 => ?_)
    · have h := h.1 c1
      refine G_aload_n (i := 0) pX10_lineUp_73 rfl rfl ?_
      refine G_iconst pX10_lineUp_74 ic_2 ?_
      refine G_callV1i (b := 76) (ci := 10) (N := 29) pX10_lineUp_75 (g_X10_error (2 : Int32) hrf _ h) mV_X10_error ml_RX10_79 (by decide) ⟨Nat.le_refl _, Nat.le_refl _, Nat.le_refl _⟩ (Nat.le_of_ble_eq_true rfl) ltk_76 shk_76 rfl ?_
      intro r3 rf m2 hrf h hr3
      exact G_ireturn (len := 1) pX10_lineUp_78 ⟨hrf, _, rfl, h⟩ ⟨_, rfl, rfl⟩
    · have h := h.2 c1
      refine G_aload_n (i := 0) pX10_lineUp_34 rfl rfl ?_
      refine G_iconst pX10_lineUp_35 ic_0 ?_
      refine G_iload_n (i := 1) pX10_lineUp_36 rfl rfl ?_
      refine G_aload_n (i := 0) pX10_lineUp_37 rfl rfl ?_
      refine G_getR (ci := 10) (j := 0) (N := 29) pX10_lineUp_38 fl_RX10_9 rfl ltk_76 shk_76 (by decide) rfl (hrf.lit 76 0 rfl) ?_
      refine G_iconst pX10_lineUp_41 ic_0 ?_
      refine G_ialdL (j := 0) pX10_lineUp_42 ltk_77 shk_77 (vpl (by decide)) (by decide) ?_
      refine G_iload_n (i := 3) pX10_lineUp_43 rfl rfl ?_
      refine G_iadd pX10_lineUp_44 ?_
      refine G_callV3i (b := 76) (ci := 10) (N := 29) pX10_lineUp_45 (g_X10_stands (0 : Int32) x1 ((mem 77 0) + x3) hrf _ h) mV_X10_stands ml_RX10_132 (by decide) ⟨Nat.le_refl _, Nat.le_refl _, Nat.le_refl _⟩ (Nat.le_of_ble_eq_true rfl) ltk_76 shk_76 rfl ?_
      intro r5 rf m4 hrf h hr5
      refine G_aload_n (i := 0) pX10_lineUp_48 rfl rfl ?_
      refine G_iconst pX10_lineUp_49 ic_1 ?_
      refine G_iload_n (i := 2) pX10_lineUp_50 rfl rfl ?_
      refine G_aload_n (i := 0) pX10_lineUp_51 rfl rfl ?_
      refine G_getR (ci := 10) (j := 0) (N := 29) pX10_lineUp_52 fl_RX10_9 rfl ltk_76 shk_76 (by decide) rfl (hrf.lit 76 0 rfl) ?_
      refine G_iconst pX10_lineUp_55 ic_0 ?_
      refine G_ialdL (j := 0) pX10_lineUp_56 ltk_77 shk_77 (vpl (by decide)) (by decide) ?_
      refine G_iload_n (i := 3) pX10_lineUp_57 rfl rfl ?_
      refine G_iadd pX10_lineUp_58 ?_
      refine G_callV3i (b := 76) (ci := 10) (N := 29) pX10_lineUp_59 (g_X10_stands (1 : Int32) x2 ((m4 77 0) + x3) hrf _ h) mV_X10_stands ml_RX10_132 (by decide) ⟨Nat.le_refl _, Nat.le_refl _, Nat.le_refl _⟩ (Nat.le_of_ble_eq_true rfl) ltk_76 shk_76 rfl ?_
      intro r7 rf m6 hrf h hr7
      refine G_icmp_ne pX10_lineUp_62 (fun c8 => ?_) (fun c8 => ?_)
      · have h := h.1 c8
        obtain ⟨v9, e9⟩ : ∃ z : Int32, z = x3 + (1 : Int32) := ⟨_, rfl⟩
        have h := h v9 e9
        refine G_iincW (L' := [some (.ref 76), some (.int x1), some (.int x2), some (.int v9)]) pX10_lineUp_67 rfl ic_1 e9.symm rfl ?_
        refine G_goto pX10_lineUp_70 ?_
        exact hX24 _ _ _ hrf h
      · have h := h.2 c8
        refine G_iload_n (i := 3) pX10_lineUp_65 rfl rfl ?_
        exact G_ireturn (len := 1) pX10_lineUp_66 ⟨hrf, _, rfl, h⟩ ⟨_, rfl, rfl⟩
  exact key n rf _ _ hrf h0
def L_X10_lineUp (a1 : Int32) (a2 : Int32) (mem : MMt) (Q : Int32 → MMt → Prop) : Prop := L_X10_isDoor a1 mem (fun r2 m1 => ((r2 = 0 → L_X10_error (1 : Int32) m1 (fun r5 m4 => Q r5 m4)) ∧ (¬ r2 = 0 → L_X10_isDoor a2 m1 (fun r7 m6 => ((¬ r7 = 0 → B_X10_lineUp_24 a1 a2 (0 : Int32) m6 Q) ∧ (r7 = 0 → L_X10_error (1 : Int32) m6 (fun r10 m9 => Q r10 m9)))))))
set_option maxRecDepth 4000 in
theorem g_X10_lineUp {sx : Nat × (Nat → Int32)} {rf : RFt} {Q : Int32 → MMt → Prop} (a1 : Int32) (a2 : Int32) (hrf : RFok rf) (mem : MMt) (h : L_X10_lineUp a1 a2 mem Q) : Ct sx yX10_lineUp cX10_lineUp 4 (some .int) 3 [.ref 76, .int a1, .int a2] NX NX rf mem (QQi (RFok) Q) := by
  refine Ct_of [some (.ref 76), some (.int a1), some (.int a2), none] (by decide +kernel) (by simp [Lof, Value.category]) rfl ?_
  unfold L_X10_lineUp at h
  refine G_aload_n (i := 0) pX10_lineUp_0 rfl rfl ?_
  refine G_iload_n (i := 1) pX10_lineUp_1 rfl rfl ?_
  refine G_callV1i (b := 76) (ci := 10) (N := 29) pX10_lineUp_2 (g_X10_isDoor a1 hrf _ h) mV_X10_isDoor ml_RX10_129 (by decide) ⟨Nat.le_refl _, Nat.le_refl _, Nat.le_refl _⟩ (Nat.le_of_ble_eq_true rfl) ltk_76 shk_76 rfl ?_
  intro r2 rf m1 hrf h hr2
  refine G_if_eq pX10_lineUp_5 (fun c3 => ?_) (fun c3 => ?_)
  · have h := h.1 c3
    refine G_aload_n (i := 0) pX10_lineUp_16 rfl rfl ?_
    refine G_iconst pX10_lineUp_17 ic_1 ?_
    refine G_callV1i (b := 76) (ci := 10) (N := 29) pX10_lineUp_18 (g_X10_error (1 : Int32) hrf _ h) mV_X10_error ml_RX10_79 (by decide) ⟨Nat.le_refl _, Nat.le_refl _, Nat.le_refl _⟩ (Nat.le_of_ble_eq_true rfl) ltk_76 shk_76 rfl ?_
    intro r5 rf m4 hrf h hr5
    exact G_ireturn (len := 1) pX10_lineUp_21 ⟨hrf, _, rfl, h⟩ ⟨_, rfl, rfl⟩
  · have h := h.2 c3
    refine G_aload_n (i := 0) pX10_lineUp_8 rfl rfl ?_
    refine G_iload_n (i := 2) pX10_lineUp_9 rfl rfl ?_
    refine G_callV1i (b := 76) (ci := 10) (N := 29) pX10_lineUp_10 (g_X10_isDoor a2 hrf _ h) mV_X10_isDoor ml_RX10_129 (by decide) ⟨Nat.le_refl _, Nat.le_refl _, Nat.le_refl _⟩ (Nat.le_of_ble_eq_true rfl) ltk_76 shk_76 rfl ?_
    intro r7 rf m6 hrf h hr7
    refine G_if_ne pX10_lineUp_13 (fun c8 => ?_) (fun c8 => ?_)
    · have h := h.1 c8
      refine G_iconst pX10_lineUp_22 ic_0 ?_
      refine G_istore_n (i := 3) (L' := [some (.ref 76), some (.int a1), some (.int a2), some (.int (0 : Int32))]) pX10_lineUp_23 rfl rfl ?_
      exact gB_X10_lineUp_24 hrf a1 a2 (0 : Int32) _ h
    · have h := h.2 c8
      refine G_aload_n (i := 0) pX10_lineUp_16 rfl rfl ?_
      refine G_iconst pX10_lineUp_17 ic_1 ?_
      refine G_callV1i (b := 76) (ci := 10) (N := 29) pX10_lineUp_18 (g_X10_error (1 : Int32) hrf _ h) mV_X10_error ml_RX10_79 (by decide) ⟨Nat.le_refl _, Nat.le_refl _, Nat.le_refl _⟩ (Nat.le_of_ble_eq_true rfl) ltk_76 shk_76 rfl ?_
      intro r10 rf m9 hrf h hr10
      exact G_ireturn (len := 1) pX10_lineUp_21 ⟨hrf, _, rfl, h⟩ ⟨_, rfl, rfl⟩
def B_X10_feed_41 (x1 : Int64) (x3 : Int32) (x4 : Int32) (mem : MMt) (Q : Int32 → MMt → Prop) : Prop := LOOP (σ := Int32 × MMt) (fun X41 z => (fun (x4 : Int32) (mem : MMt) => ((x3 ≤ x4 → Q (mem 77 7) mem) ∧ (¬ x3 ≤ x4 → (vp_in ((50 : Int32) + (mem 77 7)) 322 ∧ ∀ m2 : MMt, m2 = up2 mem 77 ((50 : Int32) + (mem 77 7)).toNatClampNeg (((x1 >>> (((8 : Int32) * x4).toInt64 &&& 63)) &&& (255 : Int64)).toInt32) → (∀ m4 : MMt, m4 = up2 m2 77 7 ((m2 77 7) + (1 : Int32)) → (∀ v5 : Int32, v5 = x4 + (1 : Int32) → X41 (v5, m4))))))) z.1 z.2) (x4, mem)
set_option maxRecDepth 4000 in
theorem gB_X10_feed_41 {sx : Nat × (Nat → Int32)} {rf : RFt} {Q : Int32 → MMt → Prop} (hrf : RFok rf) (x1 : Int64) (x3 : Int32) (x4 : Int32) (mem : MMt) (h : B_X10_feed_41 x1 x3 x4 mem Q) : G sx yX10_feed cX10_feed 5 (some .int) 2 NX NX (QQi (RFok) Q) NX rf mem 41 [some (.ref 76), some (.long x1), none, some (.int x3), some (.int x4)] [] := by
  obtain ⟨I, ⟨n, h0⟩, hI⟩ := h
  have key : ∀ (n : Nat) (rf : RFt) (x4 : Int32) (mem : MMt), RFok rf → I n (x4, mem) → G sx yX10_feed cX10_feed 5 (some .int) 2 NX NX (QQi (RFok) Q) NX rf mem 41 [some (.ref 76), some (.long x1), none, some (.int x3), some (.int x4)] [] := by
    intro n
    induction n using Nat.strongRecOn with
    | _ n ih =>
    intro rf x4 mem hrf h0
    have hX41 : ∀ (rf : RFt) (x4 : Int32) (mem : MMt), RFok rf → (fun s' => ∃ m, m < n ∧ I m s') (x4, mem) → G sx yX10_feed cX10_feed 5 (some .int) 2 NX NX (QQi (RFok) Q) NX rf mem 41 [some (.ref 76), some (.long x1), none, some (.int x3), some (.int x4)] [] := fun rf x4 mem hrf ⟨m, hm, hi⟩ => ih m hm rf x4 mem hrf hi
    have h := hI n _ h0
    clear ih h0
    try dsimp only at h
    refine G_iload (i := 4) pX10_feed_41 rfl ?_
    refine G_iload_n (i := 3) pX10_feed_43 rfl rfl ?_
    refine G_icmp_ge pX10_feed_44 (fun c1 => ?_) (fun c1 => ?_)
    · have h := h.1 c1
      refine G_aload_n (i := 0) pX10_feed_91 rfl rfl ?_
      refine G_getR (ci := 10) (j := 0) (N := 29) pX10_feed_92 fl_RX10_9 rfl ltk_76 shk_76 (by decide) rfl (hrf.lit 76 0 rfl) ?_
      refine G_bipush pX10_feed_95 bi_7 ?_
      refine G_ialdL (j := 7) pX10_feed_97 ltk_77 shk_77 (vpl (by decide)) (by decide) ?_
      exact G_ireturn (len := 1) pX10_feed_98 ⟨hrf, _, rfl, h⟩ ⟨_, rfl, rfl⟩
    · have h := h.2 c1
      refine G_aload_n (i := 0) pX10_feed_47 rfl rfl ?_
      refine G_getR (ci := 10) (j := 0) (N := 29) pX10_feed_48 fl_RX10_9 rfl ltk_76 shk_76 (by decide) rfl (hrf.lit 76 0 rfl) ?_
      refine G_bipush pX10_feed_51 bi_50 ?_
      refine G_aload_n (i := 0) pX10_feed_53 rfl rfl ?_
      refine G_getR (ci := 10) (j := 0) (N := 29) pX10_feed_54 fl_RX10_9 rfl ltk_76 shk_76 (by decide) rfl (hrf.lit 76 0 rfl) ?_
      refine G_bipush pX10_feed_57 bi_7 ?_
      refine G_ialdL (j := 7) pX10_feed_59 ltk_77 shk_77 (vpl (by decide)) (by decide) ?_
      refine G_iadd pX10_feed_60 ?_
      refine G_lload_n (i := 1) pX10_feed_61 rfl rfl ?_
      refine G_bipush pX10_feed_62 bi_8 ?_
      refine G_iload (i := 4) pX10_feed_64 rfl ?_
      refine G_imul pX10_feed_66 ?_
      refine G_lshr pX10_feed_67 ?_
      refine G_ldc2 pX10_feed_68 rfl wcl_RX10_137 ?_
      refine G_land pX10_feed_71 ?_
      refine G_l2i pX10_feed_72 ?_
      obtain ⟨hi3, h⟩ := h
      obtain ⟨m2, em2⟩ : ∃ z : MMt, z = up2 mem 77 ((50 : Int32) + (mem 77 7)).toNatClampNeg (((x1 >>> (((8 : Int32) * x4).toInt64 &&& 63)) &&& (255 : Int64)).toInt32) := ⟨_, rfl⟩
      have h := h m2 em2
      refine G_iastW pX10_feed_73 ltk_77 shk_77 hi3 em2.symm ?_
      refine G_aload_n (i := 0) pX10_feed_74 rfl rfl ?_
      refine G_getR (ci := 10) (j := 0) (N := 29) pX10_feed_75 fl_RX10_9 rfl ltk_76 shk_76 (by decide) rfl (hrf.lit 76 0 rfl) ?_
      refine G_bipush pX10_feed_78 bi_7 ?_
      refine G_dup2 pX10_feed_80 rfl rfl ?_
      refine G_ialdL (j := 7) pX10_feed_81 ltk_77 shk_77 (vpl (by decide)) (by decide) ?_
      refine G_iconst pX10_feed_82 ic_1 ?_
      refine G_iadd pX10_feed_83 ?_
      obtain ⟨m4, em4⟩ : ∃ z : MMt, z = up2 m2 77 7 ((m2 77 7) + (1 : Int32)) := ⟨_, rfl⟩
      have h := h m4 em4
      refine G_iastL (j := 7) pX10_feed_84 ltk_77 shk_77 (vpl (by decide)) (by decide) em4.symm ?_
      obtain ⟨v5, e5⟩ : ∃ z : Int32, z = x4 + (1 : Int32) := ⟨_, rfl⟩
      have h := h v5 e5
      refine G_iincW (L' := [some (.ref 76), some (.long x1), none, some (.int x3), some (.int v5)]) pX10_feed_85 rfl ic_1 e5.symm rfl ?_
      refine G_goto pX10_feed_88 ?_
      exact hX41 _ _ _ hrf h
  exact key n rf _ _ hrf h0
def L_X10_feed (a1 : Int64) (a2 : Int32) (mem : MMt) (Q : Int32 → MMt → Prop) : Prop := L_X10_isIn a2.toInt64 (1 : Int64) (8 : Int64) mem (fun r2 m1 => ((¬ r2 = 0 → ((((m1 77 7) + a2) ≤ (50 : Int32) → B_X10_feed_41 a1 a2 (0 : Int32) m1 Q) ∧ (¬ ((m1 77 7) + a2) ≤ (50 : Int32) → L_X10_error (4 : Int32) m1 (fun r6 m5 => Q r6 m5)))) ∧ (r2 = 0 → L_X10_error (1 : Int32) m1 (fun r8 m7 => Q r8 m7))))
set_option maxRecDepth 4000 in
theorem g_X10_feed {sx : Nat × (Nat → Int32)} {rf : RFt} {Q : Int32 → MMt → Prop} (a1 : Int64) (a2 : Int32) (hrf : RFok rf) (mem : MMt) (h : L_X10_feed a1 a2 mem Q) : Ct sx yX10_feed cX10_feed 5 (some .int) 2 [.ref 76, .long a1, .int a2] NX NX rf mem (QQi (RFok) Q) := by
  refine Ct_of [some (.ref 76), some (.long a1), none, some (.int a2), none] (by decide +kernel) (by simp [Lof, Value.category]) rfl ?_
  unfold L_X10_feed at h
  refine G_iload_n (i := 3) pX10_feed_0 rfl rfl ?_
  refine G_i2l pX10_feed_1 ?_
  refine G_lconst pX10_feed_2 lc_1 ?_
  refine G_ldc2 pX10_feed_3 rfl wcl_RX10_135 ?_
  refine G_callS3i pX10_feed_6 (g_X10_isIn a2.toInt64 (1 : Int64) (8 : Int64) hrf _ h) mS_X10_isIn ml_RX10_53 (by decide) ⟨Nat.le_refl _, Nat.le_refl _, Nat.le_refl _⟩ (Nat.le_of_ble_eq_true rfl) ?_
  intro r2 rf m1 hrf h hr2
  refine G_if_ne pX10_feed_9 (fun c3 => ?_) (fun c3 => ?_)
  · have h := h.1 c3
    refine G_aload_n (i := 0) pX10_feed_18 rfl rfl ?_
    refine G_getR (ci := 10) (j := 0) (N := 29) pX10_feed_19 fl_RX10_9 rfl ltk_76 shk_76 (by decide) rfl (hrf.lit 76 0 rfl) ?_
    refine G_bipush pX10_feed_22 bi_7 ?_
    refine G_ialdL (j := 7) pX10_feed_24 ltk_77 shk_77 (vpl (by decide)) (by decide) ?_
    refine G_iload_n (i := 3) pX10_feed_25 rfl rfl ?_
    refine G_iadd pX10_feed_26 ?_
    refine G_bipush pX10_feed_27 bi_50 ?_
    refine G_icmp_le pX10_feed_29 (fun c4 => ?_) (fun c4 => ?_)
    · have h := h.1 c4
      refine G_iconst pX10_feed_38 ic_0 ?_
      refine G_istore (i := 4) (L' := [some (.ref 76), some (.long a1), none, some (.int a2), some (.int (0 : Int32))]) pX10_feed_39 rfl ?_
      exact gB_X10_feed_41 hrf a1 a2 (0 : Int32) _ h
    · have h := h.2 c4
      refine G_aload_n (i := 0) pX10_feed_32 rfl rfl ?_
      refine G_iconst pX10_feed_33 ic_4 ?_
      refine G_callV1i (b := 76) (ci := 10) (N := 29) pX10_feed_34 (g_X10_error (4 : Int32) hrf _ h) mV_X10_error ml_RX10_79 (by decide) ⟨Nat.le_refl _, Nat.le_refl _, Nat.le_refl _⟩ (Nat.le_of_ble_eq_true rfl) ltk_76 shk_76 rfl ?_
      intro r6 rf m5 hrf h hr6
      exact G_ireturn (len := 1) pX10_feed_37 ⟨hrf, _, rfl, h⟩ ⟨_, rfl, rfl⟩
  · have h := h.2 c3
    refine G_aload_n (i := 0) pX10_feed_12 rfl rfl ?_
    refine G_iconst pX10_feed_13 ic_1 ?_
    refine G_callV1i (b := 76) (ci := 10) (N := 29) pX10_feed_14 (g_X10_error (1 : Int32) hrf _ h) mV_X10_error ml_RX10_79 (by decide) ⟨Nat.le_refl _, Nat.le_refl _, Nat.le_refl _⟩ (Nat.le_of_ble_eq_true rfl) ltk_76 shk_76 rfl ?_
    intro r8 rf m7 hrf h hr8
    exact G_ireturn (len := 1) pX10_feed_17 ⟨hrf, _, rfl, h⟩ ⟨_, rfl, rfl⟩
def L_X10_here (mem : MMt) (Q : Int32 → MMt → Prop) : Prop := (((mem 77 7) ≤ (mem 76 5) → Q (-1 : Int32) mem) ∧ (¬ (mem 77 7) ≤ (mem 76 5) → (vp_in ((50 : Int32) + (mem 76 5)) 322 ∧ Q (mem 77 ((50 : Int32) + (mem 76 5)).toNatClampNeg) mem)))
set_option maxRecDepth 4000 in
theorem g_X10_here {sx : Nat × (Nat → Int32)} {rf : RFt} {Q : Int32 → MMt → Prop} (hrf : RFok rf) (mem : MMt) (h : L_X10_here mem Q) : Ct sx yX10_here cX10_here 1 (some .int) 1 [.ref 76] NX NX rf mem (QQi (RFok) Q) := by
  refine Ct_of [some (.ref 76)] (by decide +kernel) (by simp [Lof, Value.category]) rfl ?_
  unfold L_X10_here at h
  refine G_aload_n (i := 0) pX10_here_0 rfl rfl ?_
  refine G_getI (ci := 10) (j := 5) (N := 29) pX10_here_1 fl_RX10_139 rfl ltk_76 shk_76 (by decide) rfl ?_
  refine G_aload_n (i := 0) pX10_here_4 rfl rfl ?_
  refine G_getR (ci := 10) (j := 0) (N := 29) pX10_here_5 fl_RX10_9 rfl ltk_76 shk_76 (by decide) rfl (hrf.lit 76 0 rfl) ?_
  refine G_bipush pX10_here_8 bi_7 ?_
  refine G_ialdL (j := 7) pX10_here_10 ltk_77 shk_77 (vpl (by decide)) (by decide) ?_
  refine G_icmp_ge pX10_here_11 (fun c1 => ?_) (fun c1 => ?_)
  · have h := h.1 c1
    refine G_iconst pX10_here_29 ic_m1 ?_
    exact G_ireturn (len := 1) pX10_here_30 ⟨hrf, _, rfl, h⟩ ⟨_, rfl, rfl⟩
  · have h := h.2 c1
    refine G_aload_n (i := 0) pX10_here_14 rfl rfl ?_
    refine G_getR (ci := 10) (j := 0) (N := 29) pX10_here_15 fl_RX10_9 rfl ltk_76 shk_76 (by decide) rfl (hrf.lit 76 0 rfl) ?_
    refine G_bipush pX10_here_18 bi_50 ?_
    refine G_aload_n (i := 0) pX10_here_20 rfl rfl ?_
    refine G_getI (ci := 10) (j := 5) (N := 29) pX10_here_21 fl_RX10_139 rfl ltk_76 shk_76 (by decide) rfl ?_
    refine G_iadd pX10_here_24 ?_
    obtain ⟨hi2, h⟩ := h
    refine G_iald pX10_here_25 ltk_77 shk_77 hi2 ?_
    refine G_goto pX10_here_26 ?_
    exact G_ireturn (len := 1) pX10_here_30 ⟨hrf, _, rfl, h⟩ ⟨_, rfl, rfl⟩
def L_X10_takes (a1 : Int32) (mem : MMt) (Q : Int32 → MMt → Prop) : Prop := L_X10_here mem (fun r2 m1 => ((r2 = a1 → (∀ m4 : MMt, m4 = up2 m1 76 5 ((m1 76 5) + (1 : Int32)) → Q (1 : Int32) m4)) ∧ (¬ r2 = a1 → Q (0 : Int32) m1)))
set_option maxRecDepth 4000 in
theorem g_X10_takes {sx : Nat × (Nat → Int32)} {rf : RFt} {Q : Int32 → MMt → Prop} (a1 : Int32) (hrf : RFok rf) (mem : MMt) (h : L_X10_takes a1 mem Q) : Ct sx yX10_takes cX10_takes 2 (some .boolean) 2 [.ref 76, .int a1] NX NX rf mem (QQi (RFok) Q) := by
  refine Ct_of [some (.ref 76), some (.int a1)] (by decide +kernel) (by simp [Lof, Value.category]) rfl ?_
  unfold L_X10_takes at h
  refine G_aload_n (i := 0) pX10_takes_0 rfl rfl ?_
  refine G_callV0i (b := 76) (ci := 10) (N := 29) pX10_takes_1 (g_X10_here hrf _ h) mV_X10_here ml_RX10_143 (by decide) ⟨Nat.le_refl _, Nat.le_refl _, Nat.le_refl _⟩ (Nat.le_of_ble_eq_true rfl) ltk_76 shk_76 rfl ?_
  intro r2 rf m1 hrf h hr2
  refine G_iload_n (i := 1) pX10_takes_4 rfl rfl ?_
  refine G_icmp_eq pX10_takes_5 (fun c3 => ?_) (fun c3 => ?_)
  · have h := h.1 c3
    refine G_aload_n (i := 0) pX10_takes_10 rfl rfl ?_
    refine G_dup pX10_takes_11 rfl ?_
    refine G_getI (ci := 10) (j := 5) (N := 29) pX10_takes_12 fl_RX10_139 rfl ltk_76 shk_76 (by decide) rfl ?_
    refine G_iconst pX10_takes_15 ic_1 ?_
    refine G_iadd pX10_takes_16 ?_
    obtain ⟨m4, em4⟩ : ∃ z : MMt, z = up2 m1 76 5 ((m1 76 5) + (1 : Int32)) := ⟨_, rfl⟩
    have h := h m4 em4
    refine G_putIW (ci := 10) (j := 5) (N := 29) pX10_takes_17 fw_RX10_139 rfl ltk_76 shk_76 (by decide) rfl (fun _ => ⟨rfl, rfl⟩) em4.symm ?_
    refine G_iconst pX10_takes_20 ic_1 ?_
    exact G_ireturn (len := 1) pX10_takes_21 ⟨hrf, _, rfl, h⟩ ⟨_, rfl, rfl⟩
  · have h := h.2 c3
    refine G_iconst pX10_takes_8 ic_0 ?_
    exact G_ireturn (len := 1) pX10_takes_9 ⟨hrf, _, rfl, h⟩ ⟨_, rfl, rfl⟩
def L_X10_isDigit (mem : MMt) (Q : Int32 → MMt → Prop) : Prop := L_X10_here mem (fun r2 m1 => L_X10_isIn r2.toInt64 (48 : Int64) (57 : Int64) m1 (fun r4 m3 => Q r4 m3))
set_option maxRecDepth 4000 in
theorem g_X10_isDigit {sx : Nat × (Nat → Int32)} {rf : RFt} {Q : Int32 → MMt → Prop} (hrf : RFok rf) (mem : MMt) (h : L_X10_isDigit mem Q) : Ct sx yX10_isDigit cX10_isDigit 1 (some .boolean) 2 [.ref 76] NX NX rf mem (QQi (RFok) Q) := by
  refine Ct_of [some (.ref 76)] (by decide +kernel) (by simp [Lof, Value.category]) rfl ?_
  unfold L_X10_isDigit at h
  refine G_aload_n (i := 0) pX10_isDigit_0 rfl rfl ?_
  refine G_callV0i (b := 76) (ci := 10) (N := 29) pX10_isDigit_1 (g_X10_here hrf _ h) mV_X10_here ml_RX10_143 (by decide) ⟨Nat.le_refl _, Nat.le_refl _, Nat.le_refl _⟩ (Nat.le_of_ble_eq_true rfl) ltk_76 shk_76 rfl ?_
  intro r2 rf m1 hrf h hr2
  refine G_i2l pX10_isDigit_4 ?_
  refine G_ldc2 pX10_isDigit_5 rfl wcl_RX10_147 ?_
  refine G_ldc2 pX10_isDigit_8 rfl wcl_RX10_149 ?_
  refine G_callS3i pX10_isDigit_11 (g_X10_isIn r2.toInt64 (48 : Int64) (57 : Int64) hrf _ h) mS_X10_isIn ml_RX10_53 (by decide) ⟨Nat.le_refl _, Nat.le_refl _, Nat.le_refl _⟩ (Nat.le_of_ble_eq_true rfl) ?_
  intro r4 rf m3 hrf h hr4
  exact G_ireturn (len := 1) pX10_isDigit_14 ⟨hrf, _, rfl, h⟩ hr4
def L_X10_lays (a1 : Int32) (a2 : Int32) (mem : MMt) (Q : MMt → Prop) : Prop := (vp_in ((2 : Int32) * (mem 76 8)) 100 ∧ ∀ m1 : MMt, m1 = up2 mem 80 ((2 : Int32) * (mem 76 8)).toNatClampNeg a1 → (vp_in (((2 : Int32) * (m1 76 8)) + (1 : Int32)) 100 ∧ ∀ m3 : MMt, m3 = up2 m1 80 (((2 : Int32) * (m1 76 8)) + (1 : Int32)).toNatClampNeg a2 → (∀ m5 : MMt, m5 = up2 m3 76 8 ((m3 76 8) + (1 : Int32)) → Q m5)))
set_option maxRecDepth 4000 in
theorem g_X10_lays {sx : Nat × (Nat → Int32)} {rf : RFt} {Q : MMt → Prop} (a1 : Int32) (a2 : Int32) (hrf : RFok rf) (mem : MMt) (h : L_X10_lays a1 a2 mem Q) : Ct sx yX10_lays cX10_lays 3 none 1 [.ref 76, .int a1, .int a2] NX NX rf mem (QQv (RFok) Q) := by
  refine Ct_of [some (.ref 76), some (.int a1), some (.int a2)] (by decide +kernel) (by simp [Lof, Value.category]) rfl ?_
  unfold L_X10_lays at h
  refine G_aload_n (i := 0) pX10_lays_0 rfl rfl ?_
  refine G_getR (ci := 10) (j := 9) (N := 29) pX10_lays_1 fl_RX10_19 rfl ltk_76 shk_76 (by decide) rfl (hrf.lit 76 9 rfl) ?_
  refine G_iconst pX10_lays_4 ic_2 ?_
  refine G_aload_n (i := 0) pX10_lays_5 rfl rfl ?_
  refine G_getI (ci := 10) (j := 8) (N := 29) pX10_lays_6 fl_RX10_151 rfl ltk_76 shk_76 (by decide) rfl ?_
  refine G_imul pX10_lays_9 ?_
  refine G_iload_n (i := 1) pX10_lays_10 rfl rfl ?_
  obtain ⟨hi2, h⟩ := h
  obtain ⟨m1, em1⟩ : ∃ z : MMt, z = up2 mem 80 ((2 : Int32) * (mem 76 8)).toNatClampNeg a1 := ⟨_, rfl⟩
  have h := h m1 em1
  refine G_iastW pX10_lays_11 ltk_80 shk_80 hi2 em1.symm ?_
  refine G_aload_n (i := 0) pX10_lays_12 rfl rfl ?_
  refine G_getR (ci := 10) (j := 9) (N := 29) pX10_lays_13 fl_RX10_19 rfl ltk_76 shk_76 (by decide) rfl (hrf.lit 76 9 rfl) ?_
  refine G_iconst pX10_lays_16 ic_2 ?_
  refine G_aload_n (i := 0) pX10_lays_17 rfl rfl ?_
  refine G_getI (ci := 10) (j := 8) (N := 29) pX10_lays_18 fl_RX10_151 rfl ltk_76 shk_76 (by decide) rfl ?_
  refine G_imul pX10_lays_21 ?_
  refine G_iconst pX10_lays_22 ic_1 ?_
  refine G_iadd pX10_lays_23 ?_
  refine G_iload_n (i := 2) pX10_lays_24 rfl rfl ?_
  obtain ⟨hi4, h⟩ := h
  obtain ⟨m3, em3⟩ : ∃ z : MMt, z = up2 m1 80 (((2 : Int32) * (m1 76 8)) + (1 : Int32)).toNatClampNeg a2 := ⟨_, rfl⟩
  have h := h m3 em3
  refine G_iastW pX10_lays_25 ltk_80 shk_80 hi4 em3.symm ?_
  refine G_aload_n (i := 0) pX10_lays_26 rfl rfl ?_
  refine G_dup pX10_lays_27 rfl ?_
  refine G_getI (ci := 10) (j := 8) (N := 29) pX10_lays_28 fl_RX10_151 rfl ltk_76 shk_76 (by decide) rfl ?_
  refine G_iconst pX10_lays_31 ic_1 ?_
  refine G_iadd pX10_lays_32 ?_
  obtain ⟨m5, em5⟩ : ∃ z : MMt, z = up2 m3 76 8 ((m3 76 8) + (1 : Int32)) := ⟨_, rfl⟩
  have h := h m5 em5
  refine G_putIW (ci := 10) (j := 8) (N := 29) pX10_lays_33 fw_RX10_151 rfl ltk_76 shk_76 (by decide) rfl (fun _ => ⟨rfl, rfl⟩) em5.symm ?_
  exact G_return (len := 1) pX10_lays_36 ⟨hrf, rfl, h⟩ rfl
def L_X10_nameHere (mem : MMt) (Q : Int32 → MMt → Prop) : Prop := L_X10_here mem (fun r2 m1 => ((¬ (m1 76 7) = 0 → ((¬ r2 = (115 : Int32) → ((¬ r2 = (108 : Int32) → ((¬ r2 = (116 : Int32) → Q (-1 : Int32) m1) ∧ (r2 = (116 : Int32) → Q (2 : Int32) m1))) ∧ (r2 = (108 : Int32) → Q (1 : Int32) m1))) ∧ (r2 = (115 : Int32) → Q (0 : Int32) m1))) ∧ ((m1 76 7) = 0 → ((¬ r2 = (102 : Int32) → ((¬ r2 = (109 : Int32) → Q (-1 : Int32) m1) ∧ (r2 = (109 : Int32) → Q (1 : Int32) m1))) ∧ (r2 = (102 : Int32) → Q (0 : Int32) m1)))))
set_option maxRecDepth 4000 in
theorem g_X10_nameHere {sx : Nat × (Nat → Int32)} {rf : RFt} {Q : Int32 → MMt → Prop} (hrf : RFok rf) (mem : MMt) (h : L_X10_nameHere mem Q) : Ct sx yX10_nameHere cX10_nameHere 2 (some .int) 2 [.ref 76] NX NX rf mem (QQi (RFok) Q) := by
  refine Ct_of [some (.ref 76), none] (by decide +kernel) (by simp [Lof, Value.category]) rfl ?_
  unfold L_X10_nameHere at h
  refine G_aload_n (i := 0) pX10_nameHere_0 rfl rfl ?_
  refine G_callV0i (b := 76) (ci := 10) (N := 29) pX10_nameHere_1 (g_X10_here hrf _ h) mV_X10_here ml_RX10_143 (by decide) ⟨Nat.le_refl _, Nat.le_refl _, Nat.le_refl _⟩ (Nat.le_of_ble_eq_true rfl) ltk_76 shk_76 rfl ?_
  intro r2 rf m1 hrf h hr2
  refine G_istore_n (i := 1) (L' := [some (.ref 76), some (.int r2)]) pX10_nameHere_4 rfl rfl ?_
  refine G_aload_n (i := 0) pX10_nameHere_5 rfl rfl ?_
  refine G_getI (ci := 10) (j := 7) (N := 29) pX10_nameHere_6 fl_RX10_154 rfl ltk_76 shk_76 (by decide) rfl ?_
  refine G_if_ne pX10_nameHere_9 (fun c3 => ?_) (fun c3 => ?_)
  · have h := h.1 c3
    refine G_iload_n (i := 1) pX10_nameHere_34 rfl rfl ?_
    refine G_bipush pX10_nameHere_35 bi_115 ?_
    refine G_icmp_ne pX10_nameHere_37 (fun c4 => ?_) (fun c4 => ?_)
    · have h := h.1 c4
      refine G_iload_n (i := 1) pX10_nameHere_44 rfl rfl ?_
      refine G_bipush pX10_nameHere_45 bi_108 ?_
      refine G_icmp_ne pX10_nameHere_47 (fun c5 => ?_) (fun c5 => ?_)
      · have h := h.1 c5
        refine G_iload_n (i := 1) pX10_nameHere_54 rfl rfl ?_
        refine G_bipush pX10_nameHere_55 bi_116 ?_
        refine G_icmp_ne pX10_nameHere_57 (fun c6 => ?_) (fun c6 => ?_)
        · have h := h.1 c6
          refine G_iconst pX10_nameHere_64 ic_m1 ?_
          exact G_ireturn (len := 1) pX10_nameHere_65 ⟨hrf, _, rfl, h⟩ ⟨_, rfl, rfl⟩
        · have h := h.2 c6
          refine G_iconst pX10_nameHere_60 ic_2 ?_
          refine G_goto pX10_nameHere_61 ?_
          exact G_ireturn (len := 1) pX10_nameHere_65 ⟨hrf, _, rfl, h⟩ ⟨_, rfl, rfl⟩
      · have h := h.2 c5
        refine G_iconst pX10_nameHere_50 ic_1 ?_
        refine G_goto pX10_nameHere_51 ?_
        exact G_ireturn (len := 1) pX10_nameHere_65 ⟨hrf, _, rfl, h⟩ ⟨_, rfl, rfl⟩
    · have h := h.2 c4
      refine G_iconst pX10_nameHere_40 ic_0 ?_
      refine G_goto pX10_nameHere_41 ?_
      exact G_ireturn (len := 1) pX10_nameHere_65 ⟨hrf, _, rfl, h⟩ ⟨_, rfl, rfl⟩
  · have h := h.2 c3
    refine G_iload_n (i := 1) pX10_nameHere_12 rfl rfl ?_
    refine G_bipush pX10_nameHere_13 bi_102 ?_
    refine G_icmp_ne pX10_nameHere_15 (fun c7 => ?_) (fun c7 => ?_)
    · have h := h.1 c7
      refine G_iload_n (i := 1) pX10_nameHere_22 rfl rfl ?_
      refine G_bipush pX10_nameHere_23 bi_109 ?_
      refine G_icmp_ne pX10_nameHere_25 (fun c8 => ?_) (fun c8 => ?_)
      · have h := h.1 c8
        refine G_iconst pX10_nameHere_32 ic_m1 ?_
        exact G_ireturn (len := 1) pX10_nameHere_33 ⟨hrf, _, rfl, h⟩ ⟨_, rfl, rfl⟩
      · have h := h.2 c8
        refine G_iconst pX10_nameHere_28 ic_1 ?_
        refine G_goto pX10_nameHere_29 ?_
        exact G_ireturn (len := 1) pX10_nameHere_33 ⟨hrf, _, rfl, h⟩ ⟨_, rfl, rfl⟩
    · have h := h.2 c7
      refine G_iconst pX10_nameHere_18 ic_0 ?_
      refine G_goto pX10_nameHere_19 ?_
      exact G_ireturn (len := 1) pX10_nameHere_33 ⟨hrf, _, rfl, h⟩ ⟨_, rfl, rfl⟩
def B_X10_readsNumber_4 (x1 : Int32) (x2 : Int32) (mem : MMt) (Q : Int32 → MMt → Prop) : Prop := LOOP (σ := Int32 × Int32 × MMt) (fun X4 z => (fun (x1 : Int32) (x2 : Int32) (mem : MMt) => (((4 : Int32) ≤ x2 → L_X10_lays (0 : Int32) x1 mem (fun m2 => Q (1 : Int32) m2)) ∧ (¬ (4 : Int32) ≤ x2 → L_X10_isDigit mem (fun r4 m3 => ((r4 = 0 → L_X10_lays (0 : Int32) x1 m3 (fun m6 => Q (1 : Int32) m6)) ∧ (¬ r4 = 0 → L_X10_here m3 (fun r8 m7 => (∀ v9 : Int32, v9 = (((10 : Int32) * x1) + r8) - (48 : Int32) → (∀ m10 : MMt, m10 = up2 m7 76 5 ((m7 76 5) + (1 : Int32)) → (∀ v11 : Int32, v11 = x2 + (1 : Int32) → X4 (v9, v11, m10))))))))))) z.1 z.2.1 z.2.2) (x1, x2, mem)
set_option maxRecDepth 4000 in
theorem gB_X10_readsNumber_4 {sx : Nat × (Nat → Int32)} {rf : RFt} {Q : Int32 → MMt → Prop} (hrf : RFok rf) (x1 : Int32) (x2 : Int32) (mem : MMt) (h : B_X10_readsNumber_4 x1 x2 mem Q) : G sx yX10_readsNumber cX10_readsNumber 3 (some .boolean) 3 NX NX (QQi (RFok) Q) NX rf mem 4 [some (.ref 76), some (.int x1), some (.int x2)] [] := by
  obtain ⟨I, ⟨n, h0⟩, hI⟩ := h
  have key : ∀ (n : Nat) (rf : RFt) (x1 : Int32) (x2 : Int32) (mem : MMt), RFok rf → I n (x1, x2, mem) → G sx yX10_readsNumber cX10_readsNumber 3 (some .boolean) 3 NX NX (QQi (RFok) Q) NX rf mem 4 [some (.ref 76), some (.int x1), some (.int x2)] [] := by
    intro n
    induction n using Nat.strongRecOn with
    | _ n ih =>
    intro rf x1 x2 mem hrf h0
    have hX4 : ∀ (rf : RFt) (x1 : Int32) (x2 : Int32) (mem : MMt), RFok rf → (fun s' => ∃ m, m < n ∧ I m s') (x1, x2, mem) → G sx yX10_readsNumber cX10_readsNumber 3 (some .boolean) 3 NX NX (QQi (RFok) Q) NX rf mem 4 [some (.ref 76), some (.int x1), some (.int x2)] [] := fun rf x1 x2 mem hrf ⟨m, hm, hi⟩ => ih m hm rf x1 x2 mem hrf hi
    have h := hI n _ h0
    clear ih h0
    try dsimp only at h
    refine G_iload_n (i := 2) pX10_readsNumber_4 rfl rfl ?_
    refine G_iconst pX10_readsNumber_5 ic_4 ?_
    refine G_icmp_ge pX10_readsNumber_6 (fun c1 => ?_) (fun c1 => ?_)
    · have h := h.1 c1
      refine G_aload_n (i := 0) pX10_readsNumber_45 rfl rfl ?_
      refine G_iconst pX10_readsNumber_46 ic_0 ?_
      refine G_iload_n (i := 1) pX10_readsNumber_47 rfl rfl ?_
      refine G_callV2v (b := 76) (ci := 10) (N := 29) pX10_readsNumber_48 (g_X10_lays (0 : Int32) x1 hrf _ h) mV_X10_lays ml_RX10_161 (by decide) ⟨Nat.le_refl _, Nat.le_refl _, Nat.le_refl _⟩ (Nat.le_of_ble_eq_true rfl) ltk_76 shk_76 rfl ?_
      intro rf m2 hrf h
      refine G_iconst pX10_readsNumber_51 ic_1 ?_
      exact G_ireturn (len := 1) pX10_readsNumber_52 ⟨hrf, _, rfl, h⟩ ⟨_, rfl, rfl⟩
    · have h := h.2 c1
      refine G_aload_n (i := 0) pX10_readsNumber_9 rfl rfl ?_
      refine G_callV0i (b := 76) (ci := 10) (N := 29) pX10_readsNumber_10 (g_X10_isDigit hrf _ h) mV_X10_isDigit ml_RX10_157 (by decide) ⟨Nat.le_refl _, Nat.le_refl _, Nat.le_refl _⟩ (Nat.le_of_ble_eq_true rfl) ltk_76 shk_76 rfl ?_
      intro r4 rf m3 hrf h hr4
      refine G_if_eq pX10_readsNumber_13 (fun c5 => ?_) (fun c5 => ?_)
      · have h := h.1 c5
        refine G_aload_n (i := 0) pX10_readsNumber_45 rfl rfl ?_
        refine G_iconst pX10_readsNumber_46 ic_0 ?_
        refine G_iload_n (i := 1) pX10_readsNumber_47 rfl rfl ?_
        refine G_callV2v (b := 76) (ci := 10) (N := 29) pX10_readsNumber_48 (g_X10_lays (0 : Int32) x1 hrf _ h) mV_X10_lays ml_RX10_161 (by decide) ⟨Nat.le_refl _, Nat.le_refl _, Nat.le_refl _⟩ (Nat.le_of_ble_eq_true rfl) ltk_76 shk_76 rfl ?_
        intro rf m6 hrf h
        refine G_iconst pX10_readsNumber_51 ic_1 ?_
        exact G_ireturn (len := 1) pX10_readsNumber_52 ⟨hrf, _, rfl, h⟩ ⟨_, rfl, rfl⟩
      · have h := h.2 c5
        refine G_bipush pX10_readsNumber_16 bi_10 ?_
        refine G_iload_n (i := 1) pX10_readsNumber_18 rfl rfl ?_
        refine G_imul pX10_readsNumber_19 ?_
        refine G_aload_n (i := 0) pX10_readsNumber_20 rfl rfl ?_
        refine G_callV0i (b := 76) (ci := 10) (N := 29) pX10_readsNumber_21 (g_X10_here hrf _ h) mV_X10_here ml_RX10_143 (by decide) ⟨Nat.le_refl _, Nat.le_refl _, Nat.le_refl _⟩ (Nat.le_of_ble_eq_true rfl) ltk_76 shk_76 rfl ?_
        intro r8 rf m7 hrf h hr8
        refine G_iadd pX10_readsNumber_24 ?_
        refine G_bipush pX10_readsNumber_25 bi_48 ?_
        refine G_isub pX10_readsNumber_27 ?_
        obtain ⟨v9, e9⟩ : ∃ z : Int32, z = (((10 : Int32) * x1) + r8) - (48 : Int32) := ⟨_, rfl⟩
        have h := h v9 e9
        refine G_istore_nW (L' := [some (.ref 76), some (.int v9), some (.int x2)]) pX10_readsNumber_28 rfl e9.symm rfl ?_
        refine G_aload_n (i := 0) pX10_readsNumber_29 rfl rfl ?_
        refine G_dup pX10_readsNumber_30 rfl ?_
        refine G_getI (ci := 10) (j := 5) (N := 29) pX10_readsNumber_31 fl_RX10_139 rfl ltk_76 shk_76 (by decide) rfl ?_
        refine G_iconst pX10_readsNumber_34 ic_1 ?_
        refine G_iadd pX10_readsNumber_35 ?_
        obtain ⟨m10, em10⟩ : ∃ z : MMt, z = up2 m7 76 5 ((m7 76 5) + (1 : Int32)) := ⟨_, rfl⟩
        have h := h m10 em10
        refine G_putIW (ci := 10) (j := 5) (N := 29) pX10_readsNumber_36 fw_RX10_139 rfl ltk_76 shk_76 (by decide) rfl (fun _ => ⟨rfl, rfl⟩) em10.symm ?_
        obtain ⟨v11, e11⟩ : ∃ z : Int32, z = x2 + (1 : Int32) := ⟨_, rfl⟩
        have h := h v11 e11
        refine G_iincW (L' := [some (.ref 76), some (.int v9), some (.int v11)]) pX10_readsNumber_39 rfl ic_1 e11.symm rfl ?_
        refine G_goto pX10_readsNumber_42 ?_
        exact hX4 _ _ _ _ hrf h
  exact key n rf _ _ _ hrf h0
def L_X10_readsNumber (mem : MMt) (Q : Int32 → MMt → Prop) : Prop := B_X10_readsNumber_4 (0 : Int32) (0 : Int32) mem Q
set_option maxRecDepth 4000 in
theorem g_X10_readsNumber {sx : Nat × (Nat → Int32)} {rf : RFt} {Q : Int32 → MMt → Prop} (hrf : RFok rf) (mem : MMt) (h : L_X10_readsNumber mem Q) : Ct sx yX10_readsNumber cX10_readsNumber 3 (some .boolean) 3 [.ref 76] NX NX rf mem (QQi (RFok) Q) := by
  refine Ct_of [some (.ref 76), none, none] (by decide +kernel) (by simp [Lof, Value.category]) rfl ?_
  unfold L_X10_readsNumber at h
  refine G_iconst pX10_readsNumber_0 ic_0 ?_
  refine G_istore_n (i := 1) (L' := [some (.ref 76), some (.int (0 : Int32)), none]) pX10_readsNumber_1 rfl rfl ?_
  refine G_iconst pX10_readsNumber_2 ic_0 ?_
  refine G_istore_n (i := 2) (L' := [some (.ref 76), some (.int (0 : Int32)), some (.int (0 : Int32))]) pX10_readsNumber_3 rfl rfl ?_
  exact gB_X10_readsNumber_4 hrf (0 : Int32) (0 : Int32) _ h
def L_X10_isSign (a1 : Int32) (mem : MMt) (Q : Int32 → MMt → Prop) : Prop := L_X10_here mem (fun r2 m1 => ((a1 < (0 : Int32) → ((r2 = (42 : Int32) → Q (1 : Int32) m1) ∧ (¬ r2 = (42 : Int32) → ((r2 = (47 : Int32) → Q (1 : Int32) m1) ∧ (¬ r2 = (47 : Int32) → ((¬ r2 = (37 : Int32) → Q (0 : Int32) m1) ∧ (r2 = (37 : Int32) → Q (1 : Int32) m1))))))) ∧ ((3 : Int32) < a1 → ((r2 = (42 : Int32) → Q (1 : Int32) m1) ∧ (¬ r2 = (42 : Int32) → ((r2 = (47 : Int32) → Q (1 : Int32) m1) ∧ (¬ r2 = (47 : Int32) → ((¬ r2 = (37 : Int32) → Q (0 : Int32) m1) ∧ (r2 = (37 : Int32) → Q (1 : Int32) m1))))))) ∧ (a1 = (0 : Int32) → ((¬ r2 = (124 : Int32) → Q (0 : Int32) m1) ∧ (r2 = (124 : Int32) → Q (1 : Int32) m1))) ∧ (a1 = (1 : Int32) → ((¬ r2 = (38 : Int32) → Q (0 : Int32) m1) ∧ (r2 = (38 : Int32) → Q (1 : Int32) m1))) ∧ (a1 = (2 : Int32) → ((r2 = (60 : Int32) → Q (1 : Int32) m1) ∧ (¬ r2 = (60 : Int32) → ((r2 = (61 : Int32) → Q (1 : Int32) m1) ∧ (¬ r2 = (61 : Int32) → ((¬ r2 = (62 : Int32) → Q (0 : Int32) m1) ∧ (r2 = (62 : Int32) → Q (1 : Int32) m1))))))) ∧ (a1 = (3 : Int32) → ((r2 = (43 : Int32) → Q (1 : Int32) m1) ∧ (¬ r2 = (43 : Int32) → ((¬ r2 = (45 : Int32) → Q (0 : Int32) m1) ∧ (r2 = (45 : Int32) → Q (1 : Int32) m1)))))))
set_option maxRecDepth 4000 in
theorem g_X10_isSign {sx : Nat × (Nat → Int32)} {rf : RFt} {Q : Int32 → MMt → Prop} (a1 : Int32) (hrf : RFok rf) (mem : MMt) (h : L_X10_isSign a1 mem Q) : Ct sx yX10_isSign cX10_isSign 3 (some .boolean) 2 [.ref 76, .int a1] NX NX rf mem (QQi (RFok) Q) := by
  refine Ct_of [some (.ref 76), some (.int a1), none] (by decide +kernel) (by simp [Lof, Value.category]) rfl ?_
  unfold L_X10_isSign at h
  refine G_aload_n (i := 0) pX10_isSign_0 rfl rfl ?_
  refine G_callV0i (b := 76) (ci := 10) (N := 29) pX10_isSign_1 (g_X10_here hrf _ h) mV_X10_here ml_RX10_143 (by decide) ⟨Nat.le_refl _, Nat.le_refl _, Nat.le_refl _⟩ (Nat.le_of_ble_eq_true rfl) ltk_76 shk_76 rfl ?_
  intro r2 rf m1 hrf h hr2
  refine G_istore_n (i := 2) (L' := [some (.ref 76), some (.int a1), some (.int r2)]) pX10_isSign_4 rfl rfl ?_
  refine G_iload_n (i := 1) pX10_isSign_5 rfl rfl ?_
  by_cases c6 : a1 < (0 : Int32)
  · have h := h.1 c6
    refine G_tsOut (tgt := 102) pX10_isSign_6 (Or.inl (ts_lt c6 (by decide))) (by decide) ?_
    refine G_iload_n (i := 2) pX10_isSign_102 rfl rfl ?_
    refine G_bipush pX10_isSign_103 bi_42 ?_
    refine G_icmp_eq pX10_isSign_105 (fun c3 => ?_) (fun c3 => ?_)
    · have h := h.1 c3
      refine G_iconst pX10_isSign_120 ic_1 ?_
      refine G_goto pX10_isSign_121 ?_
      exact G_ireturn (len := 1) pX10_isSign_125 ⟨hrf, _, rfl, h⟩ ⟨_, rfl, rfl⟩
    · have h := h.2 c3
      refine G_iload_n (i := 2) pX10_isSign_108 rfl rfl ?_
      refine G_bipush pX10_isSign_109 bi_47 ?_
      refine G_icmp_eq pX10_isSign_111 (fun c4 => ?_) (fun c4 => ?_)
      · have h := h.1 c4
        refine G_iconst pX10_isSign_120 ic_1 ?_
        refine G_goto pX10_isSign_121 ?_
        exact G_ireturn (len := 1) pX10_isSign_125 ⟨hrf, _, rfl, h⟩ ⟨_, rfl, rfl⟩
      · have h := h.2 c4
        refine G_iload_n (i := 2) pX10_isSign_114 rfl rfl ?_
        refine G_bipush pX10_isSign_115 bi_37 ?_
        refine G_icmp_ne pX10_isSign_117 (fun c5 => ?_) (fun c5 => ?_)
        · have h := h.1 c5
          refine G_iconst pX10_isSign_124 ic_0 ?_
          exact G_ireturn (len := 1) pX10_isSign_125 ⟨hrf, _, rfl, h⟩ ⟨_, rfl, rfl⟩
        · have h := h.2 c5
          refine G_iconst pX10_isSign_120 ic_1 ?_
          refine G_goto pX10_isSign_121 ?_
          exact G_ireturn (len := 1) pX10_isSign_125 ⟨hrf, _, rfl, h⟩ ⟨_, rfl, rfl⟩
  by_cases c7 : (3 : Int32) < a1
  · have h := h.2.1 c7
    refine G_tsOut (tgt := 102) pX10_isSign_6 (Or.inr (ts_gt c7 (by decide))) (by decide) ?_
    refine G_iload_n (i := 2) pX10_isSign_102 rfl rfl ?_
    refine G_bipush pX10_isSign_103 bi_42 ?_
    refine G_icmp_eq pX10_isSign_105 (fun c3 => ?_) (fun c3 => ?_)
    · have h := h.1 c3
      refine G_iconst pX10_isSign_120 ic_1 ?_
      refine G_goto pX10_isSign_121 ?_
      exact G_ireturn (len := 1) pX10_isSign_125 ⟨hrf, _, rfl, h⟩ ⟨_, rfl, rfl⟩
    · have h := h.2 c3
      refine G_iload_n (i := 2) pX10_isSign_108 rfl rfl ?_
      refine G_bipush pX10_isSign_109 bi_47 ?_
      refine G_icmp_eq pX10_isSign_111 (fun c4 => ?_) (fun c4 => ?_)
      · have h := h.1 c4
        refine G_iconst pX10_isSign_120 ic_1 ?_
        refine G_goto pX10_isSign_121 ?_
        exact G_ireturn (len := 1) pX10_isSign_125 ⟨hrf, _, rfl, h⟩ ⟨_, rfl, rfl⟩
      · have h := h.2 c4
        refine G_iload_n (i := 2) pX10_isSign_114 rfl rfl ?_
        refine G_bipush pX10_isSign_115 bi_37 ?_
        refine G_icmp_ne pX10_isSign_117 (fun c5 => ?_) (fun c5 => ?_)
        · have h := h.1 c5
          refine G_iconst pX10_isSign_124 ic_0 ?_
          exact G_ireturn (len := 1) pX10_isSign_125 ⟨hrf, _, rfl, h⟩ ⟨_, rfl, rfl⟩
        · have h := h.2 c5
          refine G_iconst pX10_isSign_120 ic_1 ?_
          refine G_goto pX10_isSign_121 ?_
          exact G_ireturn (len := 1) pX10_isSign_125 ⟨hrf, _, rfl, h⟩ ⟨_, rfl, rfl⟩
  rcases tsx_0_3 c6 c7 with hc | hc | hc | hc
  · have h := h.2.2.1 hc
    refine G_tsInE (v := (0 : Int32)) (off := 30) (tgt := 36) pX10_isSign_6 hc (by decide) ?_
    refine G_iload_n (i := 2) pX10_isSign_36 rfl rfl ?_
    refine G_bipush pX10_isSign_37 bi_124 ?_
    refine G_icmp_ne pX10_isSign_39 (fun c8 => ?_) (fun c8 => ?_)
    · have h := h.1 c8
      refine G_iconst pX10_isSign_46 ic_0 ?_
      exact G_ireturn (len := 1) pX10_isSign_47 ⟨hrf, _, rfl, h⟩ ⟨_, rfl, rfl⟩
    · have h := h.2 c8
      refine G_iconst pX10_isSign_42 ic_1 ?_
      refine G_goto pX10_isSign_43 ?_
      exact G_ireturn (len := 1) pX10_isSign_47 ⟨hrf, _, rfl, h⟩ ⟨_, rfl, rfl⟩
  · have h := h.2.2.2.1 hc
    refine G_tsInE (v := (1 : Int32)) (off := 42) (tgt := 48) pX10_isSign_6 hc (by decide) ?_
    refine G_iload_n (i := 2) pX10_isSign_48 rfl rfl ?_
    refine G_bipush pX10_isSign_49 bi_38 ?_
    refine G_icmp_ne pX10_isSign_51 (fun c9 => ?_) (fun c9 => ?_)
    · have h := h.1 c9
      refine G_iconst pX10_isSign_58 ic_0 ?_
      exact G_ireturn (len := 1) pX10_isSign_59 ⟨hrf, _, rfl, h⟩ ⟨_, rfl, rfl⟩
    · have h := h.2 c9
      refine G_iconst pX10_isSign_54 ic_1 ?_
      refine G_goto pX10_isSign_55 ?_
      exact G_ireturn (len := 1) pX10_isSign_59 ⟨hrf, _, rfl, h⟩ ⟨_, rfl, rfl⟩
  · have h := h.2.2.2.2.1 hc
    refine G_tsInE (v := (2 : Int32)) (off := 54) (tgt := 60) pX10_isSign_6 hc (by decide) ?_
    refine G_iload_n (i := 2) pX10_isSign_60 rfl rfl ?_
    refine G_bipush pX10_isSign_61 bi_60 ?_
    refine G_icmp_eq pX10_isSign_63 (fun c10 => ?_) (fun c10 => ?_)
    · have h := h.1 c10
      refine G_iconst pX10_isSign_78 ic_1 ?_
      refine G_goto pX10_isSign_79 ?_
      exact G_ireturn (len := 1) pX10_isSign_83 ⟨hrf, _, rfl, h⟩ ⟨_, rfl, rfl⟩
    · have h := h.2 c10
      refine G_iload_n (i := 2) pX10_isSign_66 rfl rfl ?_
      refine G_bipush pX10_isSign_67 bi_61 ?_
      refine G_icmp_eq pX10_isSign_69 (fun c11 => ?_) (fun c11 => ?_)
      · have h := h.1 c11
        refine G_iconst pX10_isSign_78 ic_1 ?_
        refine G_goto pX10_isSign_79 ?_
        exact G_ireturn (len := 1) pX10_isSign_83 ⟨hrf, _, rfl, h⟩ ⟨_, rfl, rfl⟩
      · have h := h.2 c11
        refine G_iload_n (i := 2) pX10_isSign_72 rfl rfl ?_
        refine G_bipush pX10_isSign_73 bi_62 ?_
        refine G_icmp_ne pX10_isSign_75 (fun c12 => ?_) (fun c12 => ?_)
        · have h := h.1 c12
          refine G_iconst pX10_isSign_82 ic_0 ?_
          exact G_ireturn (len := 1) pX10_isSign_83 ⟨hrf, _, rfl, h⟩ ⟨_, rfl, rfl⟩
        · have h := h.2 c12
          refine G_iconst pX10_isSign_78 ic_1 ?_
          refine G_goto pX10_isSign_79 ?_
          exact G_ireturn (len := 1) pX10_isSign_83 ⟨hrf, _, rfl, h⟩ ⟨_, rfl, rfl⟩
  · have h := h.2.2.2.2.2 hc
    refine G_tsInE (v := (3 : Int32)) (off := 78) (tgt := 84) pX10_isSign_6 hc (by decide) ?_
    refine G_iload_n (i := 2) pX10_isSign_84 rfl rfl ?_
    refine G_bipush pX10_isSign_85 bi_43 ?_
    refine G_icmp_eq pX10_isSign_87 (fun c13 => ?_) (fun c13 => ?_)
    · have h := h.1 c13
      refine G_iconst pX10_isSign_96 ic_1 ?_
      refine G_goto pX10_isSign_97 ?_
      exact G_ireturn (len := 1) pX10_isSign_101 ⟨hrf, _, rfl, h⟩ ⟨_, rfl, rfl⟩
    · have h := h.2 c13
      refine G_iload_n (i := 2) pX10_isSign_90 rfl rfl ?_
      refine G_bipush pX10_isSign_91 bi_45 ?_
      refine G_icmp_ne pX10_isSign_93 (fun c14 => ?_) (fun c14 => ?_)
      · have h := h.1 c14
        refine G_iconst pX10_isSign_100 ic_0 ?_
        exact G_ireturn (len := 1) pX10_isSign_101 ⟨hrf, _, rfl, h⟩ ⟨_, rfl, rfl⟩
      · have h := h.2 c14
        refine G_iconst pX10_isSign_96 ic_1 ?_
        refine G_goto pX10_isSign_97 ?_
        exact G_ireturn (len := 1) pX10_isSign_101 ⟨hrf, _, rfl, h⟩ ⟨_, rfl, rfl⟩
def B_X10_readsQ_121 (R_X10_readsQ : MMt → (Int32 → MMt → Prop) → Prop) (R_X10_readsT : MMt → (Int32 → MMt → Prop) → Prop) (R_X10_reads : Int32 → MMt → (Int32 → MMt → Prop) → Prop) (x1 : Int32) (s0 : Int32) (mem : MMt) (Q : Int32 → MMt → Prop) : Prop := (∀ m1 : MMt, m1 = up2 mem 76 6 ((mem 76 6) - (1 : Int32)) → ((¬ x1 = (33 : Int32) → (BZ s0 ∧ Q s0 m1)) ∧ (x1 = (33 : Int32) → ((s0 = 0 → (BZ s0 ∧ Q s0 m1)) ∧ (¬ s0 = 0 → L_X10_lays (3 : Int32) (0 : Int32) m1 (fun m4 => (BZ s0 ∧ Q s0 m4)))))))
set_option maxRecDepth 4000 in
theorem gB_X10_readsQ_121 {sx : Nat × (Nat → Int32)} {R_X10_readsQ : MMt → (Int32 → MMt → Prop) → Prop} {R_X10_readsT : MMt → (Int32 → MMt → Prop) → Prop} {R_X10_reads : Int32 → MMt → (Int32 → MMt → Prop) → Prop} {rf : RFt} {Q : Int32 → MMt → Prop} {d0 : Nat} (hd0 : 3 ≤ d0) (hR_X10_readsQ : ∀ (rf : RFt) (mem : MMt) (Q : Int32 → MMt → Prop), RFok rf → R_X10_readsQ mem Q → Ct sx yX10_readsQ cX10_readsQ 3 (some .boolean) d0 [.ref 76] NX NX rf mem (QQi (RFok) Q)) (hR_X10_readsT : ∀ (rf : RFt) (mem : MMt) (Q : Int32 → MMt → Prop), RFok rf → R_X10_readsT mem Q → Ct sx yX10_readsT cX10_readsT 1 (some .boolean) d0 [.ref 76] NX NX rf mem (QQi (RFok) Q)) (hR_X10_reads : ∀ (rf : RFt) (a1 : Int32) (mem : MMt) (Q : Int32 → MMt → Prop), RFok rf → R_X10_reads a1 mem Q → Ct sx yX10_reads cX10_reads 5 (some .boolean) d0 [.ref 76, .int a1] NX NX rf mem (QQi (RFok) Q)) (hrf : RFok rf) (x1 : Int32) (s0 : Int32) (mem : MMt) (h : B_X10_readsQ_121 R_X10_readsQ R_X10_readsT R_X10_reads x1 s0 mem Q) : G sx yX10_readsQ cX10_readsQ 3 (some .boolean) (d0 + 1) NX NX (QQi (RFok) Q) NX rf mem 121 [some (.ref 76), some (.int x1), none] [.int s0] := by
  unfold B_X10_readsQ_121 at h
  refine G_istore_n (i := 2) (L' := [some (.ref 76), some (.int x1), some (.int s0)]) pX10_readsQ_121 rfl rfl ?_
  refine G_aload_n (i := 0) pX10_readsQ_122 rfl rfl ?_
  refine G_dup pX10_readsQ_123 rfl ?_
  refine G_getI (ci := 10) (j := 6) (N := 29) pX10_readsQ_124 fl_RX10_171 rfl ltk_76 shk_76 (by decide) rfl ?_
  refine G_iconst pX10_readsQ_127 ic_1 ?_
  refine G_isub pX10_readsQ_128 ?_
  obtain ⟨m1, em1⟩ : ∃ z : MMt, z = up2 mem 76 6 ((mem 76 6) - (1 : Int32)) := ⟨_, rfl⟩
  have h := h m1 em1
  refine G_putIW (ci := 10) (j := 6) (N := 29) pX10_readsQ_129 fw_RX10_171 rfl ltk_76 shk_76 (by decide) rfl (fun _ => ⟨rfl, rfl⟩) em1.symm ?_
  refine G_iload_n (i := 1) pX10_readsQ_132 rfl rfl ?_
  refine G_bipush pX10_readsQ_133 bi_33 ?_
  refine G_icmp_ne pX10_readsQ_135 (fun c2 => ?_) (fun c2 => ?_)
  · have h := h.1 c2
    refine G_iload_n (i := 2) pX10_readsQ_148 rfl rfl ?_
    exact G_ireturn (len := 1) pX10_readsQ_149 ⟨hrf, _, rfl, h.2⟩ h.1.rt
  · have h := h.2 c2
    refine G_iload_n (i := 2) pX10_readsQ_138 rfl rfl ?_
    refine G_if_eq pX10_readsQ_139 (fun c3 => ?_) (fun c3 => ?_)
    · have h := h.1 c3
      refine G_iload_n (i := 2) pX10_readsQ_148 rfl rfl ?_
      exact G_ireturn (len := 1) pX10_readsQ_149 ⟨hrf, _, rfl, h.2⟩ h.1.rt
    · have h := h.2 c3
      refine G_aload_n (i := 0) pX10_readsQ_142 rfl rfl ?_
      refine G_iconst pX10_readsQ_143 ic_3 ?_
      refine G_iconst pX10_readsQ_144 ic_0 ?_
      refine G_callV2v (b := 76) (ci := 10) (N := 29) pX10_readsQ_145 (g_X10_lays (3 : Int32) (0 : Int32) hrf _ h) mV_X10_lays ml_RX10_161 (by omega) ⟨Nat.le_refl _, Nat.le_refl _, Nat.le_refl _⟩ (Nat.le_of_ble_eq_true rfl) ltk_76 shk_76 rfl ?_
      intro rf m4 hrf h
      refine G_iload_n (i := 2) pX10_readsQ_148 rfl rfl ?_
      exact G_ireturn (len := 1) pX10_readsQ_149 ⟨hrf, _, rfl, h.2⟩ h.1.rt
def B_X10_readsQ_120 (R_X10_readsQ : MMt → (Int32 → MMt → Prop) → Prop) (R_X10_readsT : MMt → (Int32 → MMt → Prop) → Prop) (R_X10_reads : Int32 → MMt → (Int32 → MMt → Prop) → Prop) (x1 : Int32) (mem : MMt) (Q : Int32 → MMt → Prop) : Prop := B_X10_readsQ_121 R_X10_readsQ R_X10_readsT R_X10_reads x1 (0 : Int32) mem Q
set_option maxRecDepth 4000 in
theorem gB_X10_readsQ_120 {sx : Nat × (Nat → Int32)} {R_X10_readsQ : MMt → (Int32 → MMt → Prop) → Prop} {R_X10_readsT : MMt → (Int32 → MMt → Prop) → Prop} {R_X10_reads : Int32 → MMt → (Int32 → MMt → Prop) → Prop} {rf : RFt} {Q : Int32 → MMt → Prop} {d0 : Nat} (hd0 : 3 ≤ d0) (hR_X10_readsQ : ∀ (rf : RFt) (mem : MMt) (Q : Int32 → MMt → Prop), RFok rf → R_X10_readsQ mem Q → Ct sx yX10_readsQ cX10_readsQ 3 (some .boolean) d0 [.ref 76] NX NX rf mem (QQi (RFok) Q)) (hR_X10_readsT : ∀ (rf : RFt) (mem : MMt) (Q : Int32 → MMt → Prop), RFok rf → R_X10_readsT mem Q → Ct sx yX10_readsT cX10_readsT 1 (some .boolean) d0 [.ref 76] NX NX rf mem (QQi (RFok) Q)) (hR_X10_reads : ∀ (rf : RFt) (a1 : Int32) (mem : MMt) (Q : Int32 → MMt → Prop), RFok rf → R_X10_reads a1 mem Q → Ct sx yX10_reads cX10_reads 5 (some .boolean) d0 [.ref 76, .int a1] NX NX rf mem (QQi (RFok) Q)) (hrf : RFok rf) (x1 : Int32) (mem : MMt) (h : B_X10_readsQ_120 R_X10_readsQ R_X10_readsT R_X10_reads x1 mem Q) : G sx yX10_readsQ cX10_readsQ 3 (some .boolean) (d0 + 1) NX NX (QQi (RFok) Q) NX rf mem 120 [some (.ref 76), some (.int x1), none] [] := by
  unfold B_X10_readsQ_120 at h
  refine G_iconst pX10_readsQ_120 ic_0 ?_
  exact gB_X10_readsQ_121 hd0 hR_X10_readsQ hR_X10_readsT hR_X10_reads hrf x1 (0 : Int32) _ h
def B_X10_readsQ_57 (R_X10_readsQ : MMt → (Int32 → MMt → Prop) → Prop) (R_X10_readsT : MMt → (Int32 → MMt → Prop) → Prop) (R_X10_reads : Int32 → MMt → (Int32 → MMt → Prop) → Prop) (x1 : Int32) (mem : MMt) (Q : Int32 → MMt → Prop) : Prop := ((¬ (mem 76 6) = (5 : Int32) → (∀ m2 : MMt, m2 = up2 mem 76 5 ((mem 76 5) + (1 : Int32)) → (∀ m3 : MMt, m3 = up2 m2 76 6 ((m2 76 6) + (1 : Int32)) → ((¬ x1 = (33 : Int32) → R_X10_readsT m3 (fun r6 m5 => ((r6 = 0 → B_X10_readsQ_120 R_X10_readsQ R_X10_readsT R_X10_reads x1 m5 Q) ∧ (¬ r6 = 0 → L_X10_takes (41 : Int32) m5 (fun r9 m8 => ((r9 = 0 → B_X10_readsQ_120 R_X10_readsQ R_X10_readsT R_X10_reads x1 m8 Q) ∧ (¬ r9 = 0 → B_X10_readsQ_121 R_X10_readsQ R_X10_readsT R_X10_reads x1 (1 : Int32) m8 Q))))))) ∧ (x1 = (33 : Int32) → R_X10_readsQ m3 (fun r12 m11 => B_X10_readsQ_121 R_X10_readsQ R_X10_readsT R_X10_reads x1 r12 m11 Q)))))) ∧ ((mem 76 6) = (5 : Int32) → Q (0 : Int32) mem))
set_option maxRecDepth 4000 in
theorem gB_X10_readsQ_57 {sx : Nat × (Nat → Int32)} {R_X10_readsQ : MMt → (Int32 → MMt → Prop) → Prop} {R_X10_readsT : MMt → (Int32 → MMt → Prop) → Prop} {R_X10_reads : Int32 → MMt → (Int32 → MMt → Prop) → Prop} {rf : RFt} {Q : Int32 → MMt → Prop} {d0 : Nat} (hd0 : 3 ≤ d0) (hR_X10_readsQ : ∀ (rf : RFt) (mem : MMt) (Q : Int32 → MMt → Prop), RFok rf → R_X10_readsQ mem Q → Ct sx yX10_readsQ cX10_readsQ 3 (some .boolean) d0 [.ref 76] NX NX rf mem (QQi (RFok) Q)) (hR_X10_readsT : ∀ (rf : RFt) (mem : MMt) (Q : Int32 → MMt → Prop), RFok rf → R_X10_readsT mem Q → Ct sx yX10_readsT cX10_readsT 1 (some .boolean) d0 [.ref 76] NX NX rf mem (QQi (RFok) Q)) (hR_X10_reads : ∀ (rf : RFt) (a1 : Int32) (mem : MMt) (Q : Int32 → MMt → Prop), RFok rf → R_X10_reads a1 mem Q → Ct sx yX10_reads cX10_reads 5 (some .boolean) d0 [.ref 76, .int a1] NX NX rf mem (QQi (RFok) Q)) (hrf : RFok rf) (x1 : Int32) (mem : MMt) (h : B_X10_readsQ_57 R_X10_readsQ R_X10_readsT R_X10_reads x1 mem Q) : G sx yX10_readsQ cX10_readsQ 3 (some .boolean) (d0 + 1) NX NX (QQi (RFok) Q) NX rf mem 57 [some (.ref 76), some (.int x1), none] [] := by
  unfold B_X10_readsQ_57 at h
  refine G_aload_n (i := 0) pX10_readsQ_57 rfl rfl ?_
  refine G_getI (ci := 10) (j := 6) (N := 29) pX10_readsQ_58 fl_RX10_171 rfl ltk_76 shk_76 (by decide) rfl ?_
  refine G_iconst pX10_readsQ_61 ic_5 ?_
  refine G_icmp_ne pX10_readsQ_62 (fun c1 => ?_) (fun c1 => ?_)
  · have h := h.1 c1
    refine G_aload_n (i := 0) pX10_readsQ_67 rfl rfl ?_
    refine G_dup pX10_readsQ_68 rfl ?_
    refine G_getI (ci := 10) (j := 5) (N := 29) pX10_readsQ_69 fl_RX10_139 rfl ltk_76 shk_76 (by decide) rfl ?_
    refine G_iconst pX10_readsQ_72 ic_1 ?_
    refine G_iadd pX10_readsQ_73 ?_
    obtain ⟨m2, em2⟩ : ∃ z : MMt, z = up2 mem 76 5 ((mem 76 5) + (1 : Int32)) := ⟨_, rfl⟩
    have h := h m2 em2
    refine G_putIW (ci := 10) (j := 5) (N := 29) pX10_readsQ_74 fw_RX10_139 rfl ltk_76 shk_76 (by decide) rfl (fun _ => ⟨rfl, rfl⟩) em2.symm ?_
    refine G_aload_n (i := 0) pX10_readsQ_77 rfl rfl ?_
    refine G_dup pX10_readsQ_78 rfl ?_
    refine G_getI (ci := 10) (j := 6) (N := 29) pX10_readsQ_79 fl_RX10_171 rfl ltk_76 shk_76 (by decide) rfl ?_
    refine G_iconst pX10_readsQ_82 ic_1 ?_
    refine G_iadd pX10_readsQ_83 ?_
    obtain ⟨m3, em3⟩ : ∃ z : MMt, z = up2 m2 76 6 ((m2 76 6) + (1 : Int32)) := ⟨_, rfl⟩
    have h := h m3 em3
    refine G_putIW (ci := 10) (j := 6) (N := 29) pX10_readsQ_84 fw_RX10_171 rfl ltk_76 shk_76 (by decide) rfl (fun _ => ⟨rfl, rfl⟩) em3.symm ?_
    refine G_iload_n (i := 1) pX10_readsQ_87 rfl rfl ?_
    refine G_bipush pX10_readsQ_88 bi_33 ?_
    refine G_icmp_ne pX10_readsQ_90 (fun c4 => ?_) (fun c4 => ?_)
    · have h := h.1 c4
      refine G_aload_n (i := 0) pX10_readsQ_100 rfl rfl ?_
      refine G_callV0i (b := 76) (ci := 10) (N := 29) pX10_readsQ_101 (hR_X10_readsT _ _ _ hrf h) mV_X10_readsT ml_RX10_177 (Nat.le_refl _) ⟨Nat.le_refl _, Nat.le_refl _, Nat.le_refl _⟩ (Nat.le_of_ble_eq_true rfl) ltk_76 shk_76 rfl ?_
      intro r6 rf m5 hrf h hr6
      refine G_if_eq pX10_readsQ_104 (fun c7 => ?_) (fun c7 => ?_)
      · have h := h.1 c7
        exact gB_X10_readsQ_120 hd0 hR_X10_readsQ hR_X10_readsT hR_X10_reads hrf x1 _ h
      · have h := h.2 c7
        refine G_aload_n (i := 0) pX10_readsQ_107 rfl rfl ?_
        refine G_bipush pX10_readsQ_108 bi_41 ?_
        refine G_callV1i (b := 76) (ci := 10) (N := 29) pX10_readsQ_110 (g_X10_takes (41 : Int32) hrf _ h) mV_X10_takes ml_RX10_180 (by omega) ⟨Nat.le_refl _, Nat.le_refl _, Nat.le_refl _⟩ (Nat.le_of_ble_eq_true rfl) ltk_76 shk_76 rfl ?_
        intro r9 rf m8 hrf h hr9
        refine G_if_eq pX10_readsQ_113 (fun c10 => ?_) (fun c10 => ?_)
        · have h := h.1 c10
          exact gB_X10_readsQ_120 hd0 hR_X10_readsQ hR_X10_readsT hR_X10_reads hrf x1 _ h
        · have h := h.2 c10
          refine G_iconst pX10_readsQ_116 ic_1 ?_
          refine G_goto pX10_readsQ_117 ?_
          exact gB_X10_readsQ_121 hd0 hR_X10_readsQ hR_X10_readsT hR_X10_reads hrf x1 (1 : Int32) _ h
    · have h := h.2 c4
      refine G_aload_n (i := 0) pX10_readsQ_93 rfl rfl ?_
      refine G_callV0i (b := 76) (ci := 10) (N := 29) pX10_readsQ_94 (hR_X10_readsQ _ _ _ hrf h) mV_X10_readsQ ml_RX10_174 (Nat.le_refl _) ⟨Nat.le_refl _, Nat.le_refl _, Nat.le_refl _⟩ (Nat.le_of_ble_eq_true rfl) ltk_76 shk_76 rfl ?_
      intro r12 rf m11 hrf h hr12
      refine G_goto pX10_readsQ_97 ?_
      exact gB_X10_readsQ_121 hd0 hR_X10_readsQ hR_X10_readsT hR_X10_reads hrf x1 r12 _ h
  · have h := h.2 c1
    refine G_iconst pX10_readsQ_65 ic_0 ?_
    exact G_ireturn (len := 1) pX10_readsQ_66 ⟨hrf, _, rfl, h⟩ ⟨_, rfl, rfl⟩
def L_X10_readsQ (R_X10_readsQ : MMt → (Int32 → MMt → Prop) → Prop) (R_X10_readsT : MMt → (Int32 → MMt → Prop) → Prop) (R_X10_reads : Int32 → MMt → (Int32 → MMt → Prop) → Prop) (mem : MMt) (Q : Int32 → MMt → Prop) : Prop := L_X10_isDigit mem (fun r2 m1 => ((r2 = 0 → L_X10_nameHere m1 (fun r5 m4 => ((r5 < 0 → L_X10_here m4 (fun r8 m7 => ((r8 = (33 : Int32) → B_X10_readsQ_57 R_X10_readsQ R_X10_readsT R_X10_reads r8 m7 Q) ∧ (¬ r8 = (33 : Int32) → ((¬ r8 = (40 : Int32) → Q (0 : Int32) m7) ∧ (r8 = (40 : Int32) → B_X10_readsQ_57 R_X10_readsQ R_X10_readsT R_X10_reads r8 m7 Q)))))) ∧ (¬ r5 < 0 → L_X10_nameHere m4 (fun r12 m11 => L_X10_lays (1 : Int32) r12 m11 (fun m13 => (∀ m14 : MMt, m14 = up2 m13 76 5 ((m13 76 5) + (1 : Int32)) → Q (1 : Int32) m14))))))) ∧ (¬ r2 = 0 → L_X10_readsNumber m1 (fun r16 m15 => Q r16 m15))))
set_option maxRecDepth 4000 in
theorem g_X10_readsQ {sx : Nat × (Nat → Int32)} {R_X10_readsQ : MMt → (Int32 → MMt → Prop) → Prop} {R_X10_readsT : MMt → (Int32 → MMt → Prop) → Prop} {R_X10_reads : Int32 → MMt → (Int32 → MMt → Prop) → Prop} {rf : RFt} {Q : Int32 → MMt → Prop} {d0 : Nat} (hd0 : 3 ≤ d0) (hR_X10_readsQ : ∀ (rf : RFt) (mem : MMt) (Q : Int32 → MMt → Prop), RFok rf → R_X10_readsQ mem Q → Ct sx yX10_readsQ cX10_readsQ 3 (some .boolean) d0 [.ref 76] NX NX rf mem (QQi (RFok) Q)) (hR_X10_readsT : ∀ (rf : RFt) (mem : MMt) (Q : Int32 → MMt → Prop), RFok rf → R_X10_readsT mem Q → Ct sx yX10_readsT cX10_readsT 1 (some .boolean) d0 [.ref 76] NX NX rf mem (QQi (RFok) Q)) (hR_X10_reads : ∀ (rf : RFt) (a1 : Int32) (mem : MMt) (Q : Int32 → MMt → Prop), RFok rf → R_X10_reads a1 mem Q → Ct sx yX10_reads cX10_reads 5 (some .boolean) d0 [.ref 76, .int a1] NX NX rf mem (QQi (RFok) Q)) (hrf : RFok rf) (mem : MMt) (h : L_X10_readsQ R_X10_readsQ R_X10_readsT R_X10_reads mem Q) : Ct sx yX10_readsQ cX10_readsQ 3 (some .boolean) (d0 + 1) [.ref 76] NX NX rf mem (QQi (RFok) Q) := by
  refine Ct_of [some (.ref 76), none, none] (by decide +kernel) (by simp [Lof, Value.category]) rfl ?_
  unfold L_X10_readsQ at h
  refine G_aload_n (i := 0) pX10_readsQ_0 rfl rfl ?_
  refine G_callV0i (b := 76) (ci := 10) (N := 29) pX10_readsQ_1 (g_X10_isDigit hrf _ h) mV_X10_isDigit ml_RX10_157 (by omega) ⟨Nat.le_refl _, Nat.le_refl _, Nat.le_refl _⟩ (Nat.le_of_ble_eq_true rfl) ltk_76 shk_76 rfl ?_
  intro r2 rf m1 hrf h hr2
  refine G_if_eq pX10_readsQ_4 (fun c3 => ?_) (fun c3 => ?_)
  · have h := h.1 c3
    refine G_aload_n (i := 0) pX10_readsQ_12 rfl rfl ?_
    refine G_callV0i (b := 76) (ci := 10) (N := 29) pX10_readsQ_13 (g_X10_nameHere hrf _ h) mV_X10_nameHere ml_RX10_168 (by omega) ⟨Nat.le_refl _, Nat.le_refl _, Nat.le_refl _⟩ (Nat.le_of_ble_eq_true rfl) ltk_76 shk_76 rfl ?_
    intro r5 rf m4 hrf h hr5
    refine G_if_lt pX10_readsQ_16 (fun c6 => ?_) (fun c6 => ?_)
    · have h := h.1 c6
      refine G_aload_n (i := 0) pX10_readsQ_40 rfl rfl ?_
      refine G_callV0i (b := 76) (ci := 10) (N := 29) pX10_readsQ_41 (g_X10_here hrf _ h) mV_X10_here ml_RX10_143 (by omega) ⟨Nat.le_refl _, Nat.le_refl _, Nat.le_refl _⟩ (Nat.le_of_ble_eq_true rfl) ltk_76 shk_76 rfl ?_
      intro r8 rf m7 hrf h hr8
      refine G_istore_n (i := 1) (L' := [some (.ref 76), some (.int r8), none]) pX10_readsQ_44 rfl rfl ?_
      refine G_iload_n (i := 1) pX10_readsQ_45 rfl rfl ?_
      refine G_bipush pX10_readsQ_46 bi_33 ?_
      refine G_icmp_eq pX10_readsQ_48 (fun c9 => ?_) (fun c9 => ?_)
      · have h := h.1 c9
        exact gB_X10_readsQ_57 hd0 hR_X10_readsQ hR_X10_readsT hR_X10_reads hrf r8 _ h
      · have h := h.2 c9
        refine G_iload_n (i := 1) pX10_readsQ_51 rfl rfl ?_
        refine G_bipush pX10_readsQ_52 bi_40 ?_
        refine G_icmp_ne pX10_readsQ_54 (fun c10 => ?_) (fun c10 => ?_)
        · have h := h.1 c10
          refine G_iconst pX10_readsQ_65 ic_0 ?_
          exact G_ireturn (len := 1) pX10_readsQ_66 ⟨hrf, _, rfl, h⟩ ⟨_, rfl, rfl⟩
        · have h := h.2 c10
          exact gB_X10_readsQ_57 hd0 hR_X10_readsQ hR_X10_readsT hR_X10_reads hrf r8 _ h
    · have h := h.2 c6
      refine G_aload_n (i := 0) pX10_readsQ_19 rfl rfl ?_
      refine G_iconst pX10_readsQ_20 ic_1 ?_
      refine G_aload_n (i := 0) pX10_readsQ_21 rfl rfl ?_
      refine G_callV0i (b := 76) (ci := 10) (N := 29) pX10_readsQ_22 (g_X10_nameHere hrf _ h) mV_X10_nameHere ml_RX10_168 (by omega) ⟨Nat.le_refl _, Nat.le_refl _, Nat.le_refl _⟩ (Nat.le_of_ble_eq_true rfl) ltk_76 shk_76 rfl ?_
      intro r12 rf m11 hrf h hr12
      refine G_callV2v (b := 76) (ci := 10) (N := 29) pX10_readsQ_25 (g_X10_lays (1 : Int32) r12 hrf _ h) mV_X10_lays ml_RX10_161 (by omega) ⟨Nat.le_refl _, Nat.le_refl _, Nat.le_refl _⟩ (Nat.le_of_ble_eq_true rfl) ltk_76 shk_76 rfl ?_
      intro rf m13 hrf h
      refine G_aload_n (i := 0) pX10_readsQ_28 rfl rfl ?_
      refine G_dup pX10_readsQ_29 rfl ?_
      refine G_getI (ci := 10) (j := 5) (N := 29) pX10_readsQ_30 fl_RX10_139 rfl ltk_76 shk_76 (by decide) rfl ?_
      refine G_iconst pX10_readsQ_33 ic_1 ?_
      refine G_iadd pX10_readsQ_34 ?_
      obtain ⟨m14, em14⟩ : ∃ z : MMt, z = up2 m13 76 5 ((m13 76 5) + (1 : Int32)) := ⟨_, rfl⟩
      have h := h m14 em14
      refine G_putIW (ci := 10) (j := 5) (N := 29) pX10_readsQ_35 fw_RX10_139 rfl ltk_76 shk_76 (by decide) rfl (fun _ => ⟨rfl, rfl⟩) em14.symm ?_
      refine G_iconst pX10_readsQ_38 ic_1 ?_
      exact G_ireturn (len := 1) pX10_readsQ_39 ⟨hrf, _, rfl, h⟩ ⟨_, rfl, rfl⟩
  · have h := h.2 c3
    refine G_aload_n (i := 0) pX10_readsQ_7 rfl rfl ?_
    refine G_callV0i (b := 76) (ci := 10) (N := 29) pX10_readsQ_8 (g_X10_readsNumber hrf _ h) mV_X10_readsNumber ml_RX10_165 (by omega) ⟨Nat.le_refl _, Nat.le_refl _, Nat.le_refl _⟩ (Nat.le_of_ble_eq_true rfl) ltk_76 shk_76 rfl ?_
    intro r16 rf m15 hrf h hr16
    exact G_ireturn (len := 1) pX10_readsQ_11 ⟨hrf, _, rfl, h⟩ hr16
def L_X10_readsT (R_X10_readsQ : MMt → (Int32 → MMt → Prop) → Prop) (R_X10_readsT : MMt → (Int32 → MMt → Prop) → Prop) (R_X10_reads : Int32 → MMt → (Int32 → MMt → Prop) → Prop) (mem : MMt) (Q : Int32 → MMt → Prop) : Prop := R_X10_reads (0 : Int32) mem (fun r2 m1 => Q r2 m1)
set_option maxRecDepth 4000 in
theorem g_X10_readsT {sx : Nat × (Nat → Int32)} {R_X10_readsQ : MMt → (Int32 → MMt → Prop) → Prop} {R_X10_readsT : MMt → (Int32 → MMt → Prop) → Prop} {R_X10_reads : Int32 → MMt → (Int32 → MMt → Prop) → Prop} {rf : RFt} {Q : Int32 → MMt → Prop} {d0 : Nat} (hd0 : 3 ≤ d0) (hR_X10_readsQ : ∀ (rf : RFt) (mem : MMt) (Q : Int32 → MMt → Prop), RFok rf → R_X10_readsQ mem Q → Ct sx yX10_readsQ cX10_readsQ 3 (some .boolean) d0 [.ref 76] NX NX rf mem (QQi (RFok) Q)) (hR_X10_readsT : ∀ (rf : RFt) (mem : MMt) (Q : Int32 → MMt → Prop), RFok rf → R_X10_readsT mem Q → Ct sx yX10_readsT cX10_readsT 1 (some .boolean) d0 [.ref 76] NX NX rf mem (QQi (RFok) Q)) (hR_X10_reads : ∀ (rf : RFt) (a1 : Int32) (mem : MMt) (Q : Int32 → MMt → Prop), RFok rf → R_X10_reads a1 mem Q → Ct sx yX10_reads cX10_reads 5 (some .boolean) d0 [.ref 76, .int a1] NX NX rf mem (QQi (RFok) Q)) (hrf : RFok rf) (mem : MMt) (h : L_X10_readsT R_X10_readsQ R_X10_readsT R_X10_reads mem Q) : Ct sx yX10_readsT cX10_readsT 1 (some .boolean) (d0 + 1) [.ref 76] NX NX rf mem (QQi (RFok) Q) := by
  refine Ct_of [some (.ref 76)] (by decide +kernel) (by simp [Lof, Value.category]) rfl ?_
  unfold L_X10_readsT at h
  refine G_aload_n (i := 0) pX10_readsT_0 rfl rfl ?_
  refine G_iconst pX10_readsT_1 ic_0 ?_
  refine G_callV1i (b := 76) (ci := 10) (N := 29) pX10_readsT_2 (hR_X10_reads _ (0 : Int32) _ _ hrf h) mV_X10_reads ml_RX10_183 (Nat.le_refl _) ⟨Nat.le_refl _, Nat.le_refl _, Nat.le_refl _⟩ (Nat.le_of_ble_eq_true rfl) ltk_76 shk_76 rfl ?_
  intro r2 rf m1 hrf h hr2
  exact G_ireturn (len := 1) pX10_readsT_5 ⟨hrf, _, rfl, h⟩ hr2
def B_X10_reads_81 (R_X10_readsQ : MMt → (Int32 → MMt → Prop) → Prop) (R_X10_readsT : MMt → (Int32 → MMt → Prop) → Prop) (R_X10_reads : Int32 → MMt → (Int32 → MMt → Prop) → Prop) (X22 : Int32 × Int32 × MMt → Prop) (x1 : Int32) (x3 : Int32) (x4 : Int32) (s0 : Int32) (mem : MMt) (Q : Int32 → MMt → Prop) : Prop := L_X10_lays (2 : Int32) x4 mem (fun m1 => X22 (s0, x3, m1))
set_option maxRecDepth 4000 in
theorem gB_X10_reads_81 {sx : Nat × (Nat → Int32)} {R_X10_readsQ : MMt → (Int32 → MMt → Prop) → Prop} {R_X10_readsT : MMt → (Int32 → MMt → Prop) → Prop} {R_X10_reads : Int32 → MMt → (Int32 → MMt → Prop) → Prop} {X22 : Int32 × Int32 × MMt → Prop} {rf : RFt} {Q : Int32 → MMt → Prop} {d0 : Nat} (hd0 : 3 ≤ d0) (hR_X10_readsQ : ∀ (rf : RFt) (mem : MMt) (Q : Int32 → MMt → Prop), RFok rf → R_X10_readsQ mem Q → Ct sx yX10_readsQ cX10_readsQ 3 (some .boolean) d0 [.ref 76] NX NX rf mem (QQi (RFok) Q)) (hR_X10_readsT : ∀ (rf : RFt) (mem : MMt) (Q : Int32 → MMt → Prop), RFok rf → R_X10_readsT mem Q → Ct sx yX10_readsT cX10_readsT 1 (some .boolean) d0 [.ref 76] NX NX rf mem (QQi (RFok) Q)) (hR_X10_reads : ∀ (rf : RFt) (a1 : Int32) (mem : MMt) (Q : Int32 → MMt → Prop), RFok rf → R_X10_reads a1 mem Q → Ct sx yX10_reads cX10_reads 5 (some .boolean) d0 [.ref 76, .int a1] NX NX rf mem (QQi (RFok) Q)) (hrf : RFok rf) (x1 : Int32) (x3 : Int32) (x4 : Int32) (s0 : Int32) (hX22 : ∀ (rf : RFt) (x2 : Int32) (x3 : Int32) (mem : MMt), RFok rf → X22 (x2, x3, mem) → G sx yX10_reads cX10_reads 5 (some .boolean) (d0 + 1) NX NX (QQi (RFok) Q) NX rf mem 22 [some (.ref 76), some (.int x1), some (.int x2), some (.int x3), none] []) (mem : MMt) (h : B_X10_reads_81 R_X10_readsQ R_X10_readsT R_X10_reads X22 x1 x3 x4 s0 mem Q) : G sx yX10_reads cX10_reads 5 (some .boolean) (d0 + 1) NX NX (QQi (RFok) Q) NX rf mem 81 [some (.ref 76), some (.int x1), none, some (.int x3), some (.int x4)] [.int s0] := by
  unfold B_X10_reads_81 at h
  refine G_istore_n (i := 2) (L' := [some (.ref 76), some (.int x1), some (.int s0), some (.int x3), some (.int x4)]) pX10_reads_81 rfl rfl ?_
  refine G_aload_n (i := 0) pX10_reads_82 rfl rfl ?_
  refine G_iconst pX10_reads_83 ic_2 ?_
  refine G_iload (i := 4) pX10_reads_84 rfl ?_
  refine G_callV2v (b := 76) (ci := 10) (N := 29) pX10_reads_86 (g_X10_lays (2 : Int32) x4 hrf _ h) mV_X10_lays ml_RX10_161 (by omega) ⟨Nat.le_refl _, Nat.le_refl _, Nat.le_refl _⟩ (Nat.le_of_ble_eq_true rfl) ltk_76 shk_76 rfl ?_
  intro rf m1 hrf h
  refine G_goto pX10_reads_89 ?_
  refine G_wk (L2 := [some (.ref 76), some (.int x1), some (.int s0), some (.int x3), none]) ⟨Or.inr rfl, Or.inr rfl, Or.inr rfl, Or.inr rfl, Or.inl rfl, trivial⟩ ?_
  exact hX22 _ _ _ _ hrf h
def B_X10_reads_43 (R_X10_readsQ : MMt → (Int32 → MMt → Prop) → Prop) (R_X10_readsT : MMt → (Int32 → MMt → Prop) → Prop) (R_X10_reads : Int32 → MMt → (Int32 → MMt → Prop) → Prop) (X22 : Int32 × Int32 × MMt → Prop) (x1 : Int32) (x3 : Int32) (mem : MMt) (Q : Int32 → MMt → Prop) : Prop := L_X10_here mem (fun r2 m1 => (∀ m3 : MMt, m3 = up2 m1 76 5 ((m1 76 5) + (1 : Int32)) → (∀ v4 : Int32, v4 = x3 + (1 : Int32) → ((¬ x1 = (4 : Int32) → R_X10_reads (x1 + (1 : Int32)) m3 (fun r7 m6 => B_X10_reads_81 R_X10_readsQ R_X10_readsT R_X10_reads X22 x1 v4 r2 r7 m6 Q)) ∧ (x1 = (4 : Int32) → R_X10_readsQ m3 (fun r9 m8 => B_X10_reads_81 R_X10_readsQ R_X10_readsT R_X10_reads X22 x1 v4 r2 r9 m8 Q))))))
set_option maxRecDepth 4000 in
theorem gB_X10_reads_43 {sx : Nat × (Nat → Int32)} {R_X10_readsQ : MMt → (Int32 → MMt → Prop) → Prop} {R_X10_readsT : MMt → (Int32 → MMt → Prop) → Prop} {R_X10_reads : Int32 → MMt → (Int32 → MMt → Prop) → Prop} {X22 : Int32 × Int32 × MMt → Prop} {rf : RFt} {Q : Int32 → MMt → Prop} {d0 : Nat} (hd0 : 3 ≤ d0) (hR_X10_readsQ : ∀ (rf : RFt) (mem : MMt) (Q : Int32 → MMt → Prop), RFok rf → R_X10_readsQ mem Q → Ct sx yX10_readsQ cX10_readsQ 3 (some .boolean) d0 [.ref 76] NX NX rf mem (QQi (RFok) Q)) (hR_X10_readsT : ∀ (rf : RFt) (mem : MMt) (Q : Int32 → MMt → Prop), RFok rf → R_X10_readsT mem Q → Ct sx yX10_readsT cX10_readsT 1 (some .boolean) d0 [.ref 76] NX NX rf mem (QQi (RFok) Q)) (hR_X10_reads : ∀ (rf : RFt) (a1 : Int32) (mem : MMt) (Q : Int32 → MMt → Prop), RFok rf → R_X10_reads a1 mem Q → Ct sx yX10_reads cX10_reads 5 (some .boolean) d0 [.ref 76, .int a1] NX NX rf mem (QQi (RFok) Q)) (hrf : RFok rf) (x1 : Int32) (x3 : Int32) (hX22 : ∀ (rf : RFt) (x2 : Int32) (x3 : Int32) (mem : MMt), RFok rf → X22 (x2, x3, mem) → G sx yX10_reads cX10_reads 5 (some .boolean) (d0 + 1) NX NX (QQi (RFok) Q) NX rf mem 22 [some (.ref 76), some (.int x1), some (.int x2), some (.int x3), none] []) (mem : MMt) (h : B_X10_reads_43 R_X10_readsQ R_X10_readsT R_X10_reads X22 x1 x3 mem Q) : G sx yX10_reads cX10_reads 5 (some .boolean) (d0 + 1) NX NX (QQi (RFok) Q) NX rf mem 43 [some (.ref 76), some (.int x1), none, some (.int x3), none] [] := by
  unfold B_X10_reads_43 at h
  refine G_aload_n (i := 0) pX10_reads_43 rfl rfl ?_
  refine G_callV0i (b := 76) (ci := 10) (N := 29) pX10_reads_44 (g_X10_here hrf _ h) mV_X10_here ml_RX10_143 (by omega) ⟨Nat.le_refl _, Nat.le_refl _, Nat.le_refl _⟩ (Nat.le_of_ble_eq_true rfl) ltk_76 shk_76 rfl ?_
  intro r2 rf m1 hrf h hr2
  refine G_istore (i := 4) (L' := [some (.ref 76), some (.int x1), none, some (.int x3), some (.int r2)]) pX10_reads_47 rfl ?_
  refine G_aload_n (i := 0) pX10_reads_49 rfl rfl ?_
  refine G_dup pX10_reads_50 rfl ?_
  refine G_getI (ci := 10) (j := 5) (N := 29) pX10_reads_51 fl_RX10_139 rfl ltk_76 shk_76 (by decide) rfl ?_
  refine G_iconst pX10_reads_54 ic_1 ?_
  refine G_iadd pX10_reads_55 ?_
  obtain ⟨m3, em3⟩ : ∃ z : MMt, z = up2 m1 76 5 ((m1 76 5) + (1 : Int32)) := ⟨_, rfl⟩
  have h := h m3 em3
  refine G_putIW (ci := 10) (j := 5) (N := 29) pX10_reads_56 fw_RX10_139 rfl ltk_76 shk_76 (by decide) rfl (fun _ => ⟨rfl, rfl⟩) em3.symm ?_
  obtain ⟨v4, e4⟩ : ∃ z : Int32, z = x3 + (1 : Int32) := ⟨_, rfl⟩
  have h := h v4 e4
  refine G_iincW (L' := [some (.ref 76), some (.int x1), none, some (.int v4), some (.int r2)]) pX10_reads_59 rfl ic_1 e4.symm rfl ?_
  refine G_iload_n (i := 1) pX10_reads_62 rfl rfl ?_
  refine G_iconst pX10_reads_63 ic_4 ?_
  refine G_icmp_ne pX10_reads_64 (fun c5 => ?_) (fun c5 => ?_)
  · have h := h.1 c5
    refine G_aload_n (i := 0) pX10_reads_74 rfl rfl ?_
    refine G_iload_n (i := 1) pX10_reads_75 rfl rfl ?_
    refine G_iconst pX10_reads_76 ic_1 ?_
    refine G_iadd pX10_reads_77 ?_
    refine G_callV1i (b := 76) (ci := 10) (N := 29) pX10_reads_78 (hR_X10_reads _ (x1 + (1 : Int32)) _ _ hrf h) mV_X10_reads ml_RX10_183 (Nat.le_refl _) ⟨Nat.le_refl _, Nat.le_refl _, Nat.le_refl _⟩ (Nat.le_of_ble_eq_true rfl) ltk_76 shk_76 rfl ?_
    intro r7 rf m6 hrf h hr7
    exact gB_X10_reads_81 hd0 hR_X10_readsQ hR_X10_readsT hR_X10_reads hrf x1 v4 r2 r7 hX22 _ h
  · have h := h.2 c5
    refine G_aload_n (i := 0) pX10_reads_67 rfl rfl ?_
    refine G_callV0i (b := 76) (ci := 10) (N := 29) pX10_reads_68 (hR_X10_readsQ _ _ _ hrf h) mV_X10_readsQ ml_RX10_174 (Nat.le_refl _) ⟨Nat.le_refl _, Nat.le_refl _, Nat.le_refl _⟩ (Nat.le_of_ble_eq_true rfl) ltk_76 shk_76 rfl ?_
    intro r9 rf m8 hrf h hr9
    refine G_goto pX10_reads_71 ?_
    exact gB_X10_reads_81 hd0 hR_X10_readsQ hR_X10_readsT hR_X10_reads hrf x1 v4 r2 r9 hX22 _ h
def B_X10_reads_22 (R_X10_readsQ : MMt → (Int32 → MMt → Prop) → Prop) (R_X10_readsT : MMt → (Int32 → MMt → Prop) → Prop) (R_X10_reads : Int32 → MMt → (Int32 → MMt → Prop) → Prop) (x1 : Int32) (x2 : Int32) (x3 : Int32) (mem : MMt) (Q : Int32 → MMt → Prop) : Prop := LOOP (σ := Int32 × Int32 × MMt) (fun X22 z => (fun (x2 : Int32) (x3 : Int32) (mem : MMt) => ((x2 = 0 → (BZ x2 ∧ Q x2 mem)) ∧ (¬ x2 = 0 → L_X10_isSign x1 mem (fun r3 m2 => ((r3 = 0 → (BZ x2 ∧ Q x2 m2)) ∧ (¬ r3 = 0 → ((¬ x1 = (2 : Int32) → B_X10_reads_43 R_X10_readsQ R_X10_readsT R_X10_reads X22 x1 x3 m2 Q) ∧ (x1 = (2 : Int32) → ((¬ x3 = 0 → (BZ x2 ∧ Q x2 m2)) ∧ (x3 = 0 → B_X10_reads_43 R_X10_readsQ R_X10_readsT R_X10_reads X22 x1 x3 m2 Q)))))))))) z.1 z.2.1 z.2.2) (x2, x3, mem)
set_option maxRecDepth 4000 in
theorem gB_X10_reads_22 {sx : Nat × (Nat → Int32)} {R_X10_readsQ : MMt → (Int32 → MMt → Prop) → Prop} {R_X10_readsT : MMt → (Int32 → MMt → Prop) → Prop} {R_X10_reads : Int32 → MMt → (Int32 → MMt → Prop) → Prop} {rf : RFt} {Q : Int32 → MMt → Prop} {d0 : Nat} (hd0 : 3 ≤ d0) (hR_X10_readsQ : ∀ (rf : RFt) (mem : MMt) (Q : Int32 → MMt → Prop), RFok rf → R_X10_readsQ mem Q → Ct sx yX10_readsQ cX10_readsQ 3 (some .boolean) d0 [.ref 76] NX NX rf mem (QQi (RFok) Q)) (hR_X10_readsT : ∀ (rf : RFt) (mem : MMt) (Q : Int32 → MMt → Prop), RFok rf → R_X10_readsT mem Q → Ct sx yX10_readsT cX10_readsT 1 (some .boolean) d0 [.ref 76] NX NX rf mem (QQi (RFok) Q)) (hR_X10_reads : ∀ (rf : RFt) (a1 : Int32) (mem : MMt) (Q : Int32 → MMt → Prop), RFok rf → R_X10_reads a1 mem Q → Ct sx yX10_reads cX10_reads 5 (some .boolean) d0 [.ref 76, .int a1] NX NX rf mem (QQi (RFok) Q)) (hrf : RFok rf) (x1 : Int32) (x2 : Int32) (x3 : Int32) (mem : MMt) (h : B_X10_reads_22 R_X10_readsQ R_X10_readsT R_X10_reads x1 x2 x3 mem Q) : G sx yX10_reads cX10_reads 5 (some .boolean) (d0 + 1) NX NX (QQi (RFok) Q) NX rf mem 22 [some (.ref 76), some (.int x1), some (.int x2), some (.int x3), none] [] := by
  obtain ⟨I, ⟨n, h0⟩, hI⟩ := h
  have key : ∀ (n : Nat) (rf : RFt) (x2 : Int32) (x3 : Int32) (mem : MMt), RFok rf → I n (x2, x3, mem) → G sx yX10_reads cX10_reads 5 (some .boolean) (d0 + 1) NX NX (QQi (RFok) Q) NX rf mem 22 [some (.ref 76), some (.int x1), some (.int x2), some (.int x3), none] [] := by
    intro n
    induction n using Nat.strongRecOn with
    | _ n ih =>
    intro rf x2 x3 mem hrf h0
    have hX22 : ∀ (rf : RFt) (x2 : Int32) (x3 : Int32) (mem : MMt), RFok rf → (fun s' => ∃ m, m < n ∧ I m s') (x2, x3, mem) → G sx yX10_reads cX10_reads 5 (some .boolean) (d0 + 1) NX NX (QQi (RFok) Q) NX rf mem 22 [some (.ref 76), some (.int x1), some (.int x2), some (.int x3), none] [] := fun rf x2 x3 mem hrf ⟨m, hm, hi⟩ => ih m hm rf x2 x3 mem hrf hi
    have h := hI n _ h0
    clear ih h0
    try dsimp only at h
    refine G_iload_n (i := 2) pX10_reads_22 rfl rfl ?_
    refine G_if_eq pX10_reads_23 (fun c1 => ?_) (fun c1 => ?_)
    · have h := h.1 c1
      refine G_iload_n (i := 2) pX10_reads_92 rfl rfl ?_
      exact G_ireturn (len := 1) pX10_reads_93 ⟨hrf, _, rfl, h.2⟩ h.1.rt
    · have h := h.2 c1
      refine G_aload_n (i := 0) pX10_reads_26 rfl rfl ?_
      refine G_iload_n (i := 1) pX10_reads_27 rfl rfl ?_
      refine G_callV1i (b := 76) (ci := 10) (N := 29) pX10_reads_28 (g_X10_isSign x1 hrf _ h) mV_X10_isSign ml_RX10_186 (by omega) ⟨Nat.le_refl _, Nat.le_refl _, Nat.le_refl _⟩ (Nat.le_of_ble_eq_true rfl) ltk_76 shk_76 rfl ?_
      intro r3 rf m2 hrf h hr3
      refine G_if_eq pX10_reads_31 (fun c4 => ?_) (fun c4 => ?_)
      · have h := h.1 c4
        refine G_iload_n (i := 2) pX10_reads_92 rfl rfl ?_
        exact G_ireturn (len := 1) pX10_reads_93 ⟨hrf, _, rfl, h.2⟩ h.1.rt
      · have h := h.2 c4
        refine G_iload_n (i := 1) pX10_reads_34 rfl rfl ?_
        refine G_iconst pX10_reads_35 ic_2 ?_
        refine G_icmp_ne pX10_reads_36 (fun c5 => ?_) (fun c5 => ?_)
        · have h := h.1 c5
          refine G_wk (L2 := [some (.ref 76), some (.int x1), none, some (.int x3), none]) ⟨Or.inr rfl, Or.inr rfl, Or.inl rfl, Or.inr rfl, Or.inr rfl, trivial⟩ ?_
          exact gB_X10_reads_43 hd0 hR_X10_readsQ hR_X10_readsT hR_X10_reads hrf x1 x3 hX22 _ h
        · have h := h.2 c5
          refine G_iload_n (i := 3) pX10_reads_39 rfl rfl ?_
          refine G_if_ne pX10_reads_40 (fun c6 => ?_) (fun c6 => ?_)
          · have h := h.1 c6
            refine G_iload_n (i := 2) pX10_reads_92 rfl rfl ?_
            exact G_ireturn (len := 1) pX10_reads_93 ⟨hrf, _, rfl, h.2⟩ h.1.rt
          · have h := h.2 c6
            refine G_wk (L2 := [some (.ref 76), some (.int x1), none, some (.int x3), none]) ⟨Or.inr rfl, Or.inr rfl, Or.inl rfl, Or.inr rfl, Or.inr rfl, trivial⟩ ?_
            exact gB_X10_reads_43 hd0 hR_X10_readsQ hR_X10_readsT hR_X10_reads hrf x1 x3 hX22 _ h
  exact key n rf _ _ _ hrf h0
def B_X10_reads_19 (R_X10_readsQ : MMt → (Int32 → MMt → Prop) → Prop) (R_X10_readsT : MMt → (Int32 → MMt → Prop) → Prop) (R_X10_reads : Int32 → MMt → (Int32 → MMt → Prop) → Prop) (x1 : Int32) (s0 : Int32) (mem : MMt) (Q : Int32 → MMt → Prop) : Prop := B_X10_reads_22 R_X10_readsQ R_X10_readsT R_X10_reads x1 s0 (0 : Int32) mem Q
set_option maxRecDepth 4000 in
theorem gB_X10_reads_19 {sx : Nat × (Nat → Int32)} {R_X10_readsQ : MMt → (Int32 → MMt → Prop) → Prop} {R_X10_readsT : MMt → (Int32 → MMt → Prop) → Prop} {R_X10_reads : Int32 → MMt → (Int32 → MMt → Prop) → Prop} {rf : RFt} {Q : Int32 → MMt → Prop} {d0 : Nat} (hd0 : 3 ≤ d0) (hR_X10_readsQ : ∀ (rf : RFt) (mem : MMt) (Q : Int32 → MMt → Prop), RFok rf → R_X10_readsQ mem Q → Ct sx yX10_readsQ cX10_readsQ 3 (some .boolean) d0 [.ref 76] NX NX rf mem (QQi (RFok) Q)) (hR_X10_readsT : ∀ (rf : RFt) (mem : MMt) (Q : Int32 → MMt → Prop), RFok rf → R_X10_readsT mem Q → Ct sx yX10_readsT cX10_readsT 1 (some .boolean) d0 [.ref 76] NX NX rf mem (QQi (RFok) Q)) (hR_X10_reads : ∀ (rf : RFt) (a1 : Int32) (mem : MMt) (Q : Int32 → MMt → Prop), RFok rf → R_X10_reads a1 mem Q → Ct sx yX10_reads cX10_reads 5 (some .boolean) d0 [.ref 76, .int a1] NX NX rf mem (QQi (RFok) Q)) (hrf : RFok rf) (x1 : Int32) (s0 : Int32) (mem : MMt) (h : B_X10_reads_19 R_X10_readsQ R_X10_readsT R_X10_reads x1 s0 mem Q) : G sx yX10_reads cX10_reads 5 (some .boolean) (d0 + 1) NX NX (QQi (RFok) Q) NX rf mem 19 [some (.ref 76), some (.int x1), none, none, none] [.int s0] := by
  unfold B_X10_reads_19 at h
  refine G_istore_n (i := 2) (L' := [some (.ref 76), some (.int x1), some (.int s0), none, none]) pX10_reads_19 rfl rfl ?_
  refine G_iconst pX10_reads_20 ic_0 ?_
  refine G_istore_n (i := 3) (L' := [some (.ref 76), some (.int x1), some (.int s0), some (.int (0 : Int32)), none]) pX10_reads_21 rfl rfl ?_
  exact gB_X10_reads_22 hd0 hR_X10_readsQ hR_X10_readsT hR_X10_reads hrf x1 s0 (0 : Int32) _ h
def L_X10_reads (R_X10_readsQ : MMt → (Int32 → MMt → Prop) → Prop) (R_X10_readsT : MMt → (Int32 → MMt → Prop) → Prop) (R_X10_reads : Int32 → MMt → (Int32 → MMt → Prop) → Prop) (a1 : Int32) (mem : MMt) (Q : Int32 → MMt → Prop) : Prop := ((¬ a1 = (4 : Int32) → R_X10_reads (a1 + (1 : Int32)) mem (fun r3 m2 => B_X10_reads_19 R_X10_readsQ R_X10_readsT R_X10_reads a1 r3 m2 Q)) ∧ (a1 = (4 : Int32) → R_X10_readsQ mem (fun r5 m4 => B_X10_reads_19 R_X10_readsQ R_X10_readsT R_X10_reads a1 r5 m4 Q)))
set_option maxRecDepth 4000 in
theorem g_X10_reads {sx : Nat × (Nat → Int32)} {R_X10_readsQ : MMt → (Int32 → MMt → Prop) → Prop} {R_X10_readsT : MMt → (Int32 → MMt → Prop) → Prop} {R_X10_reads : Int32 → MMt → (Int32 → MMt → Prop) → Prop} {rf : RFt} {Q : Int32 → MMt → Prop} {d0 : Nat} (hd0 : 3 ≤ d0) (hR_X10_readsQ : ∀ (rf : RFt) (mem : MMt) (Q : Int32 → MMt → Prop), RFok rf → R_X10_readsQ mem Q → Ct sx yX10_readsQ cX10_readsQ 3 (some .boolean) d0 [.ref 76] NX NX rf mem (QQi (RFok) Q)) (hR_X10_readsT : ∀ (rf : RFt) (mem : MMt) (Q : Int32 → MMt → Prop), RFok rf → R_X10_readsT mem Q → Ct sx yX10_readsT cX10_readsT 1 (some .boolean) d0 [.ref 76] NX NX rf mem (QQi (RFok) Q)) (hR_X10_reads : ∀ (rf : RFt) (a1 : Int32) (mem : MMt) (Q : Int32 → MMt → Prop), RFok rf → R_X10_reads a1 mem Q → Ct sx yX10_reads cX10_reads 5 (some .boolean) d0 [.ref 76, .int a1] NX NX rf mem (QQi (RFok) Q)) (a1 : Int32) (hrf : RFok rf) (mem : MMt) (h : L_X10_reads R_X10_readsQ R_X10_readsT R_X10_reads a1 mem Q) : Ct sx yX10_reads cX10_reads 5 (some .boolean) (d0 + 1) [.ref 76, .int a1] NX NX rf mem (QQi (RFok) Q) := by
  refine Ct_of [some (.ref 76), some (.int a1), none, none, none] (by decide +kernel) (by simp [Lof, Value.category]) rfl ?_
  unfold L_X10_reads at h
  refine G_iload_n (i := 1) pX10_reads_0 rfl rfl ?_
  refine G_iconst pX10_reads_1 ic_4 ?_
  refine G_icmp_ne pX10_reads_2 (fun c1 => ?_) (fun c1 => ?_)
  · have h := h.1 c1
    refine G_aload_n (i := 0) pX10_reads_12 rfl rfl ?_
    refine G_iload_n (i := 1) pX10_reads_13 rfl rfl ?_
    refine G_iconst pX10_reads_14 ic_1 ?_
    refine G_iadd pX10_reads_15 ?_
    refine G_callV1i (b := 76) (ci := 10) (N := 29) pX10_reads_16 (hR_X10_reads _ (a1 + (1 : Int32)) _ _ hrf h) mV_X10_reads ml_RX10_183 (Nat.le_refl _) ⟨Nat.le_refl _, Nat.le_refl _, Nat.le_refl _⟩ (Nat.le_of_ble_eq_true rfl) ltk_76 shk_76 rfl ?_
    intro r3 rf m2 hrf h hr3
    exact gB_X10_reads_19 hd0 hR_X10_readsQ hR_X10_readsT hR_X10_reads hrf a1 r3 _ h
  · have h := h.2 c1
    refine G_aload_n (i := 0) pX10_reads_5 rfl rfl ?_
    refine G_callV0i (b := 76) (ci := 10) (N := 29) pX10_reads_6 (hR_X10_readsQ _ _ _ hrf h) mV_X10_readsQ ml_RX10_174 (Nat.le_refl _) ⟨Nat.le_refl _, Nat.le_refl _, Nat.le_refl _⟩ (Nat.le_of_ble_eq_true rfl) ltk_76 shk_76 rfl ?_
    intro r5 rf m4 hrf h hr5
    refine G_goto pX10_reads_9 ?_
    exact gB_X10_reads_19 hd0 hR_X10_readsQ hR_X10_readsT hR_X10_reads hrf a1 r5 _ h
