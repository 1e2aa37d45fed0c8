/-- filling a row -/
def fil (mem : MMt) (q n : Nat) (v : Int32) : MMt := fun b j => if b = q ∧ j < n then v else mem b j
theorem fil_step {mem : MMt} {q k : Nat} {v : Int32} : up2 (fil mem q k v) q k v = fil mem q (k + 1) v := by
  funext b j
  unfold up2 fil
  by_cases h1 : b = q
  · by_cases h2 : j = k
    · simp [h1, h2]
    · by_cases h3 : j < k
      · simp [h1, h2, h3, Nat.lt_succ_of_lt h3]
      · have h4 : ¬ j < k + 1 := by omega
        simp [h1, h2, h3, h4]
  · simp [h1]
theorem fillB_spec {q n0 : Nat} {v : Int32} (hn : n0 < 2 ^ 31) (mem : MMt) {Q : MMt → Prop} (h : Q (fil mem q n0 v.toInt8.toInt32)) : L_J7_fill_031fb q n0 v mem Q := by
  intro v1 e1
  refine ⟨fun n z => ∃ k : Nat, k + n = n0 ∧ z.1 = nI k ∧ z.2 = fil mem q k v.toInt8.toInt32, ⟨n0, 0, by omega, nI_0.symm, ?_⟩, ?_⟩
  · funext b j; simp [fil]
  · rintro n ⟨i, m⟩ ⟨k, hk, e2, e3⟩
    dsimp only at e2 e3 ⊢
    subst e2; subst e3; subst e1
    refine ⟨fun c => ?_, fun c => ?_⟩
    · have : n0 ≤ k := (nI_leI hn (by omega)).mp c
      obtain rfl : k = n0 := by omega
      exact h
    · have hkn : k < n0 := by
        rcases Nat.lt_or_ge k n0 with q1 | q1
        · exact q1
        · exact absurd ((nI_leI hn (by omega)).mpr q1) c
      refine ⟨vp_in_nI hkn hn, fun m2 em2 v4 ev4 => ⟨n - 1, by omega, k + 1, by omega, ?_, ?_⟩⟩
      · rw [ev4]; exact nI_1 k
      · rw [em2, nI_clamp (by omega)]; exact fil_step
theorem fillI_spec {q n0 : Nat} {v : Int32} (hn : n0 < 2 ^ 31) (mem : MMt) {Q : MMt → Prop} (h : Q (fil mem q n0 v)) : L_J7_fill_53178 q n0 v mem Q := by
  intro v1 e1
  refine ⟨fun n z => ∃ k : Nat, k + n = n0 ∧ z.1 = nI k ∧ z.2 = fil mem q k v, ⟨n0, 0, by omega, nI_0.symm, ?_⟩, ?_⟩
  · funext b j; simp [fil]
  · rintro n ⟨i, m⟩ ⟨k, hk, e2, e3⟩
    dsimp only at e2 e3 ⊢
    subst e2; subst e3; subst e1
    refine ⟨fun c => ?_, fun c => ?_⟩
    · have : n0 ≤ k := (nI_leI hn (by omega)).mp c
      obtain rfl : k = n0 := by omega
      exact h
    · have hkn : k < n0 := by
        rcases Nat.lt_or_ge k n0 with q1 | q1
        · exact q1
        · exact absurd ((nI_leI hn (by omega)).mpr q1) c
      refine ⟨vp_in_nI hkn hn, fun m2 em2 v4 ev4 => ⟨n - 1, by omega, k + 1, by omega, ?_, ?_⟩⟩
      · rw [ev4]; exact nI_1 k
      · rw [em2, nI_clamp (by omega)]; exact fil_step
theorem kforget {sx : Nat × (Nat → Int32)} {nx : Nat} {rf : RFt} {mem : MMt} (q a : Nat) (hq : q < nx) (hs : SH q = (5 + 10, 10)) (ha : a < nx) (hsa : SH a = (1, 410)) (hr : rf q 9 = some a) : Ct sx yX5_forgetPulls cX5_forgetPulls 1 none 2 [.ref q] nx nx rf mem (fun v rf' mem' => v = none ∧ rf' = rf ∧ mem' = fgm mem a) := by
  refine Ct_of [some (.ref q)] (by decide +kernel) (by simp [Lof, Value.category]) rfl ?_
  refine G_aload_n (i := 0) pX5_forgetPulls_0 rfl rfl ?_
  refine G_getR (ci := 5) (j := 9) (N := 10) pX5_forgetPulls_1 fl_RX5_41 rfl hq hs (by decide) rfl hr ?_
  refine G_bipush pX5_forgetPulls_4 bi_100 ?_
  refine G_callS2v (M := fun z => z = rf) pX5_forgetPulls_6 (g_J7_fill_031fb (M := fun z => z = rf) a 410 (100 : Int32) hsa ha rfl _ (fillB_spec (by decide) _ (Q := fun m => m = fgm mem a) rfl)) mS_J7_fill_031fb ml_RX5_69 (by decide) ⟨Nat.le_refl _, Nat.le_refl _, Nat.le_refl _⟩ (Nat.le_of_ble_eq_true rfl) ?_
  rintro _ _ rfl rfl
  exact G_return (len := 1) pX5_forgetPulls_9 ⟨rfl, rfl, rfl⟩ rfl
set_option maxRecDepth 8000 in
set_option maxHeartbeats 4000000 in
theorem k_X1_init_3 {sx : Nat × (Nat → Int32)} {rf : RFt} {mem : MMt} (hc : ∀ j, rf 3 j = none ∧ mem 3 j = 0) : Ct sx yX1_init cX1_init 1 none 1 [.ref 3] 4 4 rf mem (fun v rf' mem' => v = none ∧ Made 3 4 rf mem rf' mem') := by
  refine Ct_of [some (.ref 3)] (by decide +kernel) (by simp [Lof, Value.category]) rfl ?_
  refine G_aload_n (i := 0) pX1_init_0 rfl rfl ?_
  refine G_objInit pX1_init_1 mlo_RX1_3 wobj (by decide) (by decide) ?_
  refine G_return (len := 1) pX1_init_4 ⟨rfl, ?_⟩ rfl
  refine ⟨fun a j ha => ⟨?_, ?_⟩, fun a j ha hb => ?_⟩
  · rfl
  · rfl
  · have hr : (3 ≤ a ∧ a < 4) := by omega
    rcases hr with hr
    · have ea : a = 3 := by omega
      subst ea
      clear hr ha hb
      constructor
      · rcases j with (_ | (_ | (_ | (_ | (_ | j))))) <;> (simp only [upr, clr, (hc _).1]; rfl)
      · (simp only [up2, clm, (hc _).2]; rfl)
set_option maxRecDepth 8000 in
set_option maxHeartbeats 4000000 in
theorem k_X1_init_4 {sx : Nat × (Nat → Int32)} {rf : RFt} {mem : MMt} (hc : ∀ j, rf 4 j = none ∧ mem 4 j = 0) : Ct sx yX1_init cX1_init 1 none 1 [.ref 4] 5 5 rf mem (fun v rf' mem' => v = none ∧ Made 4 5 rf mem rf' mem') := by
  refine Ct_of [some (.ref 4)] (by decide +kernel) (by simp [Lof, Value.category]) rfl ?_
  refine G_aload_n (i := 0) pX1_init_0 rfl rfl ?_
  refine G_objInit pX1_init_1 mlo_RX1_3 wobj (by decide) (by decide) ?_
  refine G_return (len := 1) pX1_init_4 ⟨rfl, ?_⟩ rfl
  refine ⟨fun a j ha => ⟨?_, ?_⟩, fun a j ha hb => ?_⟩
  · rfl
  · rfl
  · have hr : (4 ≤ a ∧ a < 5) := by omega
    rcases hr with hr
    · have ea : a = 4 := by omega
      subst ea
      clear hr ha hb
      constructor
      · rcases j with (_ | (_ | (_ | (_ | (_ | j))))) <;> (simp only [upr, clr, (hc _).1]; rfl)
      · (simp only [up2, clm, (hc _).2]; rfl)
set_option maxRecDepth 8000 in
set_option maxHeartbeats 4000000 in
theorem k_X1_init_5 {sx : Nat × (Nat → Int32)} {rf : RFt} {mem : MMt} (hc : ∀ j, rf 5 j = none ∧ mem 5 j = 0) : Ct sx yX1_init cX1_init 1 none 1 [.ref 5] 6 6 rf mem (fun v rf' mem' => v = none ∧ Made 5 6 rf mem rf' mem') := by
  refine Ct_of [some (.ref 5)] (by decide +kernel) (by simp [Lof, Value.category]) rfl ?_
  refine G_aload_n (i := 0) pX1_init_0 rfl rfl ?_
  refine G_objInit pX1_init_1 mlo_RX1_3 wobj (by decide) (by decide) ?_
  refine G_return (len := 1) pX1_init_4 ⟨rfl, ?_⟩ rfl
  refine ⟨fun a j ha => ⟨?_, ?_⟩, fun a j ha hb => ?_⟩
  · rfl
  · rfl
  · have hr : (5 ≤ a ∧ a < 6) := by omega
    rcases hr with hr
    · have ea : a = 5 := by omega
      subst ea
      clear hr ha hb
      constructor
      · rcases j with (_ | (_ | (_ | (_ | (_ | j))))) <;> (simp only [upr, clr, (hc _).1]; rfl)
      · (simp only [up2, clm, (hc _).2]; rfl)
set_option maxRecDepth 8000 in
set_option maxHeartbeats 4000000 in
theorem k_X1_init_6 {sx : Nat × (Nat → Int32)} {rf : RFt} {mem : MMt} (hc : ∀ j, rf 6 j = none ∧ mem 6 j = 0) : Ct sx yX1_init cX1_init 1 none 1 [.ref 6] 7 7 rf mem (fun v rf' mem' => v = none ∧ Made 6 7 rf mem rf' mem') := by
  refine Ct_of [some (.ref 6)] (by decide +kernel) (by simp [Lof, Value.category]) rfl ?_
  refine G_aload_n (i := 0) pX1_init_0 rfl rfl ?_
  refine G_objInit pX1_init_1 mlo_RX1_3 wobj (by decide) (by decide) ?_
  refine G_return (len := 1) pX1_init_4 ⟨rfl, ?_⟩ rfl
  refine ⟨fun a j ha => ⟨?_, ?_⟩, fun a j ha hb => ?_⟩
  · rfl
  · rfl
  · have hr : (6 ≤ a ∧ a < 7) := by omega
    rcases hr with hr
    · have ea : a = 6 := by omega
      subst ea
      clear hr ha hb
      constructor
      · rcases j with (_ | (_ | (_ | (_ | (_ | j))))) <;> (simp only [upr, clr, (hc _).1]; rfl)
      · (simp only [up2, clm, (hc _).2]; rfl)
set_option maxRecDepth 8000 in
set_option maxHeartbeats 4000000 in
theorem k_X1_init_7 {sx : Nat × (Nat → Int32)} {rf : RFt} {mem : MMt} (hc : ∀ j, rf 7 j = none ∧ mem 7 j = 0) : Ct sx yX1_init cX1_init 1 none 1 [.ref 7] 8 8 rf mem (fun v rf' mem' => v = none ∧ Made 7 8 rf mem rf' mem') := by
  refine Ct_of [some (.ref 7)] (by decide +kernel) (by simp [Lof, Value.category]) rfl ?_
  refine G_aload_n (i := 0) pX1_init_0 rfl rfl ?_
  refine G_objInit pX1_init_1 mlo_RX1_3 wobj (by decide) (by decide) ?_
  refine G_return (len := 1) pX1_init_4 ⟨rfl, ?_⟩ rfl
  refine ⟨fun a j ha => ⟨?_, ?_⟩, fun a j ha hb => ?_⟩
  · rfl
  · rfl
  · have hr : (7 ≤ a ∧ a < 8) := by omega
    rcases hr with hr
    · have ea : a = 7 := by omega
      subst ea
      clear hr ha hb
      constructor
      · rcases j with (_ | (_ | (_ | (_ | (_ | j))))) <;> (simp only [upr, clr, (hc _).1]; rfl)
      · (simp only [up2, clm, (hc _).2]; rfl)
set_option maxRecDepth 8000 in
set_option maxHeartbeats 4000000 in
theorem k_X1_init_8 {sx : Nat × (Nat → Int32)} {rf : RFt} {mem : MMt} (hc : ∀ j, rf 8 j = none ∧ mem 8 j = 0) : Ct sx yX1_init cX1_init 1 none 1 [.ref 8] 9 9 rf mem (fun v rf' mem' => v = none ∧ Made 8 9 rf mem rf' mem') := by
  refine Ct_of [some (.ref 8)] (by decide +kernel) (by simp [Lof, Value.category]) rfl ?_
  refine G_aload_n (i := 0) pX1_init_0 rfl rfl ?_
  refine G_objInit pX1_init_1 mlo_RX1_3 wobj (by decide) (by decide) ?_
  refine G_return (len := 1) pX1_init_4 ⟨rfl, ?_⟩ rfl
  refine ⟨fun a j ha => ⟨?_, ?_⟩, fun a j ha hb => ?_⟩
  · rfl
  · rfl
  · have hr : (8 ≤ a ∧ a < 9) := by omega
    rcases hr with hr
    · have ea : a = 8 := by omega
      subst ea
      clear hr ha hb
      constructor
      · rcases j with (_ | (_ | (_ | (_ | (_ | j))))) <;> (simp only [upr, clr, (hc _).1]; rfl)
      · (simp only [up2, clm, (hc _).2]; rfl)
set_option maxRecDepth 8000 in
set_option maxHeartbeats 4000000 in
theorem k_X1_init_9 {sx : Nat × (Nat → Int32)} {rf : RFt} {mem : MMt} (hc : ∀ j, rf 9 j = none ∧ mem 9 j = 0) : Ct sx yX1_init cX1_init 1 none 1 [.ref 9] 10 10 rf mem (fun v rf' mem' => v = none ∧ Made 9 10 rf mem rf' mem') := by
  refine Ct_of [some (.ref 9)] (by decide +kernel) (by simp [Lof, Value.category]) rfl ?_
  refine G_aload_n (i := 0) pX1_init_0 rfl rfl ?_
  refine G_objInit pX1_init_1 mlo_RX1_3 wobj (by decide) (by decide) ?_
  refine G_return (len := 1) pX1_init_4 ⟨rfl, ?_⟩ rfl
  refine ⟨fun a j ha => ⟨?_, ?_⟩, fun a j ha hb => ?_⟩
  · rfl
  · rfl
  · have hr : (9 ≤ a ∧ a < 10) := by omega
    rcases hr with hr
    · have ea : a = 9 := by omega
      subst ea
      clear hr ha hb
      constructor
      · rcases j with (_ | (_ | (_ | (_ | (_ | j))))) <;> (simp only [upr, clr, (hc _).1]; rfl)
      · (simp only [up2, clm, (hc _).2]; rfl)
set_option maxRecDepth 8000 in
set_option maxHeartbeats 4000000 in
theorem k_X1_init_10 {sx : Nat × (Nat → Int32)} {rf : RFt} {mem : MMt} (hc : ∀ j, rf 10 j = none ∧ mem 10 j = 0) : Ct sx yX1_init cX1_init 1 none 1 [.ref 10] 11 11 rf mem (fun v rf' mem' => v = none ∧ Made 10 11 rf mem rf' mem') := by
  refine Ct_of [some (.ref 10)] (by decide +kernel) (by simp [Lof, Value.category]) rfl ?_
  refine G_aload_n (i := 0) pX1_init_0 rfl rfl ?_
  refine G_objInit pX1_init_1 mlo_RX1_3 wobj (by decide) (by decide) ?_
  refine G_return (len := 1) pX1_init_4 ⟨rfl, ?_⟩ rfl
  refine ⟨fun a j ha => ⟨?_, ?_⟩, fun a j ha hb => ?_⟩
  · rfl
  · rfl
  · have hr : (10 ≤ a ∧ a < 11) := by omega
    rcases hr with hr
    · have ea : a = 10 := by omega
      subst ea
      clear hr ha hb
      constructor
      · rcases j with (_ | (_ | (_ | (_ | (_ | j))))) <;> (simp only [upr, clr, (hc _).1]; rfl)
      · (simp only [up2, clm, (hc _).2]; rfl)
set_option maxRecDepth 8000 in
set_option maxHeartbeats 4000000 in
theorem k_X0_init_1 {sx : Nat × (Nat → Int32)} {rf : RFt} {mem : MMt} (hc : ∀ j, rf 1 j = none ∧ mem 1 j = 0) : Ct sx yX0_init cX0_init 2 none 2 [.ref 1] 2 11 rf mem (fun v rf' mem' => v = none ∧ Made 1 11 rf mem rf' mem') := by
  refine Ct_of [some (.ref 1), none] (by decide +kernel) (by simp [Lof, Value.category]) rfl ?_
  refine G_aload_n (i := 0) pX0_init_0 rfl rfl ?_
  refine G_objInit pX0_init_1 mlo_RX0_3 wobj (by decide) (by decide) ?_
  refine G_aload_n (i := 0) pX0_init_4 rfl rfl ?_
  refine G_bipush pX0_init_5 bi_8 ?_
  refine G_anew (nx := 2) (N := 8) (kd := 2) pX0_init_7 wcl2_RX0_9 (Or.inl ⟨rfl, rfl⟩) shk_2 (by decide) (by decide) (by decide) ⟨by decide, by decide, by decide⟩ ?_
  refine G_putRF (ci := 0) (j := 0) (N := 4) pX0_init_10 fx_RX0_11 rfl rfl (by decide) shk_1 (by decide) rfl (fun _ => ⟨rfl, rfl⟩) ?_
  refine G_iconst pX0_init_13 ic_0 ?_
  refine G_istore_n (i := 1) (L' := [some (.ref 1), some (.int (0 : Int32))]) pX0_init_14 rfl rfl ?_
  refine G_iload_n (i := 1) pX0_init_15 rfl rfl ?_
  refine G_bipush pX0_init_16 bi_8 ?_
  refine G_icmp_ge pX0_init_18 (fun hc => absurd hc (by decide)) (fun _ => ?_)
  refine G_aload_n (i := 0) pX0_init_21 rfl rfl ?_
  refine G_getR (ci := 0) (j := 0) (N := 4) (r := 2) pX0_init_22 fly_RX0_11 rfl (by decide) shk_1 (by decide) rfl (by rw [upr_self]) ?_
  refine G_iload_n (i := 1) pX0_init_25 rfl rfl ?_
  refine G_new (nx := 3) pX0_init_26 cn_RX0_9 shk_3 ⟨by decide, by decide, by decide⟩ ?_
  refine G_dup pX0_init_29 rfl ?_
  refine G_callI0 (b := 3) (nx := 4) (nx1 := 4) pX0_init_30 (k_X1_init_3 (fun j => ⟨clr_self, clm_self⟩)) mI_X1_init mli_RX0_17 (by decide) ⟨by decide, by decide, by decide⟩ (by decide) ?_
  rintro _ rf1 mem1 ⟨rfl, mk1⟩ _
  refine G_aast (ci := 1) pX0_init_33 (by decide) shk_2 (Or.inl ⟨rfl, rfl⟩) (vpl (by decide)) (by decide) shk_3 ?_
  rw [show (0 : Int32).toNatClampNeg = 0 by decide]
  refine G_iincW (L' := [some (.ref 1), some (.int (1 : Int32))]) pX0_init_34 rfl ic_1 (by decide) rfl ?_
  refine G_goto pX0_init_37 ?_
  refine G_iload_n (i := 1) pX0_init_15 rfl rfl ?_
  refine G_bipush pX0_init_16 bi_8 ?_
  refine G_icmp_ge pX0_init_18 (fun hc => absurd hc (by decide)) (fun _ => ?_)
  refine G_aload_n (i := 0) pX0_init_21 rfl rfl ?_
  refine G_getR (ci := 0) (j := 0) (N := 4) (r := 2) pX0_init_22 fly_RX0_11 rfl (by decide) shk_1 (by decide) rfl (by rw [upr_ne (by decide), (mk1.1 _ _ (by decide)).1, clr_ne (by decide), upr_self]) ?_
  refine G_iload_n (i := 1) pX0_init_25 rfl rfl ?_
  refine G_new (nx := 4) pX0_init_26 cn_RX0_9 shk_4 ⟨by decide, by decide, by decide⟩ ?_
  refine G_dup pX0_init_29 rfl ?_
  refine G_callI0 (b := 4) (nx := 5) (nx1 := 5) pX0_init_30 (k_X1_init_4 (fun j => ⟨clr_self, clm_self⟩)) mI_X1_init mli_RX0_17 (by decide) ⟨by decide, by decide, by decide⟩ (by decide) ?_
  rintro _ rf2 mem2 ⟨rfl, mk2⟩ _
  refine G_aast (ci := 1) pX0_init_33 (by decide) shk_2 (Or.inl ⟨rfl, rfl⟩) (vpl (by decide)) (by decide) shk_4 ?_
  rw [show (1 : Int32).toNatClampNeg = 1 by decide]
  refine G_iincW (L' := [some (.ref 1), some (.int (2 : Int32))]) pX0_init_34 rfl ic_1 (by decide) rfl ?_
  refine G_goto pX0_init_37 ?_
  refine G_iload_n (i := 1) pX0_init_15 rfl rfl ?_
  refine G_bipush pX0_init_16 bi_8 ?_
  refine G_icmp_ge pX0_init_18 (fun hc => absurd hc (by decide)) (fun _ => ?_)
  refine G_aload_n (i := 0) pX0_init_21 rfl rfl ?_
  refine G_getR (ci := 0) (j := 0) (N := 4) (r := 2) pX0_init_22 fly_RX0_11 rfl (by decide) shk_1 (by decide) rfl (by rw [upr_ne (by decide), (mk2.1 _ _ (by decide)).1, clr_ne (by decide), upr_ne (by decide), (mk1.1 _ _ (by decide)).1, clr_ne (by decide), upr_self]) ?_
  refine G_iload_n (i := 1) pX0_init_25 rfl rfl ?_
  refine G_new (nx := 5) pX0_init_26 cn_RX0_9 shk_5 ⟨by decide, by decide, by decide⟩ ?_
  refine G_dup pX0_init_29 rfl ?_
  refine G_callI0 (b := 5) (nx := 6) (nx1 := 6) pX0_init_30 (k_X1_init_5 (fun j => ⟨clr_self, clm_self⟩)) mI_X1_init mli_RX0_17 (by decide) ⟨by decide, by decide, by decide⟩ (by decide) ?_
  rintro _ rf3 mem3 ⟨rfl, mk3⟩ _
  refine G_aast (ci := 1) pX0_init_33 (by decide) shk_2 (Or.inl ⟨rfl, rfl⟩) (vpl (by decide)) (by decide) shk_5 ?_
  rw [show (2 : Int32).toNatClampNeg = 2 by decide]
  refine G_iincW (L' := [some (.ref 1), some (.int (3 : Int32))]) pX0_init_34 rfl ic_1 (by decide) rfl ?_
  refine G_goto pX0_init_37 ?_
  refine G_iload_n (i := 1) pX0_init_15 rfl rfl ?_
  refine G_bipush pX0_init_16 bi_8 ?_
  refine G_icmp_ge pX0_init_18 (fun hc => absurd hc (by decide)) (fun _ => ?_)
  refine G_aload_n (i := 0) pX0_init_21 rfl rfl ?_
  refine G_getR (ci := 0) (j := 0) (N := 4) (r := 2) pX0_init_22 fly_RX0_11 rfl (by decide) shk_1 (by decide) rfl (by rw [upr_ne (by decide), (mk3.1 _ _ (by decide)).1, clr_ne (by decide), upr_ne (by decide), (mk2.1 _ _ (by decide)).1, clr_ne (by decide), upr_ne (by decide), (mk1.1 _ _ (by decide)).1, clr_ne (by decide), upr_self]) ?_
  refine G_iload_n (i := 1) pX0_init_25 rfl rfl ?_
  refine G_new (nx := 6) pX0_init_26 cn_RX0_9 shk_6 ⟨by decide, by decide, by decide⟩ ?_
  refine G_dup pX0_init_29 rfl ?_
  refine G_callI0 (b := 6) (nx := 7) (nx1 := 7) pX0_init_30 (k_X1_init_6 (fun j => ⟨clr_self, clm_self⟩)) mI_X1_init mli_RX0_17 (by decide) ⟨by decide, by decide, by decide⟩ (by decide) ?_
  rintro _ rf4 mem4 ⟨rfl, mk4⟩ _
  refine G_aast (ci := 1) pX0_init_33 (by decide) shk_2 (Or.inl ⟨rfl, rfl⟩) (vpl (by decide)) (by decide) shk_6 ?_
  rw [show (3 : Int32).toNatClampNeg = 3 by decide]
  refine G_iincW (L' := [some (.ref 1), some (.int (4 : Int32))]) pX0_init_34 rfl ic_1 (by decide) rfl ?_
  refine G_goto pX0_init_37 ?_
  refine G_iload_n (i := 1) pX0_init_15 rfl rfl ?_
  refine G_bipush pX0_init_16 bi_8 ?_
  refine G_icmp_ge pX0_init_18 (fun hc => absurd hc (by decide)) (fun _ => ?_)
  refine G_aload_n (i := 0) pX0_init_21 rfl rfl ?_
  refine G_getR (ci := 0) (j := 0) (N := 4) (r := 2) pX0_init_22 fly_RX0_11 rfl (by decide) shk_1 (by decide) rfl (by rw [upr_ne (by decide), (mk4.1 _ _ (by decide)).1, clr_ne (by decide), upr_ne (by decide), (mk3.1 _ _ (by decide)).1, clr_ne (by decide), upr_ne (by decide), (mk2.1 _ _ (by decide)).1, clr_ne (by decide), upr_ne (by decide), (mk1.1 _ _ (by decide)).1, clr_ne (by decide), upr_self]) ?_
  refine G_iload_n (i := 1) pX0_init_25 rfl rfl ?_
  refine G_new (nx := 7) pX0_init_26 cn_RX0_9 shk_7 ⟨by decide, by decide, by decide⟩ ?_
  refine G_dup pX0_init_29 rfl ?_
  refine G_callI0 (b := 7) (nx := 8) (nx1 := 8) pX0_init_30 (k_X1_init_7 (fun j => ⟨clr_self, clm_self⟩)) mI_X1_init mli_RX0_17 (by decide) ⟨by decide, by decide, by decide⟩ (by decide) ?_
  rintro _ rf5 mem5 ⟨rfl, mk5⟩ _
  refine G_aast (ci := 1) pX0_init_33 (by decide) shk_2 (Or.inl ⟨rfl, rfl⟩) (vpl (by decide)) (by decide) shk_7 ?_
  rw [show (4 : Int32).toNatClampNeg = 4 by decide]
  refine G_iincW (L' := [some (.ref 1), some (.int (5 : Int32))]) pX0_init_34 rfl ic_1 (by decide) rfl ?_
  refine G_goto pX0_init_37 ?_
  refine G_iload_n (i := 1) pX0_init_15 rfl rfl ?_
  refine G_bipush pX0_init_16 bi_8 ?_
  refine G_icmp_ge pX0_init_18 (fun hc => absurd hc (by decide)) (fun _ => ?_)
  refine G_aload_n (i := 0) pX0_init_21 rfl rfl ?_
  refine G_getR (ci := 0) (j := 0) (N := 4) (r := 2) pX0_init_22 fly_RX0_11 rfl (by decide) shk_1 (by decide) rfl (by rw [upr_ne (by decide), (mk5.1 _ _ (by decide)).1, clr_ne (by decide), upr_ne (by decide), (mk4.1 _ _ (by decide)).1, clr_ne (by decide), upr_ne (by decide), (mk3.1 _ _ (by decide)).1, clr_ne (by decide), upr_ne (by decide), (mk2.1 _ _ (by decide)).1, clr_ne (by decide), upr_ne (by decide), (mk1.1 _ _ (by decide)).1, clr_ne (by decide), upr_self]) ?_
  refine G_iload_n (i := 1) pX0_init_25 rfl rfl ?_
  refine G_new (nx := 8) pX0_init_26 cn_RX0_9 shk_8 ⟨by decide, by decide, by decide⟩ ?_
  refine G_dup pX0_init_29 rfl ?_
  refine G_callI0 (b := 8) (nx := 9) (nx1 := 9) pX0_init_30 (k_X1_init_8 (fun j => ⟨clr_self, clm_self⟩)) mI_X1_init mli_RX0_17 (by decide) ⟨by decide, by decide, by decide⟩ (by decide) ?_
  rintro _ rf6 mem6 ⟨rfl, mk6⟩ _
  refine G_aast (ci := 1) pX0_init_33 (by decide) shk_2 (Or.inl ⟨rfl, rfl⟩) (vpl (by decide)) (by decide) shk_8 ?_
  rw [show (5 : Int32).toNatClampNeg = 5 by decide]
  refine G_iincW (L' := [some (.ref 1), some (.int (6 : Int32))]) pX0_init_34 rfl ic_1 (by decide) rfl ?_
  refine G_goto pX0_init_37 ?_
  refine G_iload_n (i := 1) pX0_init_15 rfl rfl ?_
  refine G_bipush pX0_init_16 bi_8 ?_
  refine G_icmp_ge pX0_init_18 (fun hc => absurd hc (by decide)) (fun _ => ?_)
  refine G_aload_n (i := 0) pX0_init_21 rfl rfl ?_
  refine G_getR (ci := 0) (j := 0) (N := 4) (r := 2) pX0_init_22 fly_RX0_11 rfl (by decide) shk_1 (by decide) rfl (by rw [upr_ne (by decide), (mk6.1 _ _ (by decide)).1, clr_ne (by decide), upr_ne (by decide), (mk5.1 _ _ (by decide)).1, clr_ne (by decide), upr_ne (by decide), (mk4.1 _ _ (by decide)).1, clr_ne (by decide), upr_ne (by decide), (mk3.1 _ _ (by decide)).1, clr_ne (by decide), upr_ne (by decide), (mk2.1 _ _ (by decide)).1, clr_ne (by decide), upr_ne (by decide), (mk1.1 _ _ (by decide)).1, clr_ne (by decide), upr_self]) ?_
  refine G_iload_n (i := 1) pX0_init_25 rfl rfl ?_
  refine G_new (nx := 9) pX0_init_26 cn_RX0_9 shk_9 ⟨by decide, by decide, by decide⟩ ?_
  refine G_dup pX0_init_29 rfl ?_
  refine G_callI0 (b := 9) (nx := 10) (nx1 := 10) pX0_init_30 (k_X1_init_9 (fun j => ⟨clr_self, clm_self⟩)) mI_X1_init mli_RX0_17 (by decide) ⟨by decide, by decide, by decide⟩ (by decide) ?_
  rintro _ rf7 mem7 ⟨rfl, mk7⟩ _
  refine G_aast (ci := 1) pX0_init_33 (by decide) shk_2 (Or.inl ⟨rfl, rfl⟩) (vpl (by decide)) (by decide) shk_9 ?_
  rw [show (6 : Int32).toNatClampNeg = 6 by decide]
  refine G_iincW (L' := [some (.ref 1), some (.int (7 : Int32))]) pX0_init_34 rfl ic_1 (by decide) rfl ?_
  refine G_goto pX0_init_37 ?_
  refine G_iload_n (i := 1) pX0_init_15 rfl rfl ?_
  refine G_bipush pX0_init_16 bi_8 ?_
  refine G_icmp_ge pX0_init_18 (fun hc => absurd hc (by decide)) (fun _ => ?_)
  refine G_aload_n (i := 0) pX0_init_21 rfl rfl ?_
  refine G_getR (ci := 0) (j := 0) (N := 4) (r := 2) pX0_init_22 fly_RX0_11 rfl (by decide) shk_1 (by decide) rfl (by rw [upr_ne (by decide), (mk7.1 _ _ (by decide)).1, clr_ne (by decide), upr_ne (by decide), (mk6.1 _ _ (by decide)).1, clr_ne (by decide), upr_ne (by decide), (mk5.1 _ _ (by decide)).1, clr_ne (by decide), upr_ne (by decide), (mk4.1 _ _ (by decide)).1, clr_ne (by decide), upr_ne (by decide), (mk3.1 _ _ (by decide)).1, clr_ne (by decide), upr_ne (by decide), (mk2.1 _ _ (by decide)).1, clr_ne (by decide), upr_ne (by decide), (mk1.1 _ _ (by decide)).1, clr_ne (by decide), upr_self]) ?_
  refine G_iload_n (i := 1) pX0_init_25 rfl rfl ?_
  refine G_new (nx := 10) pX0_init_26 cn_RX0_9 shk_10 ⟨by decide, by decide, by decide⟩ ?_
  refine G_dup pX0_init_29 rfl ?_
  refine G_callI0 (b := 10) (nx := 11) (nx1 := 11) pX0_init_30 (k_X1_init_10 (fun j => ⟨clr_self, clm_self⟩)) mI_X1_init mli_RX0_17 (by decide) ⟨by decide, by decide, by decide⟩ (by decide) ?_
  rintro _ rf8 mem8 ⟨rfl, mk8⟩ _
  refine G_aast (ci := 1) pX0_init_33 (by decide) shk_2 (Or.inl ⟨rfl, rfl⟩) (vpl (by decide)) (by decide) shk_10 ?_
  rw [show (7 : Int32).toNatClampNeg = 7 by decide]
  refine G_iincW (L' := [some (.ref 1), some (.int (8 : Int32))]) pX0_init_34 rfl ic_1 (by decide) rfl ?_
  refine G_goto pX0_init_37 ?_
  refine G_iload_n (i := 1) pX0_init_15 rfl rfl ?_
  refine G_bipush pX0_init_16 bi_8 ?_
  refine G_icmp_ge pX0_init_18 (fun _ => ?_) (fun hc => absurd (by decide) hc)
  refine G_return (len := 1) pX0_init_40 ⟨rfl, ?_⟩ rfl
  refine ⟨fun a j ha => ⟨?_, ?_⟩, fun a j ha hb => ?_⟩
  · rw [upr_ne (by omega), (mk8.1 _ j (by omega)).1, clr_ne (by omega), upr_ne (by omega), (mk7.1 _ j (by omega)).1, clr_ne (by omega), upr_ne (by omega), (mk6.1 _ j (by omega)).1, clr_ne (by omega), upr_ne (by omega), (mk5.1 _ j (by omega)).1, clr_ne (by omega), upr_ne (by omega), (mk4.1 _ j (by omega)).1, clr_ne (by omega), upr_ne (by omega), (mk3.1 _ j (by omega)).1, clr_ne (by omega), upr_ne (by omega), (mk2.1 _ j (by omega)).1, clr_ne (by omega), upr_ne (by omega), (mk1.1 _ j (by omega)).1, clr_ne (by omega), upr_ne (by omega), clr_ne (by omega)]
  · rw [(mk8.1 _ j (by omega)).2, clm_ne (by omega), (mk7.1 _ j (by omega)).2, clm_ne (by omega), (mk6.1 _ j (by omega)).2, clm_ne (by omega), (mk5.1 _ j (by omega)).2, clm_ne (by omega), (mk4.1 _ j (by omega)).2, clm_ne (by omega), (mk3.1 _ j (by omega)).2, clm_ne (by omega), (mk2.1 _ j (by omega)).2, clm_ne (by omega), (mk1.1 _ j (by omega)).2, clm_ne (by omega), clm_ne (by omega)]
  · have hr : (1 ≤ a ∧ a < 2) ∨ (2 ≤ a ∧ a < 3) ∨ (3 ≤ a ∧ a < 4) ∨ (4 ≤ a ∧ a < 5) ∨ (5 ≤ a ∧ a < 6) ∨ (6 ≤ a ∧ a < 7) ∨ (7 ≤ a ∧ a < 8) ∨ (8 ≤ a ∧ a < 9) ∨ (9 ≤ a ∧ a < 10) ∨ (10 ≤ a ∧ a < 11) := by omega
    rcases hr with hr | hr | hr | hr | hr | hr | hr | hr | hr | hr
    · have ea : a = 1 := by omega
      subst ea
      clear hr ha hb
      constructor
      · rcases j with (_ | (_ | (_ | (_ | j)))) <;> (simp only [upr, clr, (mk1.1 _ _ (show 1 < 3 by decide)).1, (mk2.1 _ _ (show 1 < 4 by decide)).1, (mk3.1 _ _ (show 1 < 5 by decide)).1, (mk4.1 _ _ (show 1 < 6 by decide)).1, (mk5.1 _ _ (show 1 < 7 by decide)).1, (mk6.1 _ _ (show 1 < 8 by decide)).1, (mk7.1 _ _ (show 1 < 9 by decide)).1, (mk8.1 _ _ (show 1 < 10 by decide)).1, (hc _).1]; rfl)
      · (simp only [up2, clm, (mk1.1 _ _ (show 1 < 3 by decide)).2, (mk2.1 _ _ (show 1 < 4 by decide)).2, (mk3.1 _ _ (show 1 < 5 by decide)).2, (mk4.1 _ _ (show 1 < 6 by decide)).2, (mk5.1 _ _ (show 1 < 7 by decide)).2, (mk6.1 _ _ (show 1 < 8 by decide)).2, (mk7.1 _ _ (show 1 < 9 by decide)).2, (mk8.1 _ _ (show 1 < 10 by decide)).2, (hc _).2]; rfl)
    · have ea : a = 2 := by omega
      subst ea
      clear hr ha hb
      constructor
      · rcases j with (_ | (_ | (_ | (_ | (_ | (_ | (_ | (_ | j)))))))) <;> (simp only [upr, clr, (mk1.1 _ _ (show 2 < 3 by decide)).1, (mk2.1 _ _ (show 2 < 4 by decide)).1, (mk3.1 _ _ (show 2 < 5 by decide)).1, (mk4.1 _ _ (show 2 < 6 by decide)).1, (mk5.1 _ _ (show 2 < 7 by decide)).1, (mk6.1 _ _ (show 2 < 8 by decide)).1, (mk7.1 _ _ (show 2 < 9 by decide)).1, (mk8.1 _ _ (show 2 < 10 by decide)).1]; rfl)
      · (simp only [up2, clm, (mk1.1 _ _ (show 2 < 3 by decide)).2, (mk2.1 _ _ (show 2 < 4 by decide)).2, (mk3.1 _ _ (show 2 < 5 by decide)).2, (mk4.1 _ _ (show 2 < 6 by decide)).2, (mk5.1 _ _ (show 2 < 7 by decide)).2, (mk6.1 _ _ (show 2 < 8 by decide)).2, (mk7.1 _ _ (show 2 < 9 by decide)).2, (mk8.1 _ _ (show 2 < 10 by decide)).2]; rfl)
    · exact ⟨by rw [upr_ne (by omega), (mk8.1 _ j (by omega)).1, clr_ne (by omega), upr_ne (by omega), (mk7.1 _ j (by omega)).1, clr_ne (by omega), upr_ne (by omega), (mk6.1 _ j (by omega)).1, clr_ne (by omega), upr_ne (by omega), (mk5.1 _ j (by omega)).1, clr_ne (by omega), upr_ne (by omega), (mk4.1 _ j (by omega)).1, clr_ne (by omega), upr_ne (by omega), (mk3.1 _ j (by omega)).1, clr_ne (by omega), upr_ne (by omega), (mk2.1 _ j (by omega)).1, clr_ne (by omega), upr_ne (by omega), (mk1.2 _ j (by omega) (by omega)).1], by rw [(mk8.1 _ j (by omega)).2, clm_ne (by omega), (mk7.1 _ j (by omega)).2, clm_ne (by omega), (mk6.1 _ j (by omega)).2, clm_ne (by omega), (mk5.1 _ j (by omega)).2, clm_ne (by omega), (mk4.1 _ j (by omega)).2, clm_ne (by omega), (mk3.1 _ j (by omega)).2, clm_ne (by omega), (mk2.1 _ j (by omega)).2, clm_ne (by omega), (mk1.2 _ j (by omega) (by omega)).2]⟩
    · exact ⟨by rw [upr_ne (by omega), (mk8.1 _ j (by omega)).1, clr_ne (by omega), upr_ne (by omega), (mk7.1 _ j (by omega)).1, clr_ne (by omega), upr_ne (by omega), (mk6.1 _ j (by omega)).1, clr_ne (by omega), upr_ne (by omega), (mk5.1 _ j (by omega)).1, clr_ne (by omega), upr_ne (by omega), (mk4.1 _ j (by omega)).1, clr_ne (by omega), upr_ne (by omega), (mk3.1 _ j (by omega)).1, clr_ne (by omega), upr_ne (by omega), (mk2.2 _ j (by omega) (by omega)).1], by rw [(mk8.1 _ j (by omega)).2, clm_ne (by omega), (mk7.1 _ j (by omega)).2, clm_ne (by omega), (mk6.1 _ j (by omega)).2, clm_ne (by omega), (mk5.1 _ j (by omega)).2, clm_ne (by omega), (mk4.1 _ j (by omega)).2, clm_ne (by omega), (mk3.1 _ j (by omega)).2, clm_ne (by omega), (mk2.2 _ j (by omega) (by omega)).2]⟩
    · exact ⟨by rw [upr_ne (by omega), (mk8.1 _ j (by omega)).1, clr_ne (by omega), upr_ne (by omega), (mk7.1 _ j (by omega)).1, clr_ne (by omega), upr_ne (by omega), (mk6.1 _ j (by omega)).1, clr_ne (by omega), upr_ne (by omega), (mk5.1 _ j (by omega)).1, clr_ne (by omega), upr_ne (by omega), (mk4.1 _ j (by omega)).1, clr_ne (by omega), upr_ne (by omega), (mk3.2 _ j (by omega) (by omega)).1], by rw [(mk8.1 _ j (by omega)).2, clm_ne (by omega), (mk7.1 _ j (by omega)).2, clm_ne (by omega), (mk6.1 _ j (by omega)).2, clm_ne (by omega), (mk5.1 _ j (by omega)).2, clm_ne (by omega), (mk4.1 _ j (by omega)).2, clm_ne (by omega), (mk3.2 _ j (by omega) (by omega)).2]⟩
    · exact ⟨by rw [upr_ne (by omega), (mk8.1 _ j (by omega)).1, clr_ne (by omega), upr_ne (by omega), (mk7.1 _ j (by omega)).1, clr_ne (by omega), upr_ne (by omega), (mk6.1 _ j (by omega)).1, clr_ne (by omega), upr_ne (by omega), (mk5.1 _ j (by omega)).1, clr_ne (by omega), upr_ne (by omega), (mk4.2 _ j (by omega) (by omega)).1], by rw [(mk8.1 _ j (by omega)).2, clm_ne (by omega), (mk7.1 _ j (by omega)).2, clm_ne (by omega), (mk6.1 _ j (by omega)).2, clm_ne (by omega), (mk5.1 _ j (by omega)).2, clm_ne (by omega), (mk4.2 _ j (by omega) (by omega)).2]⟩
    · exact ⟨by rw [upr_ne (by omega), (mk8.1 _ j (by omega)).1, clr_ne (by omega), upr_ne (by omega), (mk7.1 _ j (by omega)).1, clr_ne (by omega), upr_ne (by omega), (mk6.1 _ j (by omega)).1, clr_ne (by omega), upr_ne (by omega), (mk5.2 _ j (by omega) (by omega)).1], by rw [(mk8.1 _ j (by omega)).2, clm_ne (by omega), (mk7.1 _ j (by omega)).2, clm_ne (by omega), (mk6.1 _ j (by omega)).2, clm_ne (by omega), (mk5.2 _ j (by omega) (by omega)).2]⟩
    · exact ⟨by rw [upr_ne (by omega), (mk8.1 _ j (by omega)).1, clr_ne (by omega), upr_ne (by omega), (mk7.1 _ j (by omega)).1, clr_ne (by omega), upr_ne (by omega), (mk6.2 _ j (by omega) (by omega)).1], by rw [(mk8.1 _ j (by omega)).2, clm_ne (by omega), (mk7.1 _ j (by omega)).2, clm_ne (by omega), (mk6.2 _ j (by omega) (by omega)).2]⟩
    · exact ⟨by rw [upr_ne (by omega), (mk8.1 _ j (by omega)).1, clr_ne (by omega), upr_ne (by omega), (mk7.2 _ j (by omega) (by omega)).1], by rw [(mk8.1 _ j (by omega)).2, clm_ne (by omega), (mk7.2 _ j (by omega) (by omega)).2]⟩
    · exact ⟨by rw [upr_ne (by omega), (mk8.2 _ j (by omega) (by omega)).1], by rw [(mk8.2 _ j (by omega) (by omega)).2]⟩
set_option maxRecDepth 8000 in
set_option maxHeartbeats 4000000 in
theorem k_X2_init_15 {sx : Nat × (Nat → Int32)} {rf : RFt} {mem : MMt} (hc : ∀ j, rf 15 j = none ∧ mem 15 j = 0) : Ct sx yX2_init cX2_init 2 none 1 [.ref 15, .int (0 : Int32)] 16 18 rf mem (fun v rf' mem' => v = none ∧ Made 15 18 rf mem rf' mem') := by
  refine Ct_of [some (.ref 15), some (.int (0 : Int32))] (by decide +kernel) (by simp [Lof, Value.category]) rfl ?_
  refine G_aload_n (i := 0) pX2_init_0 rfl rfl ?_
  refine G_objInit pX2_init_1 mlo_RX2_3 wobj (by decide) (by decide) ?_
  refine G_aload_n (i := 0) pX2_init_4 rfl rfl ?_
  refine G_bipush pX2_init_5 bi_50 ?_
  refine G_newI (nx := 16) (N := 50) pX2_init_7 wacI shk_16 (by decide) (by decide) (by decide) ⟨by decide, by decide, by decide⟩ ?_
  refine G_putRF (ci := 2) (j := 1) (N := 4) pX2_init_9 fx_RX2_9 rfl rfl (by decide) shk_15 (by decide) rfl (fun _ => ⟨rfl, rfl⟩) ?_
  refine G_aload_n (i := 0) pX2_init_12 rfl rfl ?_
  refine G_bipush pX2_init_13 bi_50 ?_
  refine G_newI (nx := 17) (N := 50) pX2_init_15 wacI shk_17 (by decide) (by decide) (by decide) ⟨by decide, by decide, by decide⟩ ?_
  refine G_putRF (ci := 2) (j := 3) (N := 4) pX2_init_17 fx_RX2_15 rfl rfl (by decide) shk_15 (by decide) rfl (fun _ => ⟨rfl, rfl⟩) ?_
  refine G_aload_n (i := 0) pX2_init_20 rfl rfl ?_
  refine G_iload_n (i := 1) pX2_init_21 rfl rfl ?_
  refine G_putIF (ci := 2) (j := 0) (N := 4) pX2_init_22 fx_RX2_18 rfl rfl (by decide) shk_15 (by decide) rfl (fun _ => ⟨rfl, rfl⟩) ?_
  refine G_return (len := 1) pX2_init_25 ⟨rfl, ?_⟩ rfl
  refine ⟨fun a j ha => ⟨?_, ?_⟩, fun a j ha hb => ?_⟩
  · rw [upr_ne (by omega), clr_ne (by omega), upr_ne (by omega), clr_ne (by omega)]
  · rw [up2_ne (by omega), clm_ne (by omega), clm_ne (by omega)]
  · have hr : (15 ≤ a ∧ a < 16) ∨ (16 ≤ a ∧ a < 17) ∨ (17 ≤ a ∧ a < 18) := by omega
    rcases hr with hr | hr | hr
    · have ea : a = 15 := by omega
      subst ea
      clear hr ha hb
      constructor
      · rcases j with (_ | (_ | (_ | (_ | j)))) <;> (simp only [upr, clr, (hc _).1]; rfl)
      · rcases j with (_ | j) <;> (simp only [up2, clm, (hc _).2]; rfl)
    · have ea : a = 16 := by omega
      subst ea
      clear hr ha hb
      constructor
      · (simp only [upr, clr]; rfl)
      · (simp only [up2, clm]; rfl)
    · have ea : a = 17 := by omega
      subst ea
      clear hr ha hb
      constructor
      · (simp only [upr, clr]; rfl)
      · (simp only [up2, clm]; rfl)
set_option maxRecDepth 8000 in
set_option maxHeartbeats 4000000 in
theorem k_X2_init_18 {sx : Nat × (Nat → Int32)} {rf : RFt} {mem : MMt} (hc : ∀ j, rf 18 j = none ∧ mem 18 j = 0) : Ct sx yX2_init cX2_init 2 none 1 [.ref 18, .int (1 : Int32)] 19 21 rf mem (fun v rf' mem' => v = none ∧ Made 18 21 rf mem rf' mem') := by
  refine Ct_of [some (.ref 18), some (.int (1 : Int32))] (by decide +kernel) (by simp [Lof, Value.category]) rfl ?_
  refine G_aload_n (i := 0) pX2_init_0 rfl rfl ?_
  refine G_objInit pX2_init_1 mlo_RX2_3 wobj (by decide) (by decide) ?_
  refine G_aload_n (i := 0) pX2_init_4 rfl rfl ?_
  refine G_bipush pX2_init_5 bi_50 ?_
  refine G_newI (nx := 19) (N := 50) pX2_init_7 wacI shk_19 (by decide) (by decide) (by decide) ⟨by decide, by decide, by decide⟩ ?_
  refine G_putRF (ci := 2) (j := 1) (N := 4) pX2_init_9 fx_RX2_9 rfl rfl (by decide) shk_18 (by decide) rfl (fun _ => ⟨rfl, rfl⟩) ?_
  refine G_aload_n (i := 0) pX2_init_12 rfl rfl ?_
  refine G_bipush pX2_init_13 bi_50 ?_
  refine G_newI (nx := 20) (N := 50) pX2_init_15 wacI shk_20 (by decide) (by decide) (by decide) ⟨by decide, by decide, by decide⟩ ?_
  refine G_putRF (ci := 2) (j := 3) (N := 4) pX2_init_17 fx_RX2_15 rfl rfl (by decide) shk_18 (by decide) rfl (fun _ => ⟨rfl, rfl⟩) ?_
  refine G_aload_n (i := 0) pX2_init_20 rfl rfl ?_
  refine G_iload_n (i := 1) pX2_init_21 rfl rfl ?_
  refine G_putIF (ci := 2) (j := 0) (N := 4) pX2_init_22 fx_RX2_18 rfl rfl (by decide) shk_18 (by decide) rfl (fun _ => ⟨rfl, rfl⟩) ?_
  refine G_return (len := 1) pX2_init_25 ⟨rfl, ?_⟩ rfl
  refine ⟨fun a j ha => ⟨?_, ?_⟩, fun a j ha hb => ?_⟩
  · rw [upr_ne (by omega), clr_ne (by omega), upr_ne (by omega), clr_ne (by omega)]
  · rw [up2_ne (by omega), clm_ne (by omega), clm_ne (by omega)]
  · have hr : (18 ≤ a ∧ a < 19) ∨ (19 ≤ a ∧ a < 20) ∨ (20 ≤ a ∧ a < 21) := by omega
    rcases hr with hr | hr | hr
    · have ea : a = 18 := by omega
      subst ea
      clear hr ha hb
      constructor
      · rcases j with (_ | (_ | (_ | (_ | j)))) <;> (simp only [upr, clr, (hc _).1]; rfl)
      · rcases j with (_ | j) <;> (simp only [up2, clm, (hc _).2]; rfl)
    · have ea : a = 19 := by omega
      subst ea
      clear hr ha hb
      constructor
      · (simp only [upr, clr]; rfl)
      · (simp only [up2, clm]; rfl)
    · have ea : a = 20 := by omega
      subst ea
      clear hr ha hb
      constructor
      · (simp only [upr, clr]; rfl)
      · (simp only [up2, clm]; rfl)
set_option maxRecDepth 8000 in
set_option maxHeartbeats 4000000 in
theorem k_X5_init_11 {sx : Nat × (Nat → Int32)} {rf : RFt} {mem : MMt} (hc : ∀ j, rf 11 j = none ∧ mem 11 j = 0) : Ct sx yX5_init cX5_init 1 none 3 [.ref 11] 12 22 rf mem (fun v rf' mem' => v = none ∧ Made 11 22 rf mem rf' mem') := by
  refine Ct_of [some (.ref 11)] (by decide +kernel) (by simp [Lof, Value.category]) rfl ?_
  refine G_aload_n (i := 0) pX5_init_0 rfl rfl ?_
  refine G_objInit pX5_init_1 mlo_RX5_3 wobj (by decide) (by decide) ?_
  refine G_aload_n (i := 0) pX5_init_4 rfl rfl ?_
  refine G_bipush pX5_init_5 bi_12 ?_
  refine G_putI (ci := 5) (j := 0) (N := 10) pX5_init_7 fx_RX5_9 rfl (by decide) shk_11 (by decide) rfl (fun _ => ⟨rfl, rfl⟩) ?_
  refine G_aload_n (i := 0) pX5_init_10 rfl rfl ?_
  refine G_iconst pX5_init_11 ic_2 ?_
  refine G_newI (nx := 12) (N := 2) pX5_init_12 wacI shk_12 (by decide) (by decide) (by decide) ⟨by decide, by decide, by decide⟩ ?_
  refine G_dup pX5_init_14 rfl ?_
  refine G_iconst pX5_init_15 ic_0 ?_
  refine G_iconst pX5_init_16 ic_1 ?_
  refine G_iastL (j := 0) pX5_init_17 (by decide) shk_12 (vpl (by decide)) (by decide) rfl ?_
  refine G_dup pX5_init_18 rfl ?_
  refine G_iconst pX5_init_19 ic_1 ?_
  refine G_iconst pX5_init_20 ic_m1 ?_
  refine G_iastL (j := 1) pX5_init_21 (by decide) shk_12 (vpl (by decide)) (by decide) rfl ?_
  refine G_putRF (ci := 5) (j := 1) (N := 10) pX5_init_22 fx_RX5_15 rfl rfl (by decide) shk_11 (by decide) rfl (fun _ => ⟨rfl, rfl⟩) ?_
  refine G_aload_n (i := 0) pX5_init_25 rfl rfl ?_
  refine G_iconst pX5_init_26 ic_1 ?_
  refine G_putI (ci := 5) (j := 2) (N := 10) pX5_init_27 fx_RX5_19 rfl (by decide) shk_11 (by decide) rfl (fun _ => ⟨rfl, rfl⟩) ?_
  refine G_aload_n (i := 0) pX5_init_30 rfl rfl ?_
  refine G_bipush pX5_init_31 bi_50 ?_
  refine G_newB (nx := 13) (N := 50) pX5_init_33 wacB shk_13 (by decide) (by decide) (by decide) ⟨by decide, by decide, by decide⟩ ?_
  refine G_putRF (ci := 5) (j := 3) (N := 10) pX5_init_35 fx_RX5_22 rfl rfl (by decide) shk_11 (by decide) rfl (fun _ => ⟨rfl, rfl⟩) ?_
  refine G_aload_n (i := 0) pX5_init_38 rfl rfl ?_
  refine G_bipush pX5_init_39 bi_20 ?_
  refine G_newI (nx := 14) (N := 20) pX5_init_41 wacI shk_14 (by decide) (by decide) (by decide) ⟨by decide, by decide, by decide⟩ ?_
  refine G_putRF (ci := 5) (j := 5) (N := 10) pX5_init_43 fx_RX5_26 rfl rfl (by decide) shk_11 (by decide) rfl (fun _ => ⟨rfl, rfl⟩) ?_
  refine G_aload_n (i := 0) pX5_init_46 rfl rfl ?_
  refine G_new (nx := 15) pX5_init_47 cn_RX5_29 shk_15 ⟨by decide, by decide, by decide⟩ ?_
  refine G_dup pX5_init_50 rfl ?_
  refine G_iconst pX5_init_51 ic_0 ?_
  refine G_callI1 (b := 15) (nx := 16) (nx1 := 18) pX5_init_52 (k_X2_init_15 (fun j => ⟨clr_self, clm_self⟩)) mI_X2_init mli_RX5_31 (by decide) ⟨by decide, by decide, by decide⟩ (by decide) ?_
  rintro _ rf1 mem1 ⟨rfl, mk1⟩ _
  refine G_putRF (ci := 5) (j := 7) (N := 10) pX5_init_55 fx_RX5_34 rfl rfl (by decide) shk_11 (by decide) rfl (fun _ => ⟨rfl, rfl⟩) ?_
  refine G_aload_n (i := 0) pX5_init_58 rfl rfl ?_
  refine G_new (nx := 18) pX5_init_59 cn_RX5_29 shk_18 ⟨by decide, by decide, by decide⟩ ?_
  refine G_dup pX5_init_62 rfl ?_
  refine G_iconst pX5_init_63 ic_1 ?_
  refine G_callI1 (b := 18) (nx := 19) (nx1 := 21) pX5_init_64 (k_X2_init_18 (fun j => ⟨clr_self, clm_self⟩)) mI_X2_init mli_RX5_31 (by decide) ⟨by decide, by decide, by decide⟩ (by decide) ?_
  rintro _ rf2 mem2 ⟨rfl, mk2⟩ _
  refine G_putRF (ci := 5) (j := 8) (N := 10) pX5_init_67 fx_RX5_38 rfl rfl (by decide) shk_11 (by decide) rfl (fun _ => ⟨rfl, rfl⟩) ?_
  refine G_aload_n (i := 0) pX5_init_70 rfl rfl ?_
  refine G_sipush pX5_init_71 si_410 ?_
  refine G_newB (nx := 21) (N := 410) pX5_init_74 wacB shk_21 (by decide) (by decide) (by decide) ⟨by decide, by decide, by decide⟩ ?_
  refine G_putRF (ci := 5) (j := 9) (N := 10) pX5_init_76 fx_RX5_41 rfl rfl (by decide) shk_11 (by decide) rfl (fun _ => ⟨rfl, rfl⟩) ?_
  refine G_aload_n (i := 0) pX5_init_79 rfl rfl ?_
  refine G_callV0 (b := 11) (ci := 5) (N := 10) (nx := 22) (nx1 := 22) pX5_init_80 (kforget 11 21 (by decide) shk_11 (by decide) shk_21 (by simp [upr, clr])) mV_X5_forgetPulls ml_RX5_44 (by decide) ⟨by decide, by decide, by decide⟩ (by decide) (by decide) shk_11 rfl ?_
  rintro _ _ _ ⟨rfl, rfl, rfl⟩ _
  refine G_return (len := 1) pX5_init_83 ⟨rfl, ?_⟩ rfl
  refine ⟨fun a j ha => ⟨?_, ?_⟩, fun a j ha hb => ?_⟩
  · rw [upr_ne (by omega), clr_ne (by omega), upr_ne (by omega), (mk2.1 _ j (by omega)).1, clr_ne (by omega), upr_ne (by omega), (mk1.1 _ j (by omega)).1, clr_ne (by omega), upr_ne (by omega), clr_ne (by omega), upr_ne (by omega), clr_ne (by omega), upr_ne (by omega), clr_ne (by omega)]
  · rw [fgm_ne (by omega), clm_ne (by omega), (mk2.1 _ j (by omega)).2, clm_ne (by omega), (mk1.1 _ j (by omega)).2, clm_ne (by omega), clm_ne (by omega), clm_ne (by omega), up2_ne (by omega), up2_ne (by omega), up2_ne (by omega), clm_ne (by omega), up2_ne (by omega)]
  · have hr : (11 ≤ a ∧ a < 12) ∨ (12 ≤ a ∧ a < 13) ∨ (13 ≤ a ∧ a < 14) ∨ (14 ≤ a ∧ a < 15) ∨ (15 ≤ a ∧ a < 18) ∨ (18 ≤ a ∧ a < 21) ∨ (21 ≤ a ∧ a < 22) := by omega
    rcases hr with hr | hr | hr | hr | hr | hr | hr
    · have ea : a = 11 := by omega
      subst ea
      clear hr ha hb
      constructor
      · rcases j with (_ | (_ | (_ | (_ | (_ | (_ | (_ | (_ | (_ | (_ | j)))))))))) <;> (simp only [upr, clr, (mk1.1 _ _ (show 11 < 15 by decide)).1, (mk2.1 _ _ (show 11 < 18 by decide)).1, (hc _).1]; rfl)
      · rcases j with (_ | (_ | (_ | j))) <;> (simp only [up2, clm, (mk1.1 _ _ (show 11 < 15 by decide)).2, (mk2.1 _ _ (show 11 < 18 by decide)).2, fgm_ne (show 11 ≠ 21 by decide), (hc _).2]; rfl)
    · have ea : a = 12 := by omega
      subst ea
      clear hr ha hb
      constructor
      · (simp only [upr, clr, (mk1.1 _ _ (show 12 < 15 by decide)).1, (mk2.1 _ _ (show 12 < 18 by decide)).1]; rfl)
      · rcases j with (_ | (_ | j)) <;> (simp only [up2, clm, (mk1.1 _ _ (show 12 < 15 by decide)).2, (mk2.1 _ _ (show 12 < 18 by decide)).2, fgm_ne (show 12 ≠ 21 by decide)]; rfl)
    · have ea : a = 13 := by omega
      subst ea
      clear hr ha hb
      constructor
      · (simp only [upr, clr, (mk1.1 _ _ (show 13 < 15 by decide)).1, (mk2.1 _ _ (show 13 < 18 by decide)).1]; rfl)
      · (simp only [up2, clm, (mk1.1 _ _ (show 13 < 15 by decide)).2, (mk2.1 _ _ (show 13 < 18 by decide)).2, fgm_ne (show 13 ≠ 21 by decide)]; rfl)
    · have ea : a = 14 := by omega
      subst ea
      clear hr ha hb
      constructor
      · (simp only [upr, clr, (mk1.1 _ _ (show 14 < 15 by decide)).1, (mk2.1 _ _ (show 14 < 18 by decide)).1]; rfl)
      · (simp only [up2, clm, (mk1.1 _ _ (show 14 < 15 by decide)).2, (mk2.1 _ _ (show 14 < 18 by decide)).2, fgm_ne (show 14 ≠ 21 by decide)]; rfl)
    · exact ⟨by rw [upr_ne (by omega), clr_ne (by omega), upr_ne (by omega), (mk2.1 _ j (by omega)).1, clr_ne (by omega), upr_ne (by omega), (mk1.2 _ j (by omega) (by omega)).1], by rw [fgm_ne (by omega), clm_ne (by omega), (mk2.1 _ j (by omega)).2, clm_ne (by omega), (mk1.2 _ j (by omega) (by omega)).2]⟩
    · exact ⟨by rw [upr_ne (by omega), clr_ne (by omega), upr_ne (by omega), (mk2.2 _ j (by omega) (by omega)).1], by rw [fgm_ne (by omega), clm_ne (by omega), (mk2.2 _ j (by omega) (by omega)).2]⟩
    · have ea : a = 21 := by omega
      subst ea
      clear hr ha hb
      constructor
      · (simp only [upr, clr]; rfl)
      · exact forget_row 21 j (Or.inl rfl) clm_self
set_option maxRecDepth 8000 in
set_option maxHeartbeats 4000000 in
theorem k_X1_init_24 {sx : Nat × (Nat → Int32)} {rf : RFt} {mem : MMt} (hc : ∀ j, rf 24 j = none ∧ mem 24 j = 0) : Ct sx yX1_init cX1_init 1 none 1 [.ref 24] 25 25 rf mem (fun v rf' mem' => v = none ∧ Made 24 25 rf mem rf' mem') := by
  refine Ct_of [some (.ref 24)] (by decide +kernel) (by simp [Lof, Value.category]) rfl ?_
  refine G_aload_n (i := 0) pX1_init_0 rfl rfl ?_
  refine G_objInit pX1_init_1 mlo_RX1_3 wobj (by decide) (by decide) ?_
  refine G_return (len := 1) pX1_init_4 ⟨rfl, ?_⟩ rfl
  refine ⟨fun a j ha => ⟨?_, ?_⟩, fun a j ha hb => ?_⟩
  · rfl
  · rfl
  · have hr : (24 ≤ a ∧ a < 25) := by omega
    rcases hr with hr
    · have ea : a = 24 := by omega
      subst ea
      clear hr ha hb
      constructor
      · rcases j with (_ | (_ | (_ | (_ | (_ | j))))) <;> (simp only [upr, clr, (hc _).1]; rfl)
      · (simp only [up2, clm, (hc _).2]; rfl)
set_option maxRecDepth 8000 in
set_option maxHeartbeats 4000000 in
theorem k_X1_init_25 {sx : Nat × (Nat → Int32)} {rf : RFt} {mem : MMt} (hc : ∀ j, rf 25 j = none ∧ mem 25 j = 0) : Ct sx yX1_init cX1_init 1 none 1 [.ref 25] 26 26 rf mem (fun v rf' mem' => v = none ∧ Made 25 26 rf mem rf' mem') := by
  refine Ct_of [some (.ref 25)] (by decide +kernel) (by simp [Lof, Value.category]) rfl ?_
  refine G_aload_n (i := 0) pX1_init_0 rfl rfl ?_
  refine G_objInit pX1_init_1 mlo_RX1_3 wobj (by decide) (by decide) ?_
  refine G_return (len := 1) pX1_init_4 ⟨rfl, ?_⟩ rfl
  refine ⟨fun a j ha => ⟨?_, ?_⟩, fun a j ha hb => ?_⟩
  · rfl
  · rfl
  · have hr : (25 ≤ a ∧ a < 26) := by omega
    rcases hr with hr
    · have ea : a = 25 := by omega
      subst ea
      clear hr ha hb
      constructor
      · rcases j with (_ | (_ | (_ | (_ | (_ | j))))) <;> (simp only [upr, clr, (hc _).1]; rfl)
      · (simp only [up2, clm, (hc _).2]; rfl)
set_option maxRecDepth 8000 in
set_option maxHeartbeats 4000000 in
theorem k_X1_init_26 {sx : Nat × (Nat → Int32)} {rf : RFt} {mem : MMt} (hc : ∀ j, rf 26 j = none ∧ mem 26 j = 0) : Ct sx yX1_init cX1_init 1 none 1 [.ref 26] 27 27 rf mem (fun v rf' mem' => v = none ∧ Made 26 27 rf mem rf' mem') := by
  refine Ct_of [some (.ref 26)] (by decide +kernel) (by simp [Lof, Value.category]) rfl ?_
  refine G_aload_n (i := 0) pX1_init_0 rfl rfl ?_
  refine G_objInit pX1_init_1 mlo_RX1_3 wobj (by decide) (by decide) ?_
  refine G_return (len := 1) pX1_init_4 ⟨rfl, ?_⟩ rfl
  refine ⟨fun a j ha => ⟨?_, ?_⟩, fun a j ha hb => ?_⟩
  · rfl
  · rfl
  · have hr : (26 ≤ a ∧ a < 27) := by omega
    rcases hr with hr
    · have ea : a = 26 := by omega
      subst ea
      clear hr ha hb
      constructor
      · rcases j with (_ | (_ | (_ | (_ | (_ | j))))) <;> (simp only [upr, clr, (hc _).1]; rfl)
      · (simp only [up2, clm, (hc _).2]; rfl)
set_option maxRecDepth 8000 in
set_option maxHeartbeats 4000000 in
theorem k_X1_init_27 {sx : Nat × (Nat → Int32)} {rf : RFt} {mem : MMt} (hc : ∀ j, rf 27 j = none ∧ mem 27 j = 0) : Ct sx yX1_init cX1_init 1 none 1 [.ref 27] 28 28 rf mem (fun v rf' mem' => v = none ∧ Made 27 28 rf mem rf' mem') := by
  refine Ct_of [some (.ref 27)] (by decide +kernel) (by simp [Lof, Value.category]) rfl ?_
  refine G_aload_n (i := 0) pX1_init_0 rfl rfl ?_
  refine G_objInit pX1_init_1 mlo_RX1_3 wobj (by decide) (by decide) ?_
  refine G_return (len := 1) pX1_init_4 ⟨rfl, ?_⟩ rfl
  refine ⟨fun a j ha => ⟨?_, ?_⟩, fun a j ha hb => ?_⟩
  · rfl
  · rfl
  · have hr : (27 ≤ a ∧ a < 28) := by omega
    rcases hr with hr
    · have ea : a = 27 := by omega
      subst ea
      clear hr ha hb
      constructor
      · rcases j with (_ | (_ | (_ | (_ | (_ | j))))) <;> (simp only [upr, clr, (hc _).1]; rfl)
      · (simp only [up2, clm, (hc _).2]; rfl)
set_option maxRecDepth 8000 in
set_option maxHeartbeats 4000000 in
theorem k_X1_init_28 {sx : Nat × (Nat → Int32)} {rf : RFt} {mem : MMt} (hc : ∀ j, rf 28 j = none ∧ mem 28 j = 0) : Ct sx yX1_init cX1_init 1 none 1 [.ref 28] 29 29 rf mem (fun v rf' mem' => v = none ∧ Made 28 29 rf mem rf' mem') := by
  refine Ct_of [some (.ref 28)] (by decide +kernel) (by simp [Lof, Value.category]) rfl ?_
  refine G_aload_n (i := 0) pX1_init_0 rfl rfl ?_
  refine G_objInit pX1_init_1 mlo_RX1_3 wobj (by decide) (by decide) ?_
  refine G_return (len := 1) pX1_init_4 ⟨rfl, ?_⟩ rfl
  refine ⟨fun a j ha => ⟨?_, ?_⟩, fun a j ha hb => ?_⟩
  · rfl
  · rfl
  · have hr : (28 ≤ a ∧ a < 29) := by omega
    rcases hr with hr
    · have ea : a = 28 := by omega
      subst ea
      clear hr ha hb
      constructor
      · rcases j with (_ | (_ | (_ | (_ | (_ | j))))) <;> (simp only [upr, clr, (hc _).1]; rfl)
      · (simp only [up2, clm, (hc _).2]; rfl)
set_option maxRecDepth 8000 in
set_option maxHeartbeats 4000000 in
theorem k_X1_init_29 {sx : Nat × (Nat → Int32)} {rf : RFt} {mem : MMt} (hc : ∀ j, rf 29 j = none ∧ mem 29 j = 0) : Ct sx yX1_init cX1_init 1 none 1 [.ref 29] 30 30 rf mem (fun v rf' mem' => v = none ∧ Made 29 30 rf mem rf' mem') := by
  refine Ct_of [some (.ref 29)] (by decide +kernel) (by simp [Lof, Value.category]) rfl ?_
  refine G_aload_n (i := 0) pX1_init_0 rfl rfl ?_
  refine G_objInit pX1_init_1 mlo_RX1_3 wobj (by decide) (by decide) ?_
  refine G_return (len := 1) pX1_init_4 ⟨rfl, ?_⟩ rfl
  refine ⟨fun a j ha => ⟨?_, ?_⟩, fun a j ha hb => ?_⟩
  · rfl
  · rfl
  · have hr : (29 ≤ a ∧ a < 30) := by omega
    rcases hr with hr
    · have ea : a = 29 := by omega
      subst ea
      clear hr ha hb
      constructor
      · rcases j with (_ | (_ | (_ | (_ | (_ | j))))) <;> (simp only [upr, clr, (hc _).1]; rfl)
      · (simp only [up2, clm, (hc _).2]; rfl)
set_option maxRecDepth 8000 in
set_option maxHeartbeats 4000000 in
theorem k_X1_init_30 {sx : Nat × (Nat → Int32)} {rf : RFt} {mem : MMt} (hc : ∀ j, rf 30 j = none ∧ mem 30 j = 0) : Ct sx yX1_init cX1_init 1 none 1 [.ref 30] 31 31 rf mem (fun v rf' mem' => v = none ∧ Made 30 31 rf mem rf' mem') := by
  refine Ct_of [some (.ref 30)] (by decide +kernel) (by simp [Lof, Value.category]) rfl ?_
  refine G_aload_n (i := 0) pX1_init_0 rfl rfl ?_
  refine G_objInit pX1_init_1 mlo_RX1_3 wobj (by decide) (by decide) ?_
  refine G_return (len := 1) pX1_init_4 ⟨rfl, ?_⟩ rfl
  refine ⟨fun a j ha => ⟨?_, ?_⟩, fun a j ha hb => ?_⟩
  · rfl
  · rfl
  · have hr : (30 ≤ a ∧ a < 31) := by omega
    rcases hr with hr
    · have ea : a = 30 := by omega
      subst ea
      clear hr ha hb
      constructor
      · rcases j with (_ | (_ | (_ | (_ | (_ | j))))) <;> (simp only [upr, clr, (hc _).1]; rfl)
      · (simp only [up2, clm, (hc _).2]; rfl)
set_option maxRecDepth 8000 in
set_option maxHeartbeats 4000000 in
theorem k_X1_init_31 {sx : Nat × (Nat → Int32)} {rf : RFt} {mem : MMt} (hc : ∀ j, rf 31 j = none ∧ mem 31 j = 0) : Ct sx yX1_init cX1_init 1 none 1 [.ref 31] 32 32 rf mem (fun v rf' mem' => v = none ∧ Made 31 32 rf mem rf' mem') := by
  refine Ct_of [some (.ref 31)] (by decide +kernel) (by simp [Lof, Value.category]) rfl ?_
  refine G_aload_n (i := 0) pX1_init_0 rfl rfl ?_
  refine G_objInit pX1_init_1 mlo_RX1_3 wobj (by decide) (by decide) ?_
  refine G_return (len := 1) pX1_init_4 ⟨rfl, ?_⟩ rfl
  refine ⟨fun a j ha => ⟨?_, ?_⟩, fun a j ha hb => ?_⟩
  · rfl
  · rfl
  · have hr : (31 ≤ a ∧ a < 32) := by omega
    rcases hr with hr
    · have ea : a = 31 := by omega
      subst ea
      clear hr ha hb
      constructor
      · rcases j with (_ | (_ | (_ | (_ | (_ | j))))) <;> (simp only [upr, clr, (hc _).1]; rfl)
      · (simp only [up2, clm, (hc _).2]; rfl)
set_option maxRecDepth 8000 in
set_option maxHeartbeats 4000000 in
theorem k_X0_init_22 {sx : Nat × (Nat → Int32)} {rf : RFt} {mem : MMt} (hc : ∀ j, rf 22 j = none ∧ mem 22 j = 0) : Ct sx yX0_init cX0_init 2 none 2 [.ref 22] 23 32 rf mem (fun v rf' mem' => v = none ∧ Made 22 32 rf mem rf' mem') := by
  refine Ct_of [some (.ref 22), none] (by decide +kernel) (by simp [Lof, Value.category]) rfl ?_
  refine G_aload_n (i := 0) pX0_init_0 rfl rfl ?_
  refine G_objInit pX0_init_1 mlo_RX0_3 wobj (by decide) (by decide) ?_
  refine G_aload_n (i := 0) pX0_init_4 rfl rfl ?_
  refine G_bipush pX0_init_5 bi_8 ?_
  refine G_anew (nx := 23) (N := 8) (kd := 2) pX0_init_7 wcl2_RX0_9 (Or.inl ⟨rfl, rfl⟩) shk_23 (by decide) (by decide) (by decide) ⟨by decide, by decide, by decide⟩ ?_
  refine G_putRF (ci := 0) (j := 0) (N := 4) pX0_init_10 fx_RX0_11 rfl rfl (by decide) shk_22 (by decide) rfl (fun _ => ⟨rfl, rfl⟩) ?_
  refine G_iconst pX0_init_13 ic_0 ?_
  refine G_istore_n (i := 1) (L' := [some (.ref 22), some (.int (0 : Int32))]) pX0_init_14 rfl rfl ?_
  refine G_iload_n (i := 1) pX0_init_15 rfl rfl ?_
  refine G_bipush pX0_init_16 bi_8 ?_
  refine G_icmp_ge pX0_init_18 (fun hc => absurd hc (by decide)) (fun _ => ?_)
  refine G_aload_n (i := 0) pX0_init_21 rfl rfl ?_
  refine G_getR (ci := 0) (j := 0) (N := 4) (r := 23) pX0_init_22 fly_RX0_11 rfl (by decide) shk_22 (by decide) rfl (by rw [upr_self]) ?_
  refine G_iload_n (i := 1) pX0_init_25 rfl rfl ?_
  refine G_new (nx := 24) pX0_init_26 cn_RX0_9 shk_24 ⟨by decide, by decide, by decide⟩ ?_
  refine G_dup pX0_init_29 rfl ?_
  refine G_callI0 (b := 24) (nx := 25) (nx1 := 25) pX0_init_30 (k_X1_init_24 (fun j => ⟨clr_self, clm_self⟩)) mI_X1_init mli_RX0_17 (by decide) ⟨by decide, by decide, by decide⟩ (by decide) ?_
  rintro _ rf1 mem1 ⟨rfl, mk1⟩ _
  refine G_aast (ci := 1) pX0_init_33 (by decide) shk_23 (Or.inl ⟨rfl, rfl⟩) (vpl (by decide)) (by decide) shk_24 ?_
  rw [show (0 : Int32).toNatClampNeg = 0 by decide]
  refine G_iincW (L' := [some (.ref 22), some (.int (1 : Int32))]) pX0_init_34 rfl ic_1 (by decide) rfl ?_
  refine G_goto pX0_init_37 ?_
  refine G_iload_n (i := 1) pX0_init_15 rfl rfl ?_
  refine G_bipush pX0_init_16 bi_8 ?_
  refine G_icmp_ge pX0_init_18 (fun hc => absurd hc (by decide)) (fun _ => ?_)
  refine G_aload_n (i := 0) pX0_init_21 rfl rfl ?_
  refine G_getR (ci := 0) (j := 0) (N := 4) (r := 23) pX0_init_22 fly_RX0_11 rfl (by decide) shk_22 (by decide) rfl (by rw [upr_ne (by decide), (mk1.1 _ _ (by decide)).1, clr_ne (by decide), upr_self]) ?_
  refine G_iload_n (i := 1) pX0_init_25 rfl rfl ?_
  refine G_new (nx := 25) pX0_init_26 cn_RX0_9 shk_25 ⟨by decide, by decide, by decide⟩ ?_
  refine G_dup pX0_init_29 rfl ?_
  refine G_callI0 (b := 25) (nx := 26) (nx1 := 26) pX0_init_30 (k_X1_init_25 (fun j => ⟨clr_self, clm_self⟩)) mI_X1_init mli_RX0_17 (by decide) ⟨by decide, by decide, by decide⟩ (by decide) ?_
  rintro _ rf2 mem2 ⟨rfl, mk2⟩ _
  refine G_aast (ci := 1) pX0_init_33 (by decide) shk_23 (Or.inl ⟨rfl, rfl⟩) (vpl (by decide)) (by decide) shk_25 ?_
  rw [show (1 : Int32).toNatClampNeg = 1 by decide]
  refine G_iincW (L' := [some (.ref 22), some (.int (2 : Int32))]) pX0_init_34 rfl ic_1 (by decide) rfl ?_
  refine G_goto pX0_init_37 ?_
  refine G_iload_n (i := 1) pX0_init_15 rfl rfl ?_
  refine G_bipush pX0_init_16 bi_8 ?_
  refine G_icmp_ge pX0_init_18 (fun hc => absurd hc (by decide)) (fun _ => ?_)
  refine G_aload_n (i := 0) pX0_init_21 rfl rfl ?_
  refine G_getR (ci := 0) (j := 0) (N := 4) (r := 23) pX0_init_22 fly_RX0_11 rfl (by decide) shk_22 (by decide) rfl (by rw [upr_ne (by decide), (mk2.1 _ _ (by decide)).1, clr_ne (by decide), upr_ne (by decide), (mk1.1 _ _ (by decide)).1, clr_ne (by decide), upr_self]) ?_
  refine G_iload_n (i := 1) pX0_init_25 rfl rfl ?_
  refine G_new (nx := 26) pX0_init_26 cn_RX0_9 shk_26 ⟨by decide, by decide, by decide⟩ ?_
  refine G_dup pX0_init_29 rfl ?_
  refine G_callI0 (b := 26) (nx := 27) (nx1 := 27) pX0_init_30 (k_X1_init_26 (fun j => ⟨clr_self, clm_self⟩)) mI_X1_init mli_RX0_17 (by decide) ⟨by decide, by decide, by decide⟩ (by decide) ?_
  rintro _ rf3 mem3 ⟨rfl, mk3⟩ _
  refine G_aast (ci := 1) pX0_init_33 (by decide) shk_23 (Or.inl ⟨rfl, rfl⟩) (vpl (by decide)) (by decide) shk_26 ?_
  rw [show (2 : Int32).toNatClampNeg = 2 by decide]
  refine G_iincW (L' := [some (.ref 22), some (.int (3 : Int32))]) pX0_init_34 rfl ic_1 (by decide) rfl ?_
  refine G_goto pX0_init_37 ?_
  refine G_iload_n (i := 1) pX0_init_15 rfl rfl ?_
  refine G_bipush pX0_init_16 bi_8 ?_
  refine G_icmp_ge pX0_init_18 (fun hc => absurd hc (by decide)) (fun _ => ?_)
  refine G_aload_n (i := 0) pX0_init_21 rfl rfl ?_
  refine G_getR (ci := 0) (j := 0) (N := 4) (r := 23) pX0_init_22 fly_RX0_11 rfl (by decide) shk_22 (by decide) rfl (by rw [upr_ne (by decide), (mk3.1 _ _ (by decide)).1, clr_ne (by decide), upr_ne (by decide), (mk2.1 _ _ (by decide)).1, clr_ne (by decide), upr_ne (by decide), (mk1.1 _ _ (by decide)).1, clr_ne (by decide), upr_self]) ?_
  refine G_iload_n (i := 1) pX0_init_25 rfl rfl ?_
  refine G_new (nx := 27) pX0_init_26 cn_RX0_9 shk_27 ⟨by decide, by decide, by decide⟩ ?_
  refine G_dup pX0_init_29 rfl ?_
  refine G_callI0 (b := 27) (nx := 28) (nx1 := 28) pX0_init_30 (k_X1_init_27 (fun j => ⟨clr_self, clm_self⟩)) mI_X1_init mli_RX0_17 (by decide) ⟨by decide, by decide, by decide⟩ (by decide) ?_
  rintro _ rf4 mem4 ⟨rfl, mk4⟩ _
  refine G_aast (ci := 1) pX0_init_33 (by decide) shk_23 (Or.inl ⟨rfl, rfl⟩) (vpl (by decide)) (by decide) shk_27 ?_
  rw [show (3 : Int32).toNatClampNeg = 3 by decide]
  refine G_iincW (L' := [some (.ref 22), some (.int (4 : Int32))]) pX0_init_34 rfl ic_1 (by decide) rfl ?_
  refine G_goto pX0_init_37 ?_
  refine G_iload_n (i := 1) pX0_init_15 rfl rfl ?_
  refine G_bipush pX0_init_16 bi_8 ?_
  refine G_icmp_ge pX0_init_18 (fun hc => absurd hc (by decide)) (fun _ => ?_)
  refine G_aload_n (i := 0) pX0_init_21 rfl rfl ?_
  refine G_getR (ci := 0) (j := 0) (N := 4) (r := 23) pX0_init_22 fly_RX0_11 rfl (by decide) shk_22 (by decide) rfl (by rw [upr_ne (by decide), (mk4.1 _ _ (by decide)).1, clr_ne (by decide), upr_ne (by decide), (mk3.1 _ _ (by decide)).1, clr_ne (by decide), upr_ne (by decide), (mk2.1 _ _ (by decide)).1, clr_ne (by decide), upr_ne (by decide), (mk1.1 _ _ (by decide)).1, clr_ne (by decide), upr_self]) ?_
  refine G_iload_n (i := 1) pX0_init_25 rfl rfl ?_
  refine G_new (nx := 28) pX0_init_26 cn_RX0_9 shk_28 ⟨by decide, by decide, by decide⟩ ?_
  refine G_dup pX0_init_29 rfl ?_
  refine G_callI0 (b := 28) (nx := 29) (nx1 := 29) pX0_init_30 (k_X1_init_28 (fun j => ⟨clr_self, clm_self⟩)) mI_X1_init mli_RX0_17 (by decide) ⟨by decide, by decide, by decide⟩ (by decide) ?_
  rintro _ rf5 mem5 ⟨rfl, mk5⟩ _
  refine G_aast (ci := 1) pX0_init_33 (by decide) shk_23 (Or.inl ⟨rfl, rfl⟩) (vpl (by decide)) (by decide) shk_28 ?_
  rw [show (4 : Int32).toNatClampNeg = 4 by decide]
  refine G_iincW (L' := [some (.ref 22), some (.int (5 : Int32))]) pX0_init_34 rfl ic_1 (by decide) rfl ?_
  refine G_goto pX0_init_37 ?_
  refine G_iload_n (i := 1) pX0_init_15 rfl rfl ?_
  refine G_bipush pX0_init_16 bi_8 ?_
  refine G_icmp_ge pX0_init_18 (fun hc => absurd hc (by decide)) (fun _ => ?_)
  refine G_aload_n (i := 0) pX0_init_21 rfl rfl ?_
  refine G_getR (ci := 0) (j := 0) (N := 4) (r := 23) pX0_init_22 fly_RX0_11 rfl (by decide) shk_22 (by decide) rfl (by rw [upr_ne (by decide), (mk5.1 _ _ (by decide)).1, clr_ne (by decide), upr_ne (by decide), (mk4.1 _ _ (by decide)).1, clr_ne (by decide), upr_ne (by decide), (mk3.1 _ _ (by decide)).1, clr_ne (by decide), upr_ne (by decide), (mk2.1 _ _ (by decide)).1, clr_ne (by decide), upr_ne (by decide), (mk1.1 _ _ (by decide)).1, clr_ne (by decide), upr_self]) ?_
  refine G_iload_n (i := 1) pX0_init_25 rfl rfl ?_
  refine G_new (nx := 29) pX0_init_26 cn_RX0_9 shk_29 ⟨by decide, by decide, by decide⟩ ?_
  refine G_dup pX0_init_29 rfl ?_
  refine G_callI0 (b := 29) (nx := 30) (nx1 := 30) pX0_init_30 (k_X1_init_29 (fun j => ⟨clr_self, clm_self⟩)) mI_X1_init mli_RX0_17 (by decide) ⟨by decide, by decide, by decide⟩ (by decide) ?_
  rintro _ rf6 mem6 ⟨rfl, mk6⟩ _
  refine G_aast (ci := 1) pX0_init_33 (by decide) shk_23 (Or.inl ⟨rfl, rfl⟩) (vpl (by decide)) (by decide) shk_29 ?_
  rw [show (5 : Int32).toNatClampNeg = 5 by decide]
  refine G_iincW (L' := [some (.ref 22), some (.int (6 : Int32))]) pX0_init_34 rfl ic_1 (by decide) rfl ?_
  refine G_goto pX0_init_37 ?_
  refine G_iload_n (i := 1) pX0_init_15 rfl rfl ?_
  refine G_bipush pX0_init_16 bi_8 ?_
  refine G_icmp_ge pX0_init_18 (fun hc => absurd hc (by decide)) (fun _ => ?_)
  refine G_aload_n (i := 0) pX0_init_21 rfl rfl ?_
  refine G_getR (ci := 0) (j := 0) (N := 4) (r := 23) pX0_init_22 fly_RX0_11 rfl (by decide) shk_22 (by decide) rfl (by rw [upr_ne (by decide), (mk6.1 _ _ (by decide)).1, clr_ne (by decide), upr_ne (by decide), (mk5.1 _ _ (by decide)).1, clr_ne (by decide), upr_ne (by decide), (mk4.1 _ _ (by decide)).1, clr_ne (by decide), upr_ne (by decide), (mk3.1 _ _ (by decide)).1, clr_ne (by decide), upr_ne (by decide), (mk2.1 _ _ (by decide)).1, clr_ne (by decide), upr_ne (by decide), (mk1.1 _ _ (by decide)).1, clr_ne (by decide), upr_self]) ?_
  refine G_iload_n (i := 1) pX0_init_25 rfl rfl ?_
  refine G_new (nx := 30) pX0_init_26 cn_RX0_9 shk_30 ⟨by decide, by decide, by decide⟩ ?_
  refine G_dup pX0_init_29 rfl ?_
  refine G_callI0 (b := 30) (nx := 31) (nx1 := 31) pX0_init_30 (k_X1_init_30 (fun j => ⟨clr_self, clm_self⟩)) mI_X1_init mli_RX0_17 (by decide) ⟨by decide, by decide, by decide⟩ (by decide) ?_
  rintro _ rf7 mem7 ⟨rfl, mk7⟩ _
  refine G_aast (ci := 1) pX0_init_33 (by decide) shk_23 (Or.inl ⟨rfl, rfl⟩) (vpl (by decide)) (by decide) shk_30 ?_
  rw [show (6 : Int32).toNatClampNeg = 6 by decide]
  refine G_iincW (L' := [some (.ref 22), some (.int (7 : Int32))]) pX0_init_34 rfl ic_1 (by decide) rfl ?_
  refine G_goto pX0_init_37 ?_
  refine G_iload_n (i := 1) pX0_init_15 rfl rfl ?_
  refine G_bipush pX0_init_16 bi_8 ?_
  refine G_icmp_ge pX0_init_18 (fun hc => absurd hc (by decide)) (fun _ => ?_)
  refine G_aload_n (i := 0) pX0_init_21 rfl rfl ?_
  refine G_getR (ci := 0) (j := 0) (N := 4) (r := 23) pX0_init_22 fly_RX0_11 rfl (by decide) shk_22 (by decide) rfl (by rw [upr_ne (by decide), (mk7.1 _ _ (by decide)).1, clr_ne (by decide), upr_ne (by decide), (mk6.1 _ _ (by decide)).1, clr_ne (by decide), upr_ne (by decide), (mk5.1 _ _ (by decide)).1, clr_ne (by decide), upr_ne (by decide), (mk4.1 _ _ (by decide)).1, clr_ne (by decide), upr_ne (by decide), (mk3.1 _ _ (by decide)).1, clr_ne (by decide), upr_ne (by decide), (mk2.1 _ _ (by decide)).1, clr_ne (by decide), upr_ne (by decide), (mk1.1 _ _ (by decide)).1, clr_ne (by decide), upr_self]) ?_
  refine G_iload_n (i := 1) pX0_init_25 rfl rfl ?_
  refine G_new (nx := 31) pX0_init_26 cn_RX0_9 shk_31 ⟨by decide, by decide, by decide⟩ ?_
  refine G_dup pX0_init_29 rfl ?_
  refine G_callI0 (b := 31) (nx := 32) (nx1 := 32) pX0_init_30 (k_X1_init_31 (fun j => ⟨clr_self, clm_self⟩)) mI_X1_init mli_RX0_17 (by decide) ⟨by decide, by decide, by decide⟩ (by decide) ?_
  rintro _ rf8 mem8 ⟨rfl, mk8⟩ _
  refine G_aast (ci := 1) pX0_init_33 (by decide) shk_23 (Or.inl ⟨rfl, rfl⟩) (vpl (by decide)) (by decide) shk_31 ?_
  rw [show (7 : Int32).toNatClampNeg = 7 by decide]
  refine G_iincW (L' := [some (.ref 22), some (.int (8 : Int32))]) pX0_init_34 rfl ic_1 (by decide) rfl ?_
  refine G_goto pX0_init_37 ?_
  refine G_iload_n (i := 1) pX0_init_15 rfl rfl ?_
  refine G_bipush pX0_init_16 bi_8 ?_
  refine G_icmp_ge pX0_init_18 (fun _ => ?_) (fun hc => absurd (by decide) hc)
  refine G_return (len := 1) pX0_init_40 ⟨rfl, ?_⟩ rfl
  refine ⟨fun a j ha => ⟨?_, ?_⟩, fun a j ha hb => ?_⟩
  · rw [upr_ne (by omega), (mk8.1 _ j (by omega)).1, clr_ne (by omega), upr_ne (by omega), (mk7.1 _ j (by omega)).1, clr_ne (by omega), upr_ne (by omega), (mk6.1 _ j (by omega)).1, clr_ne (by omega), upr_ne (by omega), (mk5.1 _ j (by omega)).1, clr_ne (by omega), upr_ne (by omega), (mk4.1 _ j (by omega)).1, clr_ne (by omega), upr_ne (by omega), (mk3.1 _ j (by omega)).1, clr_ne (by omega), upr_ne (by omega), (mk2.1 _ j (by omega)).1, clr_ne (by omega), upr_ne (by omega), (mk1.1 _ j (by omega)).1, clr_ne (by omega), upr_ne (by omega), clr_ne (by omega)]
  · rw [(mk8.1 _ j (by omega)).2, clm_ne (by omega), (mk7.1 _ j (by omega)).2, clm_ne (by omega), (mk6.1 _ j (by omega)).2, clm_ne (by omega), (mk5.1 _ j (by omega)).2, clm_ne (by omega), (mk4.1 _ j (by omega)).2, clm_ne (by omega), (mk3.1 _ j (by omega)).2, clm_ne (by omega), (mk2.1 _ j (by omega)).2, clm_ne (by omega), (mk1.1 _ j (by omega)).2, clm_ne (by omega), clm_ne (by omega)]
  · have hr : (22 ≤ a ∧ a < 23) ∨ (23 ≤ a ∧ a < 24) ∨ (24 ≤ a ∧ a < 25) ∨ (25 ≤ a ∧ a < 26) ∨ (26 ≤ a ∧ a < 27) ∨ (27 ≤ a ∧ a < 28) ∨ (28 ≤ a ∧ a < 29) ∨ (29 ≤ a ∧ a < 30) ∨ (30 ≤ a ∧ a < 31) ∨ (31 ≤ a ∧ a < 32) := by omega
    rcases hr with hr | hr | hr | hr | hr | hr | hr | hr | hr | hr
    · have ea : a = 22 := by omega
      subst ea
      clear hr ha hb
      constructor
      · rcases j with (_ | (_ | (_ | (_ | j)))) <;> (simp only [upr, clr, (mk1.1 _ _ (show 22 < 24 by decide)).1, (mk2.1 _ _ (show 22 < 25 by decide)).1, (mk3.1 _ _ (show 22 < 26 by decide)).1, (mk4.1 _ _ (show 22 < 27 by decide)).1, (mk5.1 _ _ (show 22 < 28 by decide)).1, (mk6.1 _ _ (show 22 < 29 by decide)).1, (mk7.1 _ _ (show 22 < 30 by decide)).1, (mk8.1 _ _ (show 22 < 31 by decide)).1, (hc _).1]; rfl)
      · (simp only [up2, clm, (mk1.1 _ _ (show 22 < 24 by decide)).2, (mk2.1 _ _ (show 22 < 25 by decide)).2, (mk3.1 _ _ (show 22 < 26 by decide)).2, (mk4.1 _ _ (show 22 < 27 by decide)).2, (mk5.1 _ _ (show 22 < 28 by decide)).2, (mk6.1 _ _ (show 22 < 29 by decide)).2, (mk7.1 _ _ (show 22 < 30 by decide)).2, (mk8.1 _ _ (show 22 < 31 by decide)).2, (hc _).2]; rfl)
    · have ea : a = 23 := by omega
      subst ea
      clear hr ha hb
      constructor
      · rcases j with (_ | (_ | (_ | (_ | (_ | (_ | (_ | (_ | j)))))))) <;> (simp only [upr, clr, (mk1.1 _ _ (show 23 < 24 by decide)).1, (mk2.1 _ _ (show 23 < 25 by decide)).1, (mk3.1 _ _ (show 23 < 26 by decide)).1, (mk4.1 _ _ (show 23 < 27 by decide)).1, (mk5.1 _ _ (show 23 < 28 by decide)).1, (mk6.1 _ _ (show 23 < 29 by decide)).1, (mk7.1 _ _ (show 23 < 30 by decide)).1, (mk8.1 _ _ (show 23 < 31 by decide)).1]; rfl)
      · (simp only [up2, clm, (mk1.1 _ _ (show 23 < 24 by decide)).2, (mk2.1 _ _ (show 23 < 25 by decide)).2, (mk3.1 _ _ (show 23 < 26 by decide)).2, (mk4.1 _ _ (show 23 < 27 by decide)).2, (mk5.1 _ _ (show 23 < 28 by decide)).2, (mk6.1 _ _ (show 23 < 29 by decide)).2, (mk7.1 _ _ (show 23 < 30 by decide)).2, (mk8.1 _ _ (show 23 < 31 by decide)).2]; rfl)
    · exact ⟨by rw [upr_ne (by omega), (mk8.1 _ j (by omega)).1, clr_ne (by omega), upr_ne (by omega), (mk7.1 _ j (by omega)).1, clr_ne (by omega), upr_ne (by omega), (mk6.1 _ j (by omega)).1, clr_ne (by omega), upr_ne (by omega), (mk5.1 _ j (by omega)).1, clr_ne (by omega), upr_ne (by omega), (mk4.1 _ j (by omega)).1, clr_ne (by omega), upr_ne (by omega), (mk3.1 _ j (by omega)).1, clr_ne (by omega), upr_ne (by omega), (mk2.1 _ j (by omega)).1, clr_ne (by omega), upr_ne (by omega), (mk1.2 _ j (by omega) (by omega)).1], by rw [(mk8.1 _ j (by omega)).2, clm_ne (by omega), (mk7.1 _ j (by omega)).2, clm_ne (by omega), (mk6.1 _ j (by omega)).2, clm_ne (by omega), (mk5.1 _ j (by omega)).2, clm_ne (by omega), (mk4.1 _ j (by omega)).2, clm_ne (by omega), (mk3.1 _ j (by omega)).2, clm_ne (by omega), (mk2.1 _ j (by omega)).2, clm_ne (by omega), (mk1.2 _ j (by omega) (by omega)).2]⟩
    · exact ⟨by rw [upr_ne (by omega), (mk8.1 _ j (by omega)).1, clr_ne (by omega), upr_ne (by omega), (mk7.1 _ j (by omega)).1, clr_ne (by omega), upr_ne (by omega), (mk6.1 _ j (by omega)).1, clr_ne (by omega), upr_ne (by omega), (mk5.1 _ j (by omega)).1, clr_ne (by omega), upr_ne (by omega), (mk4.1 _ j (by omega)).1, clr_ne (by omega), upr_ne (by omega), (mk3.1 _ j (by omega)).1, clr_ne (by omega), upr_ne (by omega), (mk2.2 _ j (by omega) (by omega)).1], by rw [(mk8.1 _ j (by omega)).2, clm_ne (by omega), (mk7.1 _ j (by omega)).2, clm_ne (by omega), (mk6.1 _ j (by omega)).2, clm_ne (by omega), (mk5.1 _ j (by omega)).2, clm_ne (by omega), (mk4.1 _ j (by omega)).2, clm_ne (by omega), (mk3.1 _ j (by omega)).2, clm_ne (by omega), (mk2.2 _ j (by omega) (by omega)).2]⟩
    · exact ⟨by rw [upr_ne (by omega), (mk8.1 _ j (by omega)).1, clr_ne (by omega), upr_ne (by omega), (mk7.1 _ j (by omega)).1, clr_ne (by omega), upr_ne (by omega), (mk6.1 _ j (by omega)).1, clr_ne (by omega), upr_ne (by omega), (mk5.1 _ j (by omega)).1, clr_ne (by omega), upr_ne (by omega), (mk4.1 _ j (by omega)).1, clr_ne (by omega), upr_ne (by omega), (mk3.2 _ j (by omega) (by omega)).1], by rw [(mk8.1 _ j (by omega)).2, clm_ne (by omega), (mk7.1 _ j (by omega)).2, clm_ne (by omega), (mk6.1 _ j (by omega)).2, clm_ne (by omega), (mk5.1 _ j (by omega)).2, clm_ne (by omega), (mk4.1 _ j (by omega)).2, clm_ne (by omega), (mk3.2 _ j (by omega) (by omega)).2]⟩
    · exact ⟨by rw [upr_ne (by omega), (mk8.1 _ j (by omega)).1, clr_ne (by omega), upr_ne (by omega), (mk7.1 _ j (by omega)).1, clr_ne (by omega), upr_ne (by omega), (mk6.1 _ j (by omega)).1, clr_ne (by omega), upr_ne (by omega), (mk5.1 _ j (by omega)).1, clr_ne (by omega), upr_ne (by omega), (mk4.2 _ j (by omega) (by omega)).1], by rw [(mk8.1 _ j (by omega)).2, clm_ne (by omega), (mk7.1 _ j (by omega)).2, clm_ne (by omega), (mk6.1 _ j (by omega)).2, clm_ne (by omega), (mk5.1 _ j (by omega)).2, clm_ne (by omega), (mk4.2 _ j (by omega) (by omega)).2]⟩
    · exact ⟨by rw [upr_ne (by omega), (mk8.1 _ j (by omega)).1, clr_ne (by omega), upr_ne (by omega), (mk7.1 _ j (by omega)).1, clr_ne (by omega), upr_ne (by omega), (mk6.1 _ j (by omega)).1, clr_ne (by omega), upr_ne (by omega), (mk5.2 _ j (by omega) (by omega)).1], by rw [(mk8.1 _ j (by omega)).2, clm_ne (by omega), (mk7.1 _ j (by omega)).2, clm_ne (by omega), (mk6.1 _ j (by omega)).2, clm_ne (by omega), (mk5.2 _ j (by omega) (by omega)).2]⟩
    · exact ⟨by rw [upr_ne (by omega), (mk8.1 _ j (by omega)).1, clr_ne (by omega), upr_ne (by omega), (mk7.1 _ j (by omega)).1, clr_ne (by omega), upr_ne (by omega), (mk6.2 _ j (by omega) (by omega)).1], by rw [(mk8.1 _ j (by omega)).2, clm_ne (by omega), (mk7.1 _ j (by omega)).2, clm_ne (by omega), (mk6.2 _ j (by omega) (by omega)).2]⟩
    · exact ⟨by rw [upr_ne (by omega), (mk8.1 _ j (by omega)).1, clr_ne (by omega), upr_ne (by omega), (mk7.2 _ j (by omega) (by omega)).1], by rw [(mk8.1 _ j (by omega)).2, clm_ne (by omega), (mk7.2 _ j (by omega) (by omega)).2]⟩
    · exact ⟨by rw [upr_ne (by omega), (mk8.2 _ j (by omega) (by omega)).1], by rw [(mk8.2 _ j (by omega) (by omega)).2]⟩
set_option maxRecDepth 8000 in
set_option maxHeartbeats 4000000 in
theorem k_X2_init_36 {sx : Nat × (Nat → Int32)} {rf : RFt} {mem : MMt} (hc : ∀ j, rf 36 j = none ∧ mem 36 j = 0) : Ct sx yX2_init cX2_init 2 none 1 [.ref 36, .int (0 : Int32)] 37 39 rf mem (fun v rf' mem' => v = none ∧ Made 36 39 rf mem rf' mem') := by
  refine Ct_of [some (.ref 36), some (.int (0 : Int32))] (by decide +kernel) (by simp [Lof, Value.category]) rfl ?_
  refine G_aload_n (i := 0) pX2_init_0 rfl rfl ?_
  refine G_objInit pX2_init_1 mlo_RX2_3 wobj (by decide) (by decide) ?_
  refine G_aload_n (i := 0) pX2_init_4 rfl rfl ?_
  refine G_bipush pX2_init_5 bi_50 ?_
  refine G_newI (nx := 37) (N := 50) pX2_init_7 wacI shk_37 (by decide) (by decide) (by decide) ⟨by decide, by decide, by decide⟩ ?_
  refine G_putRF (ci := 2) (j := 1) (N := 4) pX2_init_9 fx_RX2_9 rfl rfl (by decide) shk_36 (by decide) rfl (fun _ => ⟨rfl, rfl⟩) ?_
  refine G_aload_n (i := 0) pX2_init_12 rfl rfl ?_
  refine G_bipush pX2_init_13 bi_50 ?_
  refine G_newI (nx := 38) (N := 50) pX2_init_15 wacI shk_38 (by decide) (by decide) (by decide) ⟨by decide, by decide, by decide⟩ ?_
  refine G_putRF (ci := 2) (j := 3) (N := 4) pX2_init_17 fx_RX2_15 rfl rfl (by decide) shk_36 (by decide) rfl (fun _ => ⟨rfl, rfl⟩) ?_
  refine G_aload_n (i := 0) pX2_init_20 rfl rfl ?_
  refine G_iload_n (i := 1) pX2_init_21 rfl rfl ?_
  refine G_putIF (ci := 2) (j := 0) (N := 4) pX2_init_22 fx_RX2_18 rfl rfl (by decide) shk_36 (by decide) rfl (fun _ => ⟨rfl, rfl⟩) ?_
  refine G_return (len := 1) pX2_init_25 ⟨rfl, ?_⟩ rfl
  refine ⟨fun a j ha => ⟨?_, ?_⟩, fun a j ha hb => ?_⟩
  · rw [upr_ne (by omega), clr_ne (by omega), upr_ne (by omega), clr_ne (by omega)]
  · rw [up2_ne (by omega), clm_ne (by omega), clm_ne (by omega)]
  · have hr : (36 ≤ a ∧ a < 37) ∨ (37 ≤ a ∧ a < 38) ∨ (38 ≤ a ∧ a < 39) := by omega
    rcases hr with hr | hr | hr
    · have ea : a = 36 := by omega
      subst ea
      clear hr ha hb
      constructor
      · rcases j with (_ | (_ | (_ | (_ | j)))) <;> (simp only [upr, clr, (hc _).1]; rfl)
      · rcases j with (_ | j) <;> (simp only [up2, clm, (hc _).2]; rfl)
    · have ea : a = 37 := by omega
      subst ea
      clear hr ha hb
      constructor
      · (simp only [upr, clr]; rfl)
      · (simp only [up2, clm]; rfl)
    · have ea : a = 38 := by omega
      subst ea
      clear hr ha hb
      constructor
      · (simp only [upr, clr]; rfl)
      · (simp only [up2, clm]; rfl)
set_option maxRecDepth 8000 in
set_option maxHeartbeats 4000000 in
theorem k_X2_init_39 {sx : Nat × (Nat → Int32)} {rf : RFt} {mem : MMt} (hc : ∀ j, rf 39 j = none ∧ mem 39 j = 0) : Ct sx yX2_init cX2_init 2 none 1 [.ref 39, .int (1 : Int32)] 40 42 rf mem (fun v rf' mem' => v = none ∧ Made 39 42 rf mem rf' mem') := by
  refine Ct_of [some (.ref 39), some (.int (1 : Int32))] (by decide +kernel) (by simp [Lof, Value.category]) rfl ?_
  refine G_aload_n (i := 0) pX2_init_0 rfl rfl ?_
  refine G_objInit pX2_init_1 mlo_RX2_3 wobj (by decide) (by decide) ?_
  refine G_aload_n (i := 0) pX2_init_4 rfl rfl ?_
  refine G_bipush pX2_init_5 bi_50 ?_
  refine G_newI (nx := 40) (N := 50) pX2_init_7 wacI shk_40 (by decide) (by decide) (by decide) ⟨by decide, by decide, by decide⟩ ?_
  refine G_putRF (ci := 2) (j := 1) (N := 4) pX2_init_9 fx_RX2_9 rfl rfl (by decide) shk_39 (by decide) rfl (fun _ => ⟨rfl, rfl⟩) ?_
  refine G_aload_n (i := 0) pX2_init_12 rfl rfl ?_
  refine G_bipush pX2_init_13 bi_50 ?_
  refine G_newI (nx := 41) (N := 50) pX2_init_15 wacI shk_41 (by decide) (by decide) (by decide) ⟨by decide, by decide, by decide⟩ ?_
  refine G_putRF (ci := 2) (j := 3) (N := 4) pX2_init_17 fx_RX2_15 rfl rfl (by decide) shk_39 (by decide) rfl (fun _ => ⟨rfl, rfl⟩) ?_
  refine G_aload_n (i := 0) pX2_init_20 rfl rfl ?_
  refine G_iload_n (i := 1) pX2_init_21 rfl rfl ?_
  refine G_putIF (ci := 2) (j := 0) (N := 4) pX2_init_22 fx_RX2_18 rfl rfl (by decide) shk_39 (by decide) rfl (fun _ => ⟨rfl, rfl⟩) ?_
  refine G_return (len := 1) pX2_init_25 ⟨rfl, ?_⟩ rfl
  refine ⟨fun a j ha => ⟨?_, ?_⟩, fun a j ha hb => ?_⟩
  · rw [upr_ne (by omega), clr_ne (by omega), upr_ne (by omega), clr_ne (by omega)]
  · rw [up2_ne (by omega), clm_ne (by omega), clm_ne (by omega)]
  · have hr : (39 ≤ a ∧ a < 40) ∨ (40 ≤ a ∧ a < 41) ∨ (41 ≤ a ∧ a < 42) := by omega
    rcases hr with hr | hr | hr
    · have ea : a = 39 := by omega
      subst ea
      clear hr ha hb
      constructor
      · rcases j with (_ | (_ | (_ | (_ | j)))) <;> (simp only [upr, clr, (hc _).1]; rfl)
      · rcases j with (_ | j) <;> (simp only [up2, clm, (hc _).2]; rfl)
    · have ea : a = 40 := by omega
      subst ea
      clear hr ha hb
      constructor
      · (simp only [upr, clr]; rfl)
      · (simp only [up2, clm]; rfl)
    · have ea : a = 41 := by omega
      subst ea
      clear hr ha hb
      constructor
      · (simp only [upr, clr]; rfl)
      · (simp only [up2, clm]; rfl)
set_option maxRecDepth 8000 in
set_option maxHeartbeats 4000000 in
theorem k_X5_init_32 {sx : Nat × (Nat → Int32)} {rf : RFt} {mem : MMt} (hc : ∀ j, rf 32 j = none ∧ mem 32 j = 0) : Ct sx yX5_init cX5_init 1 none 3 [.ref 32] 33 43 rf mem (fun v rf' mem' => v = none ∧ Made 32 43 rf mem rf' mem') := by
  refine Ct_of [some (.ref 32)] (by decide +kernel) (by simp [Lof, Value.category]) rfl ?_
  refine G_aload_n (i := 0) pX5_init_0 rfl rfl ?_
  refine G_objInit pX5_init_1 mlo_RX5_3 wobj (by decide) (by decide) ?_
  refine G_aload_n (i := 0) pX5_init_4 rfl rfl ?_
  refine G_bipush pX5_init_5 bi_12 ?_
  refine G_putI (ci := 5) (j := 0) (N := 10) pX5_init_7 fx_RX5_9 rfl (by decide) shk_32 (by decide) rfl (fun _ => ⟨rfl, rfl⟩) ?_
  refine G_aload_n (i := 0) pX5_init_10 rfl rfl ?_
  refine G_iconst pX5_init_11 ic_2 ?_
  refine G_newI (nx := 33) (N := 2) pX5_init_12 wacI shk_33 (by decide) (by decide) (by decide) ⟨by decide, by decide, by decide⟩ ?_
  refine G_dup pX5_init_14 rfl ?_
  refine G_iconst pX5_init_15 ic_0 ?_
  refine G_iconst pX5_init_16 ic_1 ?_
  refine G_iastL (j := 0) pX5_init_17 (by decide) shk_33 (vpl (by decide)) (by decide) rfl ?_
  refine G_dup pX5_init_18 rfl ?_
  refine G_iconst pX5_init_19 ic_1 ?_
  refine G_iconst pX5_init_20 ic_m1 ?_
  refine G_iastL (j := 1) pX5_init_21 (by decide) shk_33 (vpl (by decide)) (by decide) rfl ?_
  refine G_putRF (ci := 5) (j := 1) (N := 10) pX5_init_22 fx_RX5_15 rfl rfl (by decide) shk_32 (by decide) rfl (fun _ => ⟨rfl, rfl⟩) ?_
  refine G_aload_n (i := 0) pX5_init_25 rfl rfl ?_
  refine G_iconst pX5_init_26 ic_1 ?_
  refine G_putI (ci := 5) (j := 2) (N := 10) pX5_init_27 fx_RX5_19 rfl (by decide) shk_32 (by decide) rfl (fun _ => ⟨rfl, rfl⟩) ?_
  refine G_aload_n (i := 0) pX5_init_30 rfl rfl ?_
  refine G_bipush pX5_init_31 bi_50 ?_
  refine G_newB (nx := 34) (N := 50) pX5_init_33 wacB shk_34 (by decide) (by decide) (by decide) ⟨by decide, by decide, by decide⟩ ?_
  refine G_putRF (ci := 5) (j := 3) (N := 10) pX5_init_35 fx_RX5_22 rfl rfl (by decide) shk_32 (by decide) rfl (fun _ => ⟨rfl, rfl⟩) ?_
  refine G_aload_n (i := 0) pX5_init_38 rfl rfl ?_
  refine G_bipush pX5_init_39 bi_20 ?_
  refine G_newI (nx := 35) (N := 20) pX5_init_41 wacI shk_35 (by decide) (by decide) (by decide) ⟨by decide, by decide, by decide⟩ ?_
  refine G_putRF (ci := 5) (j := 5) (N := 10) pX5_init_43 fx_RX5_26 rfl rfl (by decide) shk_32 (by decide) rfl (fun _ => ⟨rfl, rfl⟩) ?_
  refine G_aload_n (i := 0) pX5_init_46 rfl rfl ?_
  refine G_new (nx := 36) pX5_init_47 cn_RX5_29 shk_36 ⟨by decide, by decide, by decide⟩ ?_
  refine G_dup pX5_init_50 rfl ?_
  refine G_iconst pX5_init_51 ic_0 ?_
  refine G_callI1 (b := 36) (nx := 37) (nx1 := 39) pX5_init_52 (k_X2_init_36 (fun j => ⟨clr_self, clm_self⟩)) mI_X2_init mli_RX5_31 (by decide) ⟨by decide, by decide, by decide⟩ (by decide) ?_
  rintro _ rf1 mem1 ⟨rfl, mk1⟩ _
  refine G_putRF (ci := 5) (j := 7) (N := 10) pX5_init_55 fx_RX5_34 rfl rfl (by decide) shk_32 (by decide) rfl (fun _ => ⟨rfl, rfl⟩) ?_
  refine G_aload_n (i := 0) pX5_init_58 rfl rfl ?_
  refine G_new (nx := 39) pX5_init_59 cn_RX5_29 shk_39 ⟨by decide, by decide, by decide⟩ ?_
  refine G_dup pX5_init_62 rfl ?_
  refine G_iconst pX5_init_63 ic_1 ?_
  refine G_callI1 (b := 39) (nx := 40) (nx1 := 42) pX5_init_64 (k_X2_init_39 (fun j => ⟨clr_self, clm_self⟩)) mI_X2_init mli_RX5_31 (by decide) ⟨by decide, by decide, by decide⟩ (by decide) ?_
  rintro _ rf2 mem2 ⟨rfl, mk2⟩ _
  refine G_putRF (ci := 5) (j := 8) (N := 10) pX5_init_67 fx_RX5_38 rfl rfl (by decide) shk_32 (by decide) rfl (fun _ => ⟨rfl, rfl⟩) ?_
  refine G_aload_n (i := 0) pX5_init_70 rfl rfl ?_
  refine G_sipush pX5_init_71 si_410 ?_
  refine G_newB (nx := 42) (N := 410) pX5_init_74 wacB shk_42 (by decide) (by decide) (by decide) ⟨by decide, by decide, by decide⟩ ?_
  refine G_putRF (ci := 5) (j := 9) (N := 10) pX5_init_76 fx_RX5_41 rfl rfl (by decide) shk_32 (by decide) rfl (fun _ => ⟨rfl, rfl⟩) ?_
  refine G_aload_n (i := 0) pX5_init_79 rfl rfl ?_
  refine G_callV0 (b := 32) (ci := 5) (N := 10) (nx := 43) (nx1 := 43) pX5_init_80 (kforget 32 42 (by decide) shk_32 (by decide) shk_42 (by simp [upr, clr])) mV_X5_forgetPulls ml_RX5_44 (by decide) ⟨by decide, by decide, by decide⟩ (by decide) (by decide) shk_32 rfl ?_
  rintro _ _ _ ⟨rfl, rfl, rfl⟩ _
  refine G_return (len := 1) pX5_init_83 ⟨rfl, ?_⟩ rfl
  refine ⟨fun a j ha => ⟨?_, ?_⟩, fun a j ha hb => ?_⟩
  · rw [upr_ne (by omega), clr_ne (by omega), upr_ne (by omega), (mk2.1 _ j (by omega)).1, clr_ne (by omega), upr_ne (by omega), (mk1.1 _ j (by omega)).1, clr_ne (by omega), upr_ne (by omega), clr_ne (by omega), upr_ne (by omega), clr_ne (by omega), upr_ne (by omega), clr_ne (by omega)]
  · rw [fgm_ne (by omega), clm_ne (by omega), (mk2.1 _ j (by omega)).2, clm_ne (by omega), (mk1.1 _ j (by omega)).2, clm_ne (by omega), clm_ne (by omega), clm_ne (by omega), up2_ne (by omega), up2_ne (by omega), up2_ne (by omega), clm_ne (by omega), up2_ne (by omega)]
  · have hr : (32 ≤ a ∧ a < 33) ∨ (33 ≤ a ∧ a < 34) ∨ (34 ≤ a ∧ a < 35) ∨ (35 ≤ a ∧ a < 36) ∨ (36 ≤ a ∧ a < 39) ∨ (39 ≤ a ∧ a < 42) ∨ (42 ≤ a ∧ a < 43) := by omega
    rcases hr with hr | hr | hr | hr | hr | hr | hr
    · have ea : a = 32 := by omega
      subst ea
      clear hr ha hb
      constructor
      · rcases j with (_ | (_ | (_ | (_ | (_ | (_ | (_ | (_ | (_ | (_ | j)))))))))) <;> (simp only [upr, clr, (mk1.1 _ _ (show 32 < 36 by decide)).1, (mk2.1 _ _ (show 32 < 39 by decide)).1, (hc _).1]; rfl)
      · rcases j with (_ | (_ | (_ | j))) <;> (simp only [up2, clm, (mk1.1 _ _ (show 32 < 36 by decide)).2, (mk2.1 _ _ (show 32 < 39 by decide)).2, fgm_ne (show 32 ≠ 42 by decide), (hc _).2]; rfl)
    · have ea : a = 33 := by omega
      subst ea
      clear hr ha hb
      constructor
      · (simp only [upr, clr, (mk1.1 _ _ (show 33 < 36 by decide)).1, (mk2.1 _ _ (show 33 < 39 by decide)).1]; rfl)
      · rcases j with (_ | (_ | j)) <;> (simp only [up2, clm, (mk1.1 _ _ (show 33 < 36 by decide)).2, (mk2.1 _ _ (show 33 < 39 by decide)).2, fgm_ne (show 33 ≠ 42 by decide)]; rfl)
    · have ea : a = 34 := by omega
      subst ea
      clear hr ha hb
      constructor
      · (simp only [upr, clr, (mk1.1 _ _ (show 34 < 36 by decide)).1, (mk2.1 _ _ (show 34 < 39 by decide)).1]; rfl)
      · (simp only [up2, clm, (mk1.1 _ _ (show 34 < 36 by decide)).2, (mk2.1 _ _ (show 34 < 39 by decide)).2, fgm_ne (show 34 ≠ 42 by decide)]; rfl)
    · have ea : a = 35 := by omega
      subst ea
      clear hr ha hb
      constructor
      · (simp only [upr, clr, (mk1.1 _ _ (show 35 < 36 by decide)).1, (mk2.1 _ _ (show 35 < 39 by decide)).1]; rfl)
      · (simp only [up2, clm, (mk1.1 _ _ (show 35 < 36 by decide)).2, (mk2.1 _ _ (show 35 < 39 by decide)).2, fgm_ne (show 35 ≠ 42 by decide)]; rfl)
    · exact ⟨by rw [upr_ne (by omega), clr_ne (by omega), upr_ne (by omega), (mk2.1 _ j (by omega)).1, clr_ne (by omega), upr_ne (by omega), (mk1.2 _ j (by omega) (by omega)).1], by rw [fgm_ne (by omega), clm_ne (by omega), (mk2.1 _ j (by omega)).2, clm_ne (by omega), (mk1.2 _ j (by omega) (by omega)).2]⟩
    · exact ⟨by rw [upr_ne (by omega), clr_ne (by omega), upr_ne (by omega), (mk2.2 _ j (by omega) (by omega)).1], by rw [fgm_ne (by omega), clm_ne (by omega), (mk2.2 _ j (by omega) (by omega)).2]⟩
    · have ea : a = 42 := by omega
      subst ea
      clear hr ha hb
      constructor
      · (simp only [upr, clr]; rfl)
      · exact forget_row 42 j (Or.inr rfl) clm_self
set_option maxRecDepth 8000 in
set_option maxHeartbeats 4000000 in
theorem k_X1_init_45 {sx : Nat × (Nat → Int32)} {rf : RFt} {mem : MMt} (hc : ∀ j, rf 45 j = none ∧ mem 45 j = 0) : Ct sx yX1_init cX1_init 1 none 1 [.ref 45] 46 46 rf mem (fun v rf' mem' => v = none ∧ Made 45 46 rf mem rf' mem') := by
  refine Ct_of [some (.ref 45)] (by decide +kernel) (by simp [Lof, Value.category]) rfl ?_
  refine G_aload_n (i := 0) pX1_init_0 rfl rfl ?_
  refine G_objInit pX1_init_1 mlo_RX1_3 wobj (by decide) (by decide) ?_
  refine G_return (len := 1) pX1_init_4 ⟨rfl, ?_⟩ rfl
  refine ⟨fun a j ha => ⟨?_, ?_⟩, fun a j ha hb => ?_⟩
  · rfl
  · rfl
  · have hr : (45 ≤ a ∧ a < 46) := by omega
    rcases hr with hr
    · have ea : a = 45 := by omega
      subst ea
      clear hr ha hb
      constructor
      · rcases j with (_ | (_ | (_ | (_ | (_ | j))))) <;> (simp only [upr, clr, (hc _).1]; rfl)
      · (simp only [up2, clm, (hc _).2]; rfl)
set_option maxRecDepth 8000 in
set_option maxHeartbeats 4000000 in
theorem k_X1_init_46 {sx : Nat × (Nat → Int32)} {rf : RFt} {mem : MMt} (hc : ∀ j, rf 46 j = none ∧ mem 46 j = 0) : Ct sx yX1_init cX1_init 1 none 1 [.ref 46] 47 47 rf mem (fun v rf' mem' => v = none ∧ Made 46 47 rf mem rf' mem') := by
  refine Ct_of [some (.ref 46)] (by decide +kernel) (by simp [Lof, Value.category]) rfl ?_
  refine G_aload_n (i := 0) pX1_init_0 rfl rfl ?_
  refine G_objInit pX1_init_1 mlo_RX1_3 wobj (by decide) (by decide) ?_
  refine G_return (len := 1) pX1_init_4 ⟨rfl, ?_⟩ rfl
  refine ⟨fun a j ha => ⟨?_, ?_⟩, fun a j ha hb => ?_⟩
  · rfl
  · rfl
  · have hr : (46 ≤ a ∧ a < 47) := by omega
    rcases hr with hr
    · have ea : a = 46 := by omega
      subst ea
      clear hr ha hb
      constructor
      · rcases j with (_ | (_ | (_ | (_ | (_ | j))))) <;> (simp only [upr, clr, (hc _).1]; rfl)
      · (simp only [up2, clm, (hc _).2]; rfl)
set_option maxRecDepth 8000 in
set_option maxHeartbeats 4000000 in
theorem k_X1_init_47 {sx : Nat × (Nat → Int32)} {rf : RFt} {mem : MMt} (hc : ∀ j, rf 47 j = none ∧ mem 47 j = 0) : Ct sx yX1_init cX1_init 1 none 1 [.ref 47] 48 48 rf mem (fun v rf' mem' => v = none ∧ Made 47 48 rf mem rf' mem') := by
  refine Ct_of [some (.ref 47)] (by decide +kernel) (by simp [Lof, Value.category]) rfl ?_
  refine G_aload_n (i := 0) pX1_init_0 rfl rfl ?_
  refine G_objInit pX1_init_1 mlo_RX1_3 wobj (by decide) (by decide) ?_
  refine G_return (len := 1) pX1_init_4 ⟨rfl, ?_⟩ rfl
  refine ⟨fun a j ha => ⟨?_, ?_⟩, fun a j ha hb => ?_⟩
  · rfl
  · rfl
  · have hr : (47 ≤ a ∧ a < 48) := by omega
    rcases hr with hr
    · have ea : a = 47 := by omega
      subst ea
      clear hr ha hb
      constructor
      · rcases j with (_ | (_ | (_ | (_ | (_ | j))))) <;> (simp only [upr, clr, (hc _).1]; rfl)
      · (simp only [up2, clm, (hc _).2]; rfl)
set_option maxRecDepth 8000 in
set_option maxHeartbeats 4000000 in
theorem k_X1_init_48 {sx : Nat × (Nat → Int32)} {rf : RFt} {mem : MMt} (hc : ∀ j, rf 48 j = none ∧ mem 48 j = 0) : Ct sx yX1_init cX1_init 1 none 1 [.ref 48] 49 49 rf mem (fun v rf' mem' => v = none ∧ Made 48 49 rf mem rf' mem') := by
  refine Ct_of [some (.ref 48)] (by decide +kernel) (by simp [Lof, Value.category]) rfl ?_
  refine G_aload_n (i := 0) pX1_init_0 rfl rfl ?_
  refine G_objInit pX1_init_1 mlo_RX1_3 wobj (by decide) (by decide) ?_
  refine G_return (len := 1) pX1_init_4 ⟨rfl, ?_⟩ rfl
  refine ⟨fun a j ha => ⟨?_, ?_⟩, fun a j ha hb => ?_⟩
  · rfl
  · rfl
  · have hr : (48 ≤ a ∧ a < 49) := by omega
    rcases hr with hr
    · have ea : a = 48 := by omega
      subst ea
      clear hr ha hb
      constructor
      · rcases j with (_ | (_ | (_ | (_ | (_ | j))))) <;> (simp only [upr, clr, (hc _).1]; rfl)
      · (simp only [up2, clm, (hc _).2]; rfl)
set_option maxRecDepth 8000 in
set_option maxHeartbeats 4000000 in
theorem k_X1_init_49 {sx : Nat × (Nat → Int32)} {rf : RFt} {mem : MMt} (hc : ∀ j, rf 49 j = none ∧ mem 49 j = 0) : Ct sx yX1_init cX1_init 1 none 1 [.ref 49] 50 50 rf mem (fun v rf' mem' => v = none ∧ Made 49 50 rf mem rf' mem') := by
  refine Ct_of [some (.ref 49)] (by decide +kernel) (by simp [Lof, Value.category]) rfl ?_
  refine G_aload_n (i := 0) pX1_init_0 rfl rfl ?_
  refine G_objInit pX1_init_1 mlo_RX1_3 wobj (by decide) (by decide) ?_
  refine G_return (len := 1) pX1_init_4 ⟨rfl, ?_⟩ rfl
  refine ⟨fun a j ha => ⟨?_, ?_⟩, fun a j ha hb => ?_⟩
  · rfl
  · rfl
  · have hr : (49 ≤ a ∧ a < 50) := by omega
    rcases hr with hr
    · have ea : a = 49 := by omega
      subst ea
      clear hr ha hb
      constructor
      · rcases j with (_ | (_ | (_ | (_ | (_ | j))))) <;> (simp only [upr, clr, (hc _).1]; rfl)
      · (simp only [up2, clm, (hc _).2]; rfl)
set_option maxRecDepth 8000 in
set_option maxHeartbeats 4000000 in
theorem k_X1_init_50 {sx : Nat × (Nat → Int32)} {rf : RFt} {mem : MMt} (hc : ∀ j, rf 50 j = none ∧ mem 50 j = 0) : Ct sx yX1_init cX1_init 1 none 1 [.ref 50] 51 51 rf mem (fun v rf' mem' => v = none ∧ Made 50 51 rf mem rf' mem') := by
  refine Ct_of [some (.ref 50)] (by decide +kernel) (by simp [Lof, Value.category]) rfl ?_
  refine G_aload_n (i := 0) pX1_init_0 rfl rfl ?_
  refine G_objInit pX1_init_1 mlo_RX1_3 wobj (by decide) (by decide) ?_
  refine G_return (len := 1) pX1_init_4 ⟨rfl, ?_⟩ rfl
  refine ⟨fun a j ha => ⟨?_, ?_⟩, fun a j ha hb => ?_⟩
  · rfl
  · rfl
  · have hr : (50 ≤ a ∧ a < 51) := by omega
    rcases hr with hr
    · have ea : a = 50 := by omega
      subst ea
      clear hr ha hb
      constructor
      · rcases j with (_ | (_ | (_ | (_ | (_ | j))))) <;> (simp only [upr, clr, (hc _).1]; rfl)
      · (simp only [up2, clm, (hc _).2]; rfl)
set_option maxRecDepth 8000 in
set_option maxHeartbeats 4000000 in
theorem k_X1_init_51 {sx : Nat × (Nat → Int32)} {rf : RFt} {mem : MMt} (hc : ∀ j, rf 51 j = none ∧ mem 51 j = 0) : Ct sx yX1_init cX1_init 1 none 1 [.ref 51] 52 52 rf mem (fun v rf' mem' => v = none ∧ Made 51 52 rf mem rf' mem') := by
  refine Ct_of [some (.ref 51)] (by decide +kernel) (by simp [Lof, Value.category]) rfl ?_
  refine G_aload_n (i := 0) pX1_init_0 rfl rfl ?_
  refine G_objInit pX1_init_1 mlo_RX1_3 wobj (by decide) (by decide) ?_
  refine G_return (len := 1) pX1_init_4 ⟨rfl, ?_⟩ rfl
  refine ⟨fun a j ha => ⟨?_, ?_⟩, fun a j ha hb => ?_⟩
  · rfl
  · rfl
  · have hr : (51 ≤ a ∧ a < 52) := by omega
    rcases hr with hr
    · have ea : a = 51 := by omega
      subst ea
      clear hr ha hb
      constructor
      · rcases j with (_ | (_ | (_ | (_ | (_ | j))))) <;> (simp only [upr, clr, (hc _).1]; rfl)
      · (simp only [up2, clm, (hc _).2]; rfl)
set_option maxRecDepth 8000 in
set_option maxHeartbeats 4000000 in
theorem k_X1_init_52 {sx : Nat × (Nat → Int32)} {rf : RFt} {mem : MMt} (hc : ∀ j, rf 52 j = none ∧ mem 52 j = 0) : Ct sx yX1_init cX1_init 1 none 1 [.ref 52] 53 53 rf mem (fun v rf' mem' => v = none ∧ Made 52 53 rf mem rf' mem') := by
  refine Ct_of [some (.ref 52)] (by decide +kernel) (by simp [Lof, Value.category]) rfl ?_
  refine G_aload_n (i := 0) pX1_init_0 rfl rfl ?_
  refine G_objInit pX1_init_1 mlo_RX1_3 wobj (by decide) (by decide) ?_
  refine G_return (len := 1) pX1_init_4 ⟨rfl, ?_⟩ rfl
  refine ⟨fun a j ha => ⟨?_, ?_⟩, fun a j ha hb => ?_⟩
  · rfl
  · rfl
  · have hr : (52 ≤ a ∧ a < 53) := by omega
    rcases hr with hr
    · have ea : a = 52 := by omega
      subst ea
      clear hr ha hb
      constructor
      · rcases j with (_ | (_ | (_ | (_ | (_ | j))))) <;> (simp only [upr, clr, (hc _).1]; rfl)
      · (simp only [up2, clm, (hc _).2]; rfl)
set_option maxRecDepth 8000 in
set_option maxHeartbeats 4000000 in
theorem k_X0_init_43 {sx : Nat × (Nat → Int32)} {rf : RFt} {mem : MMt} (hc : ∀ j, rf 43 j = none ∧ mem 43 j = 0) : Ct sx yX0_init cX0_init 2 none 2 [.ref 43] 44 53 rf mem (fun v rf' mem' => v = none ∧ Made 43 53 rf mem rf' mem') := by
  refine Ct_of [some (.ref 43), none] (by decide +kernel) (by simp [Lof, Value.category]) rfl ?_
  refine G_aload_n (i := 0) pX0_init_0 rfl rfl ?_
  refine G_objInit pX0_init_1 mlo_RX0_3 wobj (by decide) (by decide) ?_
  refine G_aload_n (i := 0) pX0_init_4 rfl rfl ?_
  refine G_bipush pX0_init_5 bi_8 ?_
  refine G_anew (nx := 44) (N := 8) (kd := 2) pX0_init_7 wcl2_RX0_9 (Or.inl ⟨rfl, rfl⟩) shk_44 (by decide) (by decide) (by decide) ⟨by decide, by decide, by decide⟩ ?_
  refine G_putRF (ci := 0) (j := 0) (N := 4) pX0_init_10 fx_RX0_11 rfl rfl (by decide) shk_43 (by decide) rfl (fun _ => ⟨rfl, rfl⟩) ?_
  refine G_iconst pX0_init_13 ic_0 ?_
  refine G_istore_n (i := 1) (L' := [some (.ref 43), some (.int (0 : Int32))]) pX0_init_14 rfl rfl ?_
  refine G_iload_n (i := 1) pX0_init_15 rfl rfl ?_
  refine G_bipush pX0_init_16 bi_8 ?_
  refine G_icmp_ge pX0_init_18 (fun hc => absurd hc (by decide)) (fun _ => ?_)
  refine G_aload_n (i := 0) pX0_init_21 rfl rfl ?_
  refine G_getR (ci := 0) (j := 0) (N := 4) (r := 44) pX0_init_22 fly_RX0_11 rfl (by decide) shk_43 (by decide) rfl (by rw [upr_self]) ?_
  refine G_iload_n (i := 1) pX0_init_25 rfl rfl ?_
  refine G_new (nx := 45) pX0_init_26 cn_RX0_9 shk_45 ⟨by decide, by decide, by decide⟩ ?_
  refine G_dup pX0_init_29 rfl ?_
  refine G_callI0 (b := 45) (nx := 46) (nx1 := 46) pX0_init_30 (k_X1_init_45 (fun j => ⟨clr_self, clm_self⟩)) mI_X1_init mli_RX0_17 (by decide) ⟨by decide, by decide, by decide⟩ (by decide) ?_
  rintro _ rf1 mem1 ⟨rfl, mk1⟩ _
  refine G_aast (ci := 1) pX0_init_33 (by decide) shk_44 (Or.inl ⟨rfl, rfl⟩) (vpl (by decide)) (by decide) shk_45 ?_
  rw [show (0 : Int32).toNatClampNeg = 0 by decide]
  refine G_iincW (L' := [some (.ref 43), some (.int (1 : Int32))]) pX0_init_34 rfl ic_1 (by decide) rfl ?_
  refine G_goto pX0_init_37 ?_
  refine G_iload_n (i := 1) pX0_init_15 rfl rfl ?_
  refine G_bipush pX0_init_16 bi_8 ?_
  refine G_icmp_ge pX0_init_18 (fun hc => absurd hc (by decide)) (fun _ => ?_)
  refine G_aload_n (i := 0) pX0_init_21 rfl rfl ?_
  refine G_getR (ci := 0) (j := 0) (N := 4) (r := 44) pX0_init_22 fly_RX0_11 rfl (by decide) shk_43 (by decide) rfl (by rw [upr_ne (by decide), (mk1.1 _ _ (by decide)).1, clr_ne (by decide), upr_self]) ?_
  refine G_iload_n (i := 1) pX0_init_25 rfl rfl ?_
  refine G_new (nx := 46) pX0_init_26 cn_RX0_9 shk_46 ⟨by decide, by decide, by decide⟩ ?_
  refine G_dup pX0_init_29 rfl ?_
  refine G_callI0 (b := 46) (nx := 47) (nx1 := 47) pX0_init_30 (k_X1_init_46 (fun j => ⟨clr_self, clm_self⟩)) mI_X1_init mli_RX0_17 (by decide) ⟨by decide, by decide, by decide⟩ (by decide) ?_
  rintro _ rf2 mem2 ⟨rfl, mk2⟩ _
  refine G_aast (ci := 1) pX0_init_33 (by decide) shk_44 (Or.inl ⟨rfl, rfl⟩) (vpl (by decide)) (by decide) shk_46 ?_
  rw [show (1 : Int32).toNatClampNeg = 1 by decide]
  refine G_iincW (L' := [some (.ref 43), some (.int (2 : Int32))]) pX0_init_34 rfl ic_1 (by decide) rfl ?_
  refine G_goto pX0_init_37 ?_
  refine G_iload_n (i := 1) pX0_init_15 rfl rfl ?_
  refine G_bipush pX0_init_16 bi_8 ?_
  refine G_icmp_ge pX0_init_18 (fun hc => absurd hc (by decide)) (fun _ => ?_)
  refine G_aload_n (i := 0) pX0_init_21 rfl rfl ?_
  refine G_getR (ci := 0) (j := 0) (N := 4) (r := 44) pX0_init_22 fly_RX0_11 rfl (by decide) shk_43 (by decide) rfl (by rw [upr_ne (by decide), (mk2.1 _ _ (by decide)).1, clr_ne (by decide), upr_ne (by decide), (mk1.1 _ _ (by decide)).1, clr_ne (by decide), upr_self]) ?_
  refine G_iload_n (i := 1) pX0_init_25 rfl rfl ?_
  refine G_new (nx := 47) pX0_init_26 cn_RX0_9 shk_47 ⟨by decide, by decide, by decide⟩ ?_
  refine G_dup pX0_init_29 rfl ?_
  refine G_callI0 (b := 47) (nx := 48) (nx1 := 48) pX0_init_30 (k_X1_init_47 (fun j => ⟨clr_self, clm_self⟩)) mI_X1_init mli_RX0_17 (by decide) ⟨by decide, by decide, by decide⟩ (by decide) ?_
  rintro _ rf3 mem3 ⟨rfl, mk3⟩ _
  refine G_aast (ci := 1) pX0_init_33 (by decide) shk_44 (Or.inl ⟨rfl, rfl⟩) (vpl (by decide)) (by decide) shk_47 ?_
  rw [show (2 : Int32).toNatClampNeg = 2 by decide]
  refine G_iincW (L' := [some (.ref 43), some (.int (3 : Int32))]) pX0_init_34 rfl ic_1 (by decide) rfl ?_
  refine G_goto pX0_init_37 ?_
  refine G_iload_n (i := 1) pX0_init_15 rfl rfl ?_
  refine G_bipush pX0_init_16 bi_8 ?_
  refine G_icmp_ge pX0_init_18 (fun hc => absurd hc (by decide)) (fun _ => ?_)
  refine G_aload_n (i := 0) pX0_init_21 rfl rfl ?_
  refine G_getR (ci := 0) (j := 0) (N := 4) (r := 44) pX0_init_22 fly_RX0_11 rfl (by decide) shk_43 (by decide) rfl (by rw [upr_ne (by decide), (mk3.1 _ _ (by decide)).1, clr_ne (by decide), upr_ne (by decide), (mk2.1 _ _ (by decide)).1, clr_ne (by decide), upr_ne (by decide), (mk1.1 _ _ (by decide)).1, clr_ne (by decide), upr_self]) ?_
  refine G_iload_n (i := 1) pX0_init_25 rfl rfl ?_
  refine G_new (nx := 48) pX0_init_26 cn_RX0_9 shk_48 ⟨by decide, by decide, by decide⟩ ?_
  refine G_dup pX0_init_29 rfl ?_
  refine G_callI0 (b := 48) (nx := 49) (nx1 := 49) pX0_init_30 (k_X1_init_48 (fun j => ⟨clr_self, clm_self⟩)) mI_X1_init mli_RX0_17 (by decide) ⟨by decide, by decide, by decide⟩ (by decide) ?_
  rintro _ rf4 mem4 ⟨rfl, mk4⟩ _
  refine G_aast (ci := 1) pX0_init_33 (by decide) shk_44 (Or.inl ⟨rfl, rfl⟩) (vpl (by decide)) (by decide) shk_48 ?_
  rw [show (3 : Int32).toNatClampNeg = 3 by decide]
  refine G_iincW (L' := [some (.ref 43), some (.int (4 : Int32))]) pX0_init_34 rfl ic_1 (by decide) rfl ?_
  refine G_goto pX0_init_37 ?_
  refine G_iload_n (i := 1) pX0_init_15 rfl rfl ?_
  refine G_bipush pX0_init_16 bi_8 ?_
  refine G_icmp_ge pX0_init_18 (fun hc => absurd hc (by decide)) (fun _ => ?_)
  refine G_aload_n (i := 0) pX0_init_21 rfl rfl ?_
  refine G_getR (ci := 0) (j := 0) (N := 4) (r := 44) pX0_init_22 fly_RX0_11 rfl (by decide) shk_43 (by decide) rfl (by rw [upr_ne (by decide), (mk4.1 _ _ (by decide)).1, clr_ne (by decide), upr_ne (by decide), (mk3.1 _ _ (by decide)).1, clr_ne (by decide), upr_ne (by decide), (mk2.1 _ _ (by decide)).1, clr_ne (by decide), upr_ne (by decide), (mk1.1 _ _ (by decide)).1, clr_ne (by decide), upr_self]) ?_
  refine G_iload_n (i := 1) pX0_init_25 rfl rfl ?_
  refine G_new (nx := 49) pX0_init_26 cn_RX0_9 shk_49 ⟨by decide, by decide, by decide⟩ ?_
  refine G_dup pX0_init_29 rfl ?_
  refine G_callI0 (b := 49) (nx := 50) (nx1 := 50) pX0_init_30 (k_X1_init_49 (fun j => ⟨clr_self, clm_self⟩)) mI_X1_init mli_RX0_17 (by decide) ⟨by decide, by decide, by decide⟩ (by decide) ?_
  rintro _ rf5 mem5 ⟨rfl, mk5⟩ _
  refine G_aast (ci := 1) pX0_init_33 (by decide) shk_44 (Or.inl ⟨rfl, rfl⟩) (vpl (by decide)) (by decide) shk_49 ?_
  rw [show (4 : Int32).toNatClampNeg = 4 by decide]
  refine G_iincW (L' := [some (.ref 43), some (.int (5 : Int32))]) pX0_init_34 rfl ic_1 (by decide) rfl ?_
  refine G_goto pX0_init_37 ?_
  refine G_iload_n (i := 1) pX0_init_15 rfl rfl ?_
  refine G_bipush pX0_init_16 bi_8 ?_
  refine G_icmp_ge pX0_init_18 (fun hc => absurd hc (by decide)) (fun _ => ?_)
  refine G_aload_n (i := 0) pX0_init_21 rfl rfl ?_
  refine G_getR (ci := 0) (j := 0) (N := 4) (r := 44) pX0_init_22 fly_RX0_11 rfl (by decide) shk_43 (by decide) rfl (by rw [upr_ne (by decide), (mk5.1 _ _ (by decide)).1, clr_ne (by decide), upr_ne (by decide), (mk4.1 _ _ (by decide)).1, clr_ne (by decide), upr_ne (by decide), (mk3.1 _ _ (by decide)).1, clr_ne (by decide), upr_ne (by decide), (mk2.1 _ _ (by decide)).1, clr_ne (by decide), upr_ne (by decide), (mk1.1 _ _ (by decide)).1, clr_ne (by decide), upr_self]) ?_
  refine G_iload_n (i := 1) pX0_init_25 rfl rfl ?_
  refine G_new (nx := 50) pX0_init_26 cn_RX0_9 shk_50 ⟨by decide, by decide, by decide⟩ ?_
  refine G_dup pX0_init_29 rfl ?_
  refine G_callI0 (b := 50) (nx := 51) (nx1 := 51) pX0_init_30 (k_X1_init_50 (fun j => ⟨clr_self, clm_self⟩)) mI_X1_init mli_RX0_17 (by decide) ⟨by decide, by decide, by decide⟩ (by decide) ?_
  rintro _ rf6 mem6 ⟨rfl, mk6⟩ _
  refine G_aast (ci := 1) pX0_init_33 (by decide) shk_44 (Or.inl ⟨rfl, rfl⟩) (vpl (by decide)) (by decide) shk_50 ?_
  rw [show (5 : Int32).toNatClampNeg = 5 by decide]
  refine G_iincW (L' := [some (.ref 43), some (.int (6 : Int32))]) pX0_init_34 rfl ic_1 (by decide) rfl ?_
  refine G_goto pX0_init_37 ?_
  refine G_iload_n (i := 1) pX0_init_15 rfl rfl ?_
  refine G_bipush pX0_init_16 bi_8 ?_
  refine G_icmp_ge pX0_init_18 (fun hc => absurd hc (by decide)) (fun _ => ?_)
  refine G_aload_n (i := 0) pX0_init_21 rfl rfl ?_
  refine G_getR (ci := 0) (j := 0) (N := 4) (r := 44) pX0_init_22 fly_RX0_11 rfl (by decide) shk_43 (by decide) rfl (by rw [upr_ne (by decide), (mk6.1 _ _ (by decide)).1, clr_ne (by decide), upr_ne (by decide), (mk5.1 _ _ (by decide)).1, clr_ne (by decide), upr_ne (by decide), (mk4.1 _ _ (by decide)).1, clr_ne (by decide), upr_ne (by decide), (mk3.1 _ _ (by decide)).1, clr_ne (by decide), upr_ne (by decide), (mk2.1 _ _ (by decide)).1, clr_ne (by decide), upr_ne (by decide), (mk1.1 _ _ (by decide)).1, clr_ne (by decide), upr_self]) ?_
  refine G_iload_n (i := 1) pX0_init_25 rfl rfl ?_
  refine G_new (nx := 51) pX0_init_26 cn_RX0_9 shk_51 ⟨by decide, by decide, by decide⟩ ?_
  refine G_dup pX0_init_29 rfl ?_
  refine G_callI0 (b := 51) (nx := 52) (nx1 := 52) pX0_init_30 (k_X1_init_51 (fun j => ⟨clr_self, clm_self⟩)) mI_X1_init mli_RX0_17 (by decide) ⟨by decide, by decide, by decide⟩ (by decide) ?_
  rintro _ rf7 mem7 ⟨rfl, mk7⟩ _
  refine G_aast (ci := 1) pX0_init_33 (by decide) shk_44 (Or.inl ⟨rfl, rfl⟩) (vpl (by decide)) (by decide) shk_51 ?_
  rw [show (6 : Int32).toNatClampNeg = 6 by decide]
  refine G_iincW (L' := [some (.ref 43), some (.int (7 : Int32))]) pX0_init_34 rfl ic_1 (by decide) rfl ?_
  refine G_goto pX0_init_37 ?_
  refine G_iload_n (i := 1) pX0_init_15 rfl rfl ?_
  refine G_bipush pX0_init_16 bi_8 ?_
  refine G_icmp_ge pX0_init_18 (fun hc => absurd hc (by decide)) (fun _ => ?_)
  refine G_aload_n (i := 0) pX0_init_21 rfl rfl ?_
  refine G_getR (ci := 0) (j := 0) (N := 4) (r := 44) pX0_init_22 fly_RX0_11 rfl (by decide) shk_43 (by decide) rfl (by rw [upr_ne (by decide), (mk7.1 _ _ (by decide)).1, clr_ne (by decide), upr_ne (by decide), (mk6.1 _ _ (by decide)).1, clr_ne (by decide), upr_ne (by decide), (mk5.1 _ _ (by decide)).1, clr_ne (by decide), upr_ne (by decide), (mk4.1 _ _ (by decide)).1, clr_ne (by decide), upr_ne (by decide), (mk3.1 _ _ (by decide)).1, clr_ne (by decide), upr_ne (by decide), (mk2.1 _ _ (by decide)).1, clr_ne (by decide), upr_ne (by decide), (mk1.1 _ _ (by decide)).1, clr_ne (by decide), upr_self]) ?_
  refine G_iload_n (i := 1) pX0_init_25 rfl rfl ?_
  refine G_new (nx := 52) pX0_init_26 cn_RX0_9 shk_52 ⟨by decide, by decide, by decide⟩ ?_
  refine G_dup pX0_init_29 rfl ?_
  refine G_callI0 (b := 52) (nx := 53) (nx1 := 53) pX0_init_30 (k_X1_init_52 (fun j => ⟨clr_self, clm_self⟩)) mI_X1_init mli_RX0_17 (by decide) ⟨by decide, by decide, by decide⟩ (by decide) ?_
  rintro _ rf8 mem8 ⟨rfl, mk8⟩ _
  refine G_aast (ci := 1) pX0_init_33 (by decide) shk_44 (Or.inl ⟨rfl, rfl⟩) (vpl (by decide)) (by decide) shk_52 ?_
  rw [show (7 : Int32).toNatClampNeg = 7 by decide]
  refine G_iincW (L' := [some (.ref 43), some (.int (8 : Int32))]) pX0_init_34 rfl ic_1 (by decide) rfl ?_
  refine G_goto pX0_init_37 ?_
  refine G_iload_n (i := 1) pX0_init_15 rfl rfl ?_
  refine G_bipush pX0_init_16 bi_8 ?_
  refine G_icmp_ge pX0_init_18 (fun _ => ?_) (fun hc => absurd (by decide) hc)
  refine G_return (len := 1) pX0_init_40 ⟨rfl, ?_⟩ rfl
  refine ⟨fun a j ha => ⟨?_, ?_⟩, fun a j ha hb => ?_⟩
  · rw [upr_ne (by omega), (mk8.1 _ j (by omega)).1, clr_ne (by omega), upr_ne (by omega), (mk7.1 _ j (by omega)).1, clr_ne (by omega), upr_ne (by omega), (mk6.1 _ j (by omega)).1, clr_ne (by omega), upr_ne (by omega), (mk5.1 _ j (by omega)).1, clr_ne (by omega), upr_ne (by omega), (mk4.1 _ j (by omega)).1, clr_ne (by omega), upr_ne (by omega), (mk3.1 _ j (by omega)).1, clr_ne (by omega), upr_ne (by omega), (mk2.1 _ j (by omega)).1, clr_ne (by omega), upr_ne (by omega), (mk1.1 _ j (by omega)).1, clr_ne (by omega), upr_ne (by omega), clr_ne (by omega)]
  · rw [(mk8.1 _ j (by omega)).2, clm_ne (by omega), (mk7.1 _ j (by omega)).2, clm_ne (by omega), (mk6.1 _ j (by omega)).2, clm_ne (by omega), (mk5.1 _ j (by omega)).2, clm_ne (by omega), (mk4.1 _ j (by omega)).2, clm_ne (by omega), (mk3.1 _ j (by omega)).2, clm_ne (by omega), (mk2.1 _ j (by omega)).2, clm_ne (by omega), (mk1.1 _ j (by omega)).2, clm_ne (by omega), clm_ne (by omega)]
  · have hr : (43 ≤ a ∧ a < 44) ∨ (44 ≤ a ∧ a < 45) ∨ (45 ≤ a ∧ a < 46) ∨ (46 ≤ a ∧ a < 47) ∨ (47 ≤ a ∧ a < 48) ∨ (48 ≤ a ∧ a < 49) ∨ (49 ≤ a ∧ a < 50) ∨ (50 ≤ a ∧ a < 51) ∨ (51 ≤ a ∧ a < 52) ∨ (52 ≤ a ∧ a < 53) := by omega
    rcases hr with hr | hr | hr | hr | hr | hr | hr | hr | hr | hr
    · have ea : a = 43 := by omega
      subst ea
      clear hr ha hb
      constructor
      · rcases j with (_ | (_ | (_ | (_ | j)))) <;> (simp only [upr, clr, (mk1.1 _ _ (show 43 < 45 by decide)).1, (mk2.1 _ _ (show 43 < 46 by decide)).1, (mk3.1 _ _ (show 43 < 47 by decide)).1, (mk4.1 _ _ (show 43 < 48 by decide)).1, (mk5.1 _ _ (show 43 < 49 by decide)).1, (mk6.1 _ _ (show 43 < 50 by decide)).1, (mk7.1 _ _ (show 43 < 51 by decide)).1, (mk8.1 _ _ (show 43 < 52 by decide)).1, (hc _).1]; rfl)
      · (simp only [up2, clm, (mk1.1 _ _ (show 43 < 45 by decide)).2, (mk2.1 _ _ (show 43 < 46 by decide)).2, (mk3.1 _ _ (show 43 < 47 by decide)).2, (mk4.1 _ _ (show 43 < 48 by decide)).2, (mk5.1 _ _ (show 43 < 49 by decide)).2, (mk6.1 _ _ (show 43 < 50 by decide)).2, (mk7.1 _ _ (show 43 < 51 by decide)).2, (mk8.1 _ _ (show 43 < 52 by decide)).2, (hc _).2]; rfl)
    · have ea : a = 44 := by omega
      subst ea
      clear hr ha hb
      constructor
      · rcases j with (_ | (_ | (_ | (_ | (_ | (_ | (_ | (_ | j)))))))) <;> (simp only [upr, clr, (mk1.1 _ _ (show 44 < 45 by decide)).1, (mk2.1 _ _ (show 44 < 46 by decide)).1, (mk3.1 _ _ (show 44 < 47 by decide)).1, (mk4.1 _ _ (show 44 < 48 by decide)).1, (mk5.1 _ _ (show 44 < 49 by decide)).1, (mk6.1 _ _ (show 44 < 50 by decide)).1, (mk7.1 _ _ (show 44 < 51 by decide)).1, (mk8.1 _ _ (show 44 < 52 by decide)).1]; rfl)
      · (simp only [up2, clm, (mk1.1 _ _ (show 44 < 45 by decide)).2, (mk2.1 _ _ (show 44 < 46 by decide)).2, (mk3.1 _ _ (show 44 < 47 by decide)).2, (mk4.1 _ _ (show 44 < 48 by decide)).2, (mk5.1 _ _ (show 44 < 49 by decide)).2, (mk6.1 _ _ (show 44 < 50 by decide)).2, (mk7.1 _ _ (show 44 < 51 by decide)).2, (mk8.1 _ _ (show 44 < 52 by decide)).2]; rfl)
    · exact ⟨by rw [upr_ne (by omega), (mk8.1 _ j (by omega)).1, clr_ne (by omega), upr_ne (by omega), (mk7.1 _ j (by omega)).1, clr_ne (by omega), upr_ne (by omega), (mk6.1 _ j (by omega)).1, clr_ne (by omega), upr_ne (by omega), (mk5.1 _ j (by omega)).1, clr_ne (by omega), upr_ne (by omega), (mk4.1 _ j (by omega)).1, clr_ne (by omega), upr_ne (by omega), (mk3.1 _ j (by omega)).1, clr_ne (by omega), upr_ne (by omega), (mk2.1 _ j (by omega)).1, clr_ne (by omega), upr_ne (by omega), (mk1.2 _ j (by omega) (by omega)).1], by rw [(mk8.1 _ j (by omega)).2, clm_ne (by omega), (mk7.1 _ j (by omega)).2, clm_ne (by omega), (mk6.1 _ j (by omega)).2, clm_ne (by omega), (mk5.1 _ j (by omega)).2, clm_ne (by omega), (mk4.1 _ j (by omega)).2, clm_ne (by omega), (mk3.1 _ j (by omega)).2, clm_ne (by omega), (mk2.1 _ j (by omega)).2, clm_ne (by omega), (mk1.2 _ j (by omega) (by omega)).2]⟩
    · exact ⟨by rw [upr_ne (by omega), (mk8.1 _ j (by omega)).1, clr_ne (by omega), upr_ne (by omega), (mk7.1 _ j (by omega)).1, clr_ne (by omega), upr_ne (by omega), (mk6.1 _ j (by omega)).1, clr_ne (by omega), upr_ne (by omega), (mk5.1 _ j (by omega)).1, clr_ne (by omega), upr_ne (by omega), (mk4.1 _ j (by omega)).1, clr_ne (by omega), upr_ne (by omega), (mk3.1 _ j (by omega)).1, clr_ne (by omega), upr_ne (by omega), (mk2.2 _ j (by omega) (by omega)).1], by rw [(mk8.1 _ j (by omega)).2, clm_ne (by omega), (mk7.1 _ j (by omega)).2, clm_ne (by omega), (mk6.1 _ j (by omega)).2, clm_ne (by omega), (mk5.1 _ j (by omega)).2, clm_ne (by omega), (mk4.1 _ j (by omega)).2, clm_ne (by omega), (mk3.1 _ j (by omega)).2, clm_ne (by omega), (mk2.2 _ j (by omega) (by omega)).2]⟩
    · exact ⟨by rw [upr_ne (by omega), (mk8.1 _ j (by omega)).1, clr_ne (by omega), upr_ne (by omega), (mk7.1 _ j (by omega)).1, clr_ne (by omega), upr_ne (by omega), (mk6.1 _ j (by omega)).1, clr_ne (by omega), upr_ne (by omega), (mk5.1 _ j (by omega)).1, clr_ne (by omega), upr_ne (by omega), (mk4.1 _ j (by omega)).1, clr_ne (by omega), upr_ne (by omega), (mk3.2 _ j (by omega) (by omega)).1], by rw [(mk8.1 _ j (by omega)).2, clm_ne (by omega), (mk7.1 _ j (by omega)).2, clm_ne (by omega), (mk6.1 _ j (by omega)).2, clm_ne (by omega), (mk5.1 _ j (by omega)).2, clm_ne (by omega), (mk4.1 _ j (by omega)).2, clm_ne (by omega), (mk3.2 _ j (by omega) (by omega)).2]⟩
    · exact ⟨by rw [upr_ne (by omega), (mk8.1 _ j (by omega)).1, clr_ne (by omega), upr_ne (by omega), (mk7.1 _ j (by omega)).1, clr_ne (by omega), upr_ne (by omega), (mk6.1 _ j (by omega)).1, clr_ne (by omega), upr_ne (by omega), (mk5.1 _ j (by omega)).1, clr_ne (by omega), upr_ne (by omega), (mk4.2 _ j (by omega) (by omega)).1], by rw [(mk8.1 _ j (by omega)).2, clm_ne (by omega), (mk7.1 _ j (by omega)).2, clm_ne (by omega), (mk6.1 _ j (by omega)).2, clm_ne (by omega), (mk5.1 _ j (by omega)).2, clm_ne (by omega), (mk4.2 _ j (by omega) (by omega)).2]⟩
    · exact ⟨by rw [upr_ne (by omega), (mk8.1 _ j (by omega)).1, clr_ne (by omega), upr_ne (by omega), (mk7.1 _ j (by omega)).1, clr_ne (by omega), upr_ne (by omega), (mk6.1 _ j (by omega)).1, clr_ne (by omega), upr_ne (by omega), (mk5.2 _ j (by omega) (by omega)).1], by rw [(mk8.1 _ j (by omega)).2, clm_ne (by omega), (mk7.1 _ j (by omega)).2, clm_ne (by omega), (mk6.1 _ j (by omega)).2, clm_ne (by omega), (mk5.2 _ j (by omega) (by omega)).2]⟩
    · exact ⟨by rw [upr_ne (by omega), (mk8.1 _ j (by omega)).1, clr_ne (by omega), upr_ne (by omega), (mk7.1 _ j (by omega)).1, clr_ne (by omega), upr_ne (by omega), (mk6.2 _ j (by omega) (by omega)).1], by rw [(mk8.1 _ j (by omega)).2, clm_ne (by omega), (mk7.1 _ j (by omega)).2, clm_ne (by omega), (mk6.2 _ j (by omega) (by omega)).2]⟩
    · exact ⟨by rw [upr_ne (by omega), (mk8.1 _ j (by omega)).1, clr_ne (by omega), upr_ne (by omega), (mk7.2 _ j (by omega) (by omega)).1], by rw [(mk8.1 _ j (by omega)).2, clm_ne (by omega), (mk7.2 _ j (by omega) (by omega)).2]⟩
    · exact ⟨by rw [upr_ne (by omega), (mk8.2 _ j (by omega) (by omega)).1], by rw [(mk8.2 _ j (by omega) (by omega)).2]⟩
set_option maxRecDepth 8000 in
set_option maxHeartbeats 4000000 in
theorem k_X1_init_54 {sx : Nat × (Nat → Int32)} {rf : RFt} {mem : MMt} (hc : ∀ j, rf 54 j = none ∧ mem 54 j = 0) : Ct sx yX1_init cX1_init 1 none 1 [.ref 54] 55 55 rf mem (fun v rf' mem' => v = none ∧ Made 54 55 rf mem rf' mem') := by
  refine Ct_of [some (.ref 54)] (by decide +kernel) (by simp [Lof, Value.category]) rfl ?_
  refine G_aload_n (i := 0) pX1_init_0 rfl rfl ?_
  refine G_objInit pX1_init_1 mlo_RX1_3 wobj (by decide) (by decide) ?_
  refine G_return (len := 1) pX1_init_4 ⟨rfl, ?_⟩ rfl
  refine ⟨fun a j ha => ⟨?_, ?_⟩, fun a j ha hb => ?_⟩
  · rfl
  · rfl
  · have hr : (54 ≤ a ∧ a < 55) := by omega
    rcases hr with hr
    · have ea : a = 54 := by omega
      subst ea
      clear hr ha hb
      constructor
      · rcases j with (_ | (_ | (_ | (_ | (_ | j))))) <;> (simp only [upr, clr, (hc _).1]; rfl)
      · (simp only [up2, clm, (hc _).2]; rfl)
set_option maxRecDepth 8000 in
set_option maxHeartbeats 4000000 in
theorem k_X7_init_53 {sx : Nat × (Nat → Int32)} {rf : RFt} {mem : MMt} (hc : ∀ j, rf 53 j = none ∧ mem 53 j = 0) : Ct sx yX7_init cX7_init 2 none 2 [.ref 53, .ref 11] 54 55 rf mem (fun v rf' mem' => v = none ∧ Made 53 55 rf mem rf' mem') := by
  refine Ct_of [some (.ref 53), some (.ref 11)] (by decide +kernel) (by simp [Lof, Value.category]) rfl ?_
  refine G_aload_n (i := 0) pX7_init_0 rfl rfl ?_
  refine G_objInit pX7_init_1 mlo_RX7_3 wobj (by decide) (by decide) ?_
  refine G_aload_n (i := 0) pX7_init_4 rfl rfl ?_
  refine G_new (nx := 54) pX7_init_5 cn_RX7_9 shk_54 ⟨by decide, by decide, by decide⟩ ?_
  refine G_dup pX7_init_8 rfl ?_
  refine G_callI0 (b := 54) (nx := 55) (nx1 := 55) pX7_init_9 (k_X1_init_54 (fun j => ⟨clr_self, clm_self⟩)) mI_X1_init mli_RX7_11 (by decide) ⟨by decide, by decide, by decide⟩ (by decide) ?_
  rintro _ rf1 mem1 ⟨rfl, mk1⟩ _
  refine G_putRF (ci := 7) (j := 0) (N := 2) pX7_init_12 fx_RX7_12 rfl rfl (by decide) shk_53 (by decide) rfl (fun _ => ⟨rfl, rfl⟩) ?_
  refine G_aload_n (i := 0) pX7_init_15 rfl rfl ?_
  refine G_aload_n (i := 1) pX7_init_16 rfl rfl ?_
  refine G_putRF (ci := 7) (j := 1) (N := 2) pX7_init_17 fx_RX7_18 rfl rfl (by decide) shk_53 (by decide) rfl (fun _ => ⟨rfl, rfl⟩) ?_
  refine G_return (len := 1) pX7_init_20 ⟨rfl, ?_⟩ rfl
  refine ⟨fun a j ha => ⟨?_, ?_⟩, fun a j ha hb => ?_⟩
  · rw [upr_ne (by omega), upr_ne (by omega), (mk1.1 _ j (by omega)).1, clr_ne (by omega)]
  · rw [(mk1.1 _ j (by omega)).2, clm_ne (by omega)]
  · have hr : (53 ≤ a ∧ a < 54) ∨ (54 ≤ a ∧ a < 55) := by omega
    rcases hr with hr | hr
    · have ea : a = 53 := by omega
      subst ea
      clear hr ha hb
      constructor
      · rcases j with (_ | (_ | j)) <;> (simp only [upr, clr, (mk1.1 _ _ (show 53 < 54 by decide)).1, (hc _).1]; rfl)
      · (simp only [up2, clm, (mk1.1 _ _ (show 53 < 54 by decide)).2, (hc _).2]; rfl)
    · exact ⟨by rw [upr_ne (by omega), upr_ne (by omega), (mk1.2 _ j (by omega) (by omega)).1], by rw [(mk1.2 _ j (by omega) (by omega)).2]⟩
set_option maxRecDepth 8000 in
set_option maxHeartbeats 4000000 in
theorem k_X4_init_55 {sx : Nat × (Nat → Int32)} {rf : RFt} {mem : MMt} (hc : ∀ j, rf 55 j = none ∧ mem 55 j = 0) : Ct sx yX4_init cX4_init 1 none 1 [.ref 55] 56 58 rf mem (fun v rf' mem' => v = none ∧ Made 55 58 rf mem rf' mem') := by
  refine Ct_of [some (.ref 55)] (by decide +kernel) (by simp [Lof, Value.category]) rfl ?_
  refine G_aload_n (i := 0) pX4_init_0 rfl rfl ?_
  refine G_objInit pX4_init_1 mlo_RX4_3 wobj (by decide) (by decide) ?_
  refine G_aload_n (i := 0) pX4_init_4 rfl rfl ?_
  refine G_bipush pX4_init_5 bi_50 ?_
  refine G_newI (nx := 56) (N := 50) pX4_init_7 wacI shk_56 (by decide) (by decide) (by decide) ⟨by decide, by decide, by decide⟩ ?_
  refine G_putRF (ci := 4) (j := 0) (N := 6) pX4_init_9 fx_RX4_9 rfl rfl (by decide) shk_55 (by decide) rfl (fun _ => ⟨rfl, rfl⟩) ?_
  refine G_aload_n (i := 0) pX4_init_12 rfl rfl ?_
  refine G_iconst pX4_init_13 ic_0 ?_
  refine G_newB (nx := 57) (N := 0) pX4_init_14 wacB shk_57 (by decide) (by decide) (by decide) ⟨by decide, by decide, by decide⟩ ?_
  refine G_putR (ci := 4) (j := 2) (N := 6) pX4_init_16 fx_RX4_15 rfl (by decide) shk_55 (by decide) rfl (fun _ => ⟨rfl, rfl⟩) ?_
  refine G_aload_n (i := 0) pX4_init_19 rfl rfl ?_
  refine G_ldcS2 pX4_init_20 rfl ?_
  refine G_putR (ci := 4) (j := 5) (N := 6) pX4_init_22 fx_RX4_21 rfl (by decide) shk_55 (by decide) rfl (fun _ => ⟨rfl, rfl⟩) ?_
  refine G_return (len := 1) pX4_init_25 ⟨rfl, ?_⟩ rfl
  refine ⟨fun a j ha => ⟨?_, ?_⟩, fun a j ha hb => ?_⟩
  · rw [upr_ne (by omega), upr_ne (by omega), clr_ne (by omega), upr_ne (by omega), clr_ne (by omega)]
  · rw [clm_ne (by omega), clm_ne (by omega)]
  · have hr : (55 ≤ a ∧ a < 56) ∨ (56 ≤ a ∧ a < 57) ∨ (57 ≤ a ∧ a < 58) := by omega
    rcases hr with hr | hr | hr
    · have ea : a = 55 := by omega
      subst ea
      clear hr ha hb
      constructor
      · rcases j with (_ | (_ | (_ | (_ | (_ | (_ | j)))))) <;> (simp only [upr, clr, (hc _).1]; rfl)
      · (simp only [up2, clm, (hc _).2]; rfl)
    · have ea : a = 56 := by omega
      subst ea
      clear hr ha hb
      constructor
      · (simp only [upr, clr]; rfl)
      · (simp only [up2, clm]; rfl)
    · have ea : a = 57 := by omega
      subst ea
      clear hr ha hb
      constructor
      · (simp only [upr, clr]; rfl)
      · (simp only [up2, clm]; rfl)
set_option maxRecDepth 8000 in
set_option maxHeartbeats 4000000 in
theorem k_X3_init_58 {sx : Nat × (Nat → Int32)} {rf : RFt} {mem : MMt} (hc : ∀ j, rf 58 j = none ∧ mem 58 j = 0) : Ct sx yX3_init cX3_init 1 none 1 [.ref 58] 59 64 rf mem (fun v rf' mem' => v = none ∧ Made 58 64 rf mem rf' mem') := by
  refine Ct_of [some (.ref 58)] (by decide +kernel) (by simp [Lof, Value.category]) rfl ?_
  refine G_aload_n (i := 0) pX3_init_0 rfl rfl ?_
  refine G_objInit pX3_init_1 mlo_RX3_3 wobj (by decide) (by decide) ?_
  refine G_aload_n (i := 0) pX3_init_4 rfl rfl ?_
  refine G_bipush pX3_init_5 bi_8 ?_
  refine G_newI (nx := 59) (N := 8) pX3_init_7 wacI shk_59 (by decide) (by decide) (by decide) ⟨by decide, by decide, by decide⟩ ?_
  refine G_putRF (ci := 3) (j := 0) (N := 9) pX3_init_9 fx_RX3_9 rfl rfl (by decide) shk_58 (by decide) rfl (fun _ => ⟨rfl, rfl⟩) ?_
  refine G_aload_n (i := 0) pX3_init_12 rfl rfl ?_
  refine G_bipush pX3_init_13 bi_8 ?_
  refine G_newI (nx := 60) (N := 8) pX3_init_15 wacI shk_60 (by decide) (by decide) (by decide) ⟨by decide, by decide, by decide⟩ ?_
  refine G_putRF (ci := 3) (j := 1) (N := 9) pX3_init_17 fx_RX3_15 rfl rfl (by decide) shk_58 (by decide) rfl (fun _ => ⟨rfl, rfl⟩) ?_
  refine G_aload_n (i := 0) pX3_init_20 rfl rfl ?_
  refine G_bipush pX3_init_21 bi_8 ?_
  refine G_newI (nx := 61) (N := 8) pX3_init_23 wacI shk_61 (by decide) (by decide) (by decide) ⟨by decide, by decide, by decide⟩ ?_
  refine G_putRF (ci := 3) (j := 2) (N := 9) pX3_init_25 fx_RX3_18 rfl rfl (by decide) shk_58 (by decide) rfl (fun _ => ⟨rfl, rfl⟩) ?_
  refine G_aload_n (i := 0) pX3_init_28 rfl rfl ?_
  refine G_bipush pX3_init_29 bi_8 ?_
  refine G_newI (nx := 62) (N := 8) pX3_init_31 wacI shk_62 (by decide) (by decide) (by decide) ⟨by decide, by decide, by decide⟩ ?_
  refine G_putRF (ci := 3) (j := 3) (N := 9) pX3_init_33 fx_RX3_21 rfl rfl (by decide) shk_58 (by decide) rfl (fun _ => ⟨rfl, rfl⟩) ?_
  refine G_aload_n (i := 0) pX3_init_36 rfl rfl ?_
  refine G_bipush pX3_init_37 bi_8 ?_
  refine G_newI (nx := 63) (N := 8) pX3_init_39 wacI shk_63 (by decide) (by decide) (by decide) ⟨by decide, by decide, by decide⟩ ?_
  refine G_putRF (ci := 3) (j := 8) (N := 9) pX3_init_41 fx_RX3_24 rfl rfl (by decide) shk_58 (by decide) rfl (fun _ => ⟨rfl, rfl⟩) ?_
  refine G_return (len := 1) pX3_init_44 ⟨rfl, ?_⟩ rfl
  refine ⟨fun a j ha => ⟨?_, ?_⟩, fun a j ha hb => ?_⟩
  · rw [upr_ne (by omega), clr_ne (by omega), upr_ne (by omega), clr_ne (by omega), upr_ne (by omega), clr_ne (by omega), upr_ne (by omega), clr_ne (by omega), upr_ne (by omega), clr_ne (by omega)]
  · rw [clm_ne (by omega), clm_ne (by omega), clm_ne (by omega), clm_ne (by omega), clm_ne (by omega)]
  · have hr : (58 ≤ a ∧ a < 59) ∨ (59 ≤ a ∧ a < 60) ∨ (60 ≤ a ∧ a < 61) ∨ (61 ≤ a ∧ a < 62) ∨ (62 ≤ a ∧ a < 63) ∨ (63 ≤ a ∧ a < 64) := by omega
    rcases hr with hr | hr | hr | hr | hr | hr
    · have ea : a = 58 := by omega
      subst ea
      clear hr ha hb
      constructor
      · rcases j with (_ | (_ | (_ | (_ | (_ | (_ | (_ | (_ | (_ | j))))))))) <;> (simp only [upr, clr, (hc _).1]; rfl)
      · (simp only [up2, clm, (hc _).2]; rfl)
    · have ea : a = 59 := by omega
      subst ea
      clear hr ha hb
      constructor
      · (simp only [upr, clr]; rfl)
      · (simp only [up2, clm]; rfl)
    · have ea : a = 60 := by omega
      subst ea
      clear hr ha hb
      constructor
      · (simp only [upr, clr]; rfl)
      · (simp only [up2, clm]; rfl)
    · have ea : a = 61 := by omega
      subst ea
      clear hr ha hb
      constructor
      · (simp only [upr, clr]; rfl)
      · (simp only [up2, clm]; rfl)
    · have ea : a = 62 := by omega
      subst ea
      clear hr ha hb
      constructor
      · (simp only [upr, clr]; rfl)
      · (simp only [up2, clm]; rfl)
    · have ea : a = 63 := by omega
      subst ea
      clear hr ha hb
      constructor
      · (simp only [upr, clr]; rfl)
      · (simp only [up2, clm]; rfl)
set_option maxRecDepth 8000 in
set_option maxHeartbeats 4000000 in
theorem k_X8_init_64 {sx : Nat × (Nat → Int32)} {rf : RFt} {mem : MMt} (hc : ∀ j, rf 64 j = none ∧ mem 64 j = 0) : Ct sx yX8_init cX8_init 1 none 1 [.ref 64] 65 66 rf mem (fun v rf' mem' => v = none ∧ Made 64 66 rf mem rf' mem') := by
  refine Ct_of [some (.ref 64)] (by decide +kernel) (by simp [Lof, Value.category]) rfl ?_
  refine G_aload_n (i := 0) pX8_init_0 rfl rfl ?_
  refine G_objInit pX8_init_1 mlo_RX8_3 wobj (by decide) (by decide) ?_
  refine G_aload_n (i := 0) pX8_init_4 rfl rfl ?_
  refine G_bipush pX8_init_5 bi_40 ?_
  refine G_newI (nx := 65) (N := 40) pX8_init_7 wacI shk_65 (by decide) (by decide) (by decide) ⟨by decide, by decide, by decide⟩ ?_
  refine G_putRF (ci := 8) (j := 0) (N := 5) pX8_init_9 fx_RX8_11 rfl rfl (by decide) shk_64 (by decide) rfl (fun _ => ⟨rfl, rfl⟩) ?_
  refine G_return (len := 1) pX8_init_12 ⟨rfl, ?_⟩ rfl
  refine ⟨fun a j ha => ⟨?_, ?_⟩, fun a j ha hb => ?_⟩
  · rw [upr_ne (by omega), clr_ne (by omega)]
  · rw [clm_ne (by omega)]
  · have hr : (64 ≤ a ∧ a < 65) ∨ (65 ≤ a ∧ a < 66) := by omega
    rcases hr with hr | hr
    · have ea : a = 64 := by omega
      subst ea
      clear hr ha hb
      constructor
      · rcases j with (_ | (_ | (_ | (_ | (_ | j))))) <;> (simp only [upr, clr, (hc _).1]; rfl)
      · (simp only [up2, clm, (hc _).2]; rfl)
    · have ea : a = 65 := by omega
      subst ea
      clear hr ha hb
      constructor
      · (simp only [upr, clr]; rfl)
      · (simp only [up2, clm]; rfl)
set_option maxRecDepth 8000 in
set_option maxHeartbeats 4000000 in
theorem k_X6_init_68 {sx : Nat × (Nat → Int32)} {rf : RFt} {mem : MMt} (hc : ∀ j, rf 68 j = none ∧ mem 68 j = 0) : Ct sx yX6_init cX6_init 1 none 1 [.ref 68] 69 70 rf mem (fun v rf' mem' => v = none ∧ Made 68 70 rf mem rf' mem') := by
  refine Ct_of [some (.ref 68)] (by decide +kernel) (by simp [Lof, Value.category]) rfl ?_
  refine G_aload_n (i := 0) pX6_init_0 rfl rfl ?_
  refine G_objInit pX6_init_1 mlo_RX6_3 wobj (by decide) (by decide) ?_
  refine G_aload_n (i := 0) pX6_init_4 rfl rfl ?_
  refine G_bipush pX6_init_5 bi_40 ?_
  refine G_newI (nx := 69) (N := 40) pX6_init_7 wacI shk_69 (by decide) (by decide) (by decide) ⟨by decide, by decide, by decide⟩ ?_
  refine G_putRF (ci := 6) (j := 2) (N := 3) pX6_init_9 fx_RX6_9 rfl rfl (by decide) shk_68 (by decide) rfl (fun _ => ⟨rfl, rfl⟩) ?_
  refine G_return (len := 1) pX6_init_12 ⟨rfl, ?_⟩ rfl
  refine ⟨fun a j ha => ⟨?_, ?_⟩, fun a j ha hb => ?_⟩
  · rw [upr_ne (by omega), clr_ne (by omega)]
  · rw [clm_ne (by omega)]
  · have hr : (68 ≤ a ∧ a < 69) ∨ (69 ≤ a ∧ a < 70) := by omega
    rcases hr with hr | hr
    · have ea : a = 68 := by omega
      subst ea
      clear hr ha hb
      constructor
      · rcases j with (_ | (_ | (_ | j))) <;> (simp only [upr, clr, (hc _).1]; rfl)
      · (simp only [up2, clm, (hc _).2]; rfl)
    · have ea : a = 69 := by omega
      subst ea
      clear hr ha hb
      constructor
      · (simp only [upr, clr]; rfl)
      · (simp only [up2, clm]; rfl)
set_option maxRecDepth 8000 in
set_option maxHeartbeats 4000000 in
theorem k_X6_init_70 {sx : Nat × (Nat → Int32)} {rf : RFt} {mem : MMt} (hc : ∀ j, rf 70 j = none ∧ mem 70 j = 0) : Ct sx yX6_init cX6_init 1 none 1 [.ref 70] 71 72 rf mem (fun v rf' mem' => v = none ∧ Made 70 72 rf mem rf' mem') := by
  refine Ct_of [some (.ref 70)] (by decide +kernel) (by simp [Lof, Value.category]) rfl ?_
  refine G_aload_n (i := 0) pX6_init_0 rfl rfl ?_
  refine G_objInit pX6_init_1 mlo_RX6_3 wobj (by decide) (by decide) ?_
  refine G_aload_n (i := 0) pX6_init_4 rfl rfl ?_
  refine G_bipush pX6_init_5 bi_40 ?_
  refine G_newI (nx := 71) (N := 40) pX6_init_7 wacI shk_71 (by decide) (by decide) (by decide) ⟨by decide, by decide, by decide⟩ ?_
  refine G_putRF (ci := 6) (j := 2) (N := 3) pX6_init_9 fx_RX6_9 rfl rfl (by decide) shk_70 (by decide) rfl (fun _ => ⟨rfl, rfl⟩) ?_
  refine G_return (len := 1) pX6_init_12 ⟨rfl, ?_⟩ rfl
  refine ⟨fun a j ha => ⟨?_, ?_⟩, fun a j ha hb => ?_⟩
  · rw [upr_ne (by omega), clr_ne (by omega)]
  · rw [clm_ne (by omega)]
  · have hr : (70 ≤ a ∧ a < 71) ∨ (71 ≤ a ∧ a < 72) := by omega
    rcases hr with hr | hr
    · have ea : a = 70 := by omega
      subst ea
      clear hr ha hb
      constructor
      · rcases j with (_ | (_ | (_ | j))) <;> (simp only [upr, clr, (hc _).1]; rfl)
      · (simp only [up2, clm, (hc _).2]; rfl)
    · have ea : a = 71 := by omega
      subst ea
      clear hr ha hb
      constructor
      · (simp only [upr, clr]; rfl)
      · (simp only [up2, clm]; rfl)
set_option maxRecDepth 8000 in
set_option maxHeartbeats 4000000 in
theorem k_X6_init_72 {sx : Nat × (Nat → Int32)} {rf : RFt} {mem : MMt} (hc : ∀ j, rf 72 j = none ∧ mem 72 j = 0) : Ct sx yX6_init cX6_init 1 none 1 [.ref 72] 73 74 rf mem (fun v rf' mem' => v = none ∧ Made 72 74 rf mem rf' mem') := by
  refine Ct_of [some (.ref 72)] (by decide +kernel) (by simp [Lof, Value.category]) rfl ?_
  refine G_aload_n (i := 0) pX6_init_0 rfl rfl ?_
  refine G_objInit pX6_init_1 mlo_RX6_3 wobj (by decide) (by decide) ?_
  refine G_aload_n (i := 0) pX6_init_4 rfl rfl ?_
  refine G_bipush pX6_init_5 bi_40 ?_
  refine G_newI (nx := 73) (N := 40) pX6_init_7 wacI shk_73 (by decide) (by decide) (by decide) ⟨by decide, by decide, by decide⟩ ?_
  refine G_putRF (ci := 6) (j := 2) (N := 3) pX6_init_9 fx_RX6_9 rfl rfl (by decide) shk_72 (by decide) rfl (fun _ => ⟨rfl, rfl⟩) ?_
  refine G_return (len := 1) pX6_init_12 ⟨rfl, ?_⟩ rfl
  refine ⟨fun a j ha => ⟨?_, ?_⟩, fun a j ha hb => ?_⟩
  · rw [upr_ne (by omega), clr_ne (by omega)]
  · rw [clm_ne (by omega)]
  · have hr : (72 ≤ a ∧ a < 73) ∨ (73 ≤ a ∧ a < 74) := by omega
    rcases hr with hr | hr
    · have ea : a = 72 := by omega
      subst ea
      clear hr ha hb
      constructor
      · rcases j with (_ | (_ | (_ | j))) <;> (simp only [upr, clr, (hc _).1]; rfl)
      · (simp only [up2, clm, (hc _).2]; rfl)
    · have ea : a = 73 := by omega
      subst ea
      clear hr ha hb
      constructor
      · (simp only [upr, clr]; rfl)
      · (simp only [up2, clm]; rfl)
set_option maxRecDepth 8000 in
set_option maxHeartbeats 4000000 in
theorem k_X6_init_74 {sx : Nat × (Nat → Int32)} {rf : RFt} {mem : MMt} (hc : ∀ j, rf 74 j = none ∧ mem 74 j = 0) : Ct sx yX6_init cX6_init 1 none 1 [.ref 74] 75 76 rf mem (fun v rf' mem' => v = none ∧ Made 74 76 rf mem rf' mem') := by
  refine Ct_of [some (.ref 74)] (by decide +kernel) (by simp [Lof, Value.category]) rfl ?_
  refine G_aload_n (i := 0) pX6_init_0 rfl rfl ?_
  refine G_objInit pX6_init_1 mlo_RX6_3 wobj (by decide) (by decide) ?_
  refine G_aload_n (i := 0) pX6_init_4 rfl rfl ?_
  refine G_bipush pX6_init_5 bi_40 ?_
  refine G_newI (nx := 75) (N := 40) pX6_init_7 wacI shk_75 (by decide) (by decide) (by decide) ⟨by decide, by decide, by decide⟩ ?_
  refine G_putRF (ci := 6) (j := 2) (N := 3) pX6_init_9 fx_RX6_9 rfl rfl (by decide) shk_74 (by decide) rfl (fun _ => ⟨rfl, rfl⟩) ?_
  refine G_return (len := 1) pX6_init_12 ⟨rfl, ?_⟩ rfl
  refine ⟨fun a j ha => ⟨?_, ?_⟩, fun a j ha hb => ?_⟩
  · rw [upr_ne (by omega), clr_ne (by omega)]
  · rw [clm_ne (by omega)]
  · have hr : (74 ≤ a ∧ a < 75) ∨ (75 ≤ a ∧ a < 76) := by omega
    rcases hr with hr | hr
    · have ea : a = 74 := by omega
      subst ea
      clear hr ha hb
      constructor
      · rcases j with (_ | (_ | (_ | j))) <;> (simp only [upr, clr, (hc _).1]; rfl)
      · (simp only [up2, clm, (hc _).2]; rfl)
    · have ea : a = 75 := by omega
      subst ea
      clear hr ha hb
      constructor
      · (simp only [upr, clr]; rfl)
      · (simp only [up2, clm]; rfl)
set_option maxRecDepth 8000 in
set_option maxHeartbeats 4000000 in
theorem k_X9_init_0 {sx : Nat × (Nat → Int32)} {rf : RFt} {mem : MMt} (hc : ∀ j, rf 0 j = none ∧ mem 0 j = 0) : Ct sx yX9_init cX9_init 2 none 4 [.ref 0] 1 76 rf mem (fun v rf' mem' => v = none ∧ Made 0 76 rf mem rf' mem') := by
  refine Ct_of [some (.ref 0), none] (by decide +kernel) (by simp [Lof, Value.category]) rfl ?_
  refine G_aload_n (i := 0) pX9_init_0 rfl rfl ?_
  refine G_objInit pX9_init_1 mlo_RX9_1 wobj (by decide) (by decide) ?_
  refine G_aload_n (i := 0) pX9_init_4 rfl rfl ?_
  refine G_new (nx := 1) pX9_init_5 cn_RX9_7 shk_1 ⟨by decide, by decide, by decide⟩ ?_
  refine G_dup pX9_init_8 rfl ?_
  refine G_callI0 (b := 1) (nx := 2) (nx1 := 11) pX9_init_9 (k_X0_init_1 (fun j => ⟨clr_self, clm_self⟩)) mI_X0_init mli_RX9_9 (by decide) ⟨by decide, by decide, by decide⟩ (by decide) ?_
  rintro _ rf1 mem1 ⟨rfl, mk1⟩ _
  refine G_putRF (ci := 9) (j := 0) (N := 12) pX9_init_12 fx_RX9_10 rfl rfl (by decide) shk_0 (by decide) rfl (fun _ => ⟨rfl, rfl⟩) ?_
  refine G_aload_n (i := 0) pX9_init_15 rfl rfl ?_
  refine G_new (nx := 11) pX9_init_16 cn_RX9_16 shk_11 ⟨by decide, by decide, by decide⟩ ?_
  refine G_dup pX9_init_19 rfl ?_
  refine G_callI0 (b := 11) (nx := 12) (nx1 := 22) pX9_init_20 (k_X5_init_11 (fun j => ⟨clr_self, clm_self⟩)) mI_X5_init mli_RX9_18 (by decide) ⟨by decide, by decide, by decide⟩ (by decide) ?_
  rintro _ rf2 mem2 ⟨rfl, mk2⟩ _
  refine G_putRF (ci := 9) (j := 1) (N := 12) pX9_init_23 fx_RX9_19 rfl rfl (by decide) shk_0 (by decide) rfl (fun _ => ⟨rfl, rfl⟩) ?_
  refine G_aload_n (i := 0) pX9_init_26 rfl rfl ?_
  refine G_new (nx := 22) pX9_init_27 cn_RX9_7 shk_22 ⟨by decide, by decide, by decide⟩ ?_
  refine G_dup pX9_init_30 rfl ?_
  refine G_callI0 (b := 22) (nx := 23) (nx1 := 32) pX9_init_31 (k_X0_init_22 (fun j => ⟨clr_self, clm_self⟩)) mI_X0_init mli_RX9_9 (by decide) ⟨by decide, by decide, by decide⟩ (by decide) ?_
  rintro _ rf3 mem3 ⟨rfl, mk3⟩ _
  refine G_putRF (ci := 9) (j := 2) (N := 12) pX9_init_34 fx_RX9_23 rfl rfl (by decide) shk_0 (by decide) rfl (fun _ => ⟨rfl, rfl⟩) ?_
  refine G_aload_n (i := 0) pX9_init_37 rfl rfl ?_
  refine G_new (nx := 32) pX9_init_38 cn_RX9_16 shk_32 ⟨by decide, by decide, by decide⟩ ?_
  refine G_dup pX9_init_41 rfl ?_
  refine G_callI0 (b := 32) (nx := 33) (nx1 := 43) pX9_init_42 (k_X5_init_32 (fun j => ⟨clr_self, clm_self⟩)) mI_X5_init mli_RX9_18 (by decide) ⟨by decide, by decide, by decide⟩ (by decide) ?_
  rintro _ rf4 mem4 ⟨rfl, mk4⟩ _
  refine G_putRF (ci := 9) (j := 3) (N := 12) pX9_init_45 fx_RX9_26 rfl rfl (by decide) shk_0 (by decide) rfl (fun _ => ⟨rfl, rfl⟩) ?_
  refine G_aload_n (i := 0) pX9_init_48 rfl rfl ?_
  refine G_new (nx := 43) pX9_init_49 cn_RX9_7 shk_43 ⟨by decide, by decide, by decide⟩ ?_
  refine G_dup pX9_init_52 rfl ?_
  refine G_callI0 (b := 43) (nx := 44) (nx1 := 53) pX9_init_53 (k_X0_init_43 (fun j => ⟨clr_self, clm_self⟩)) mI_X0_init mli_RX9_9 (by decide) ⟨by decide, by decide, by decide⟩ (by decide) ?_
  rintro _ rf5 mem5 ⟨rfl, mk5⟩ _
  refine G_putRF (ci := 9) (j := 4) (N := 12) pX9_init_56 fx_RX9_29 rfl rfl (by decide) shk_0 (by decide) rfl (fun _ => ⟨rfl, rfl⟩) ?_
  refine G_aload_n (i := 0) pX9_init_59 rfl rfl ?_
  refine G_new (nx := 53) pX9_init_60 cn_RX9_32 shk_53 ⟨by decide, by decide, by decide⟩ ?_
  refine G_dup pX9_init_63 rfl ?_
  refine G_aload_n (i := 0) pX9_init_64 rfl rfl ?_
  refine G_getR (ci := 9) (j := 1) (N := 12) (r := 11) pX9_init_65 fly_RX9_19 rfl (by decide) shk_0 (by decide) rfl (by rw [clr_ne (by decide), upr_nj (by decide), (mk5.1 _ _ (by decide)).1, clr_ne (by decide), upr_nj (by decide), (mk4.1 _ _ (by decide)).1, clr_ne (by decide), upr_nj (by decide), (mk3.1 _ _ (by decide)).1, clr_ne (by decide), upr_self]) ?_
  refine G_callI1 (b := 53) (nx := 54) (nx1 := 55) pX9_init_68 (k_X7_init_53 (fun j => ⟨clr_self, clm_self⟩)) mI_X7_init mli_RX9_34 (by decide) ⟨by decide, by decide, by decide⟩ (by decide) ?_
  rintro _ rf6 mem6 ⟨rfl, mk6⟩ _
  refine G_putRF (ci := 9) (j := 5) (N := 12) pX9_init_71 fx_RX9_37 rfl rfl (by decide) shk_0 (by decide) rfl (fun _ => ⟨rfl, rfl⟩) ?_
  refine G_aload_n (i := 0) pX9_init_74 rfl rfl ?_
  refine G_new (nx := 55) pX9_init_75 cn_RX9_41 shk_55 ⟨by decide, by decide, by decide⟩ ?_
  refine G_dup pX9_init_78 rfl ?_
  refine G_callI0 (b := 55) (nx := 56) (nx1 := 58) pX9_init_79 (k_X4_init_55 (fun j => ⟨clr_self, clm_self⟩)) mI_X4_init mli_RX9_43 (by decide) ⟨by decide, by decide, by decide⟩ (by decide) ?_
  rintro _ rf7 mem7 ⟨rfl, mk7⟩ _
  refine G_putRF (ci := 9) (j := 6) (N := 12) pX9_init_82 fx_RX9_44 rfl rfl (by decide) shk_0 (by decide) rfl (fun _ => ⟨rfl, rfl⟩) ?_
  refine G_aload_n (i := 0) pX9_init_85 rfl rfl ?_
  refine G_new (nx := 58) pX9_init_86 cn_RX9_48 shk_58 ⟨by decide, by decide, by decide⟩ ?_
  refine G_dup pX9_init_89 rfl ?_
  refine G_callI0 (b := 58) (nx := 59) (nx1 := 64) pX9_init_90 (k_X3_init_58 (fun j => ⟨clr_self, clm_self⟩)) mI_X3_init mli_RX9_50 (by decide) ⟨by decide, by decide, by decide⟩ (by decide) ?_
  rintro _ rf8 mem8 ⟨rfl, mk8⟩ _
  refine G_putRF (ci := 9) (j := 7) (N := 12) pX9_init_93 fx_RX9_51 rfl rfl (by decide) shk_0 (by decide) rfl (fun _ => ⟨rfl, rfl⟩) ?_
  refine G_aload_n (i := 0) pX9_init_96 rfl rfl ?_
  refine G_new (nx := 64) pX9_init_97 cn_RX9_55 shk_64 ⟨by decide, by decide, by decide⟩ ?_
  refine G_dup pX9_init_100 rfl ?_
  refine G_callI0 (b := 64) (nx := 65) (nx1 := 66) pX9_init_101 (k_X8_init_64 (fun j => ⟨clr_self, clm_self⟩)) mI_X8_init mli_RX9_57 (by decide) ⟨by decide, by decide, by decide⟩ (by decide) ?_
  rintro _ rf9 mem9 ⟨rfl, mk9⟩ _
  refine G_putRF (ci := 9) (j := 8) (N := 12) pX9_init_104 fx_RX9_58 rfl rfl (by decide) shk_0 (by decide) rfl (fun _ => ⟨rfl, rfl⟩) ?_
  refine G_aload_n (i := 0) pX9_init_107 rfl rfl ?_
  refine G_iconst pX9_init_108 ic_4 ?_
  refine G_anew (nx := 66) (N := 4) (kd := 3) pX9_init_109 wcl2_RX9_62 (Or.inr ⟨rfl, rfl⟩) shk_66 (by decide) (by decide) (by decide) ⟨by decide, by decide, by decide⟩ ?_
  refine G_putRF (ci := 9) (j := 9) (N := 12) pX9_init_112 fx_RX9_64 rfl rfl (by decide) shk_0 (by decide) rfl (fun _ => ⟨rfl, rfl⟩) ?_
  refine G_aload_n (i := 0) pX9_init_115 rfl rfl ?_
  refine G_bipush pX9_init_116 bi_6 ?_
  refine G_newI (nx := 67) (N := 6) pX9_init_118 wacI shk_67 (by decide) (by decide) (by decide) ⟨by decide, by decide, by decide⟩ ?_
  refine G_putRF (ci := 9) (j := 10) (N := 12) pX9_init_120 fx_RX9_68 rfl rfl (by decide) shk_0 (by decide) rfl (fun _ => ⟨rfl, rfl⟩) ?_
  refine G_iconst pX9_init_123 ic_0 ?_
  refine G_istore_n (i := 1) (L' := [some (.ref 0), some (.int (0 : Int32))]) pX9_init_124 rfl rfl ?_
  refine G_iload_n (i := 1) pX9_init_125 rfl rfl ?_
  refine G_iconst pX9_init_126 ic_4 ?_
  refine G_icmp_ge pX9_init_127 (fun hc => absurd hc (by decide)) (fun _ => ?_)
  refine G_aload_n (i := 0) pX9_init_130 rfl rfl ?_
  refine G_getR (ci := 9) (j := 9) (N := 12) (r := 66) pX9_init_131 fly_RX9_64 rfl (by decide) shk_0 (by decide) rfl (by rw [upr_nj (by decide), clr_ne (by decide), upr_self]) ?_
  refine G_iload_n (i := 1) pX9_init_134 rfl rfl ?_
  refine G_new (nx := 68) pX9_init_135 cn_RX9_62 shk_68 ⟨by decide, by decide, by decide⟩ ?_
  refine G_dup pX9_init_138 rfl ?_
  refine G_callI0 (b := 68) (nx := 69) (nx1 := 70) pX9_init_139 (k_X6_init_68 (fun j => ⟨clr_self, clm_self⟩)) mI_X6_init mli_RX9_72 (by decide) ⟨by decide, by decide, by decide⟩ (by decide) ?_
  rintro _ rf10 mem10 ⟨rfl, mk10⟩ _
  refine G_aast (ci := 6) pX9_init_142 (by decide) shk_66 (Or.inr ⟨rfl, rfl⟩) (vpl (by decide)) (by decide) shk_68 ?_
  rw [show (0 : Int32).toNatClampNeg = 0 by decide]
  refine G_iincW (L' := [some (.ref 0), some (.int (1 : Int32))]) pX9_init_143 rfl ic_1 (by decide) rfl ?_
  refine G_goto pX9_init_146 ?_
  refine G_iload_n (i := 1) pX9_init_125 rfl rfl ?_
  refine G_iconst pX9_init_126 ic_4 ?_
  refine G_icmp_ge pX9_init_127 (fun hc => absurd hc (by decide)) (fun _ => ?_)
  refine G_aload_n (i := 0) pX9_init_130 rfl rfl ?_
  refine G_getR (ci := 9) (j := 9) (N := 12) (r := 66) pX9_init_131 fly_RX9_64 rfl (by decide) shk_0 (by decide) rfl (by rw [upr_ne (by decide), (mk10.1 _ _ (by decide)).1, clr_ne (by decide), upr_nj (by decide), clr_ne (by decide), upr_self]) ?_
  refine G_iload_n (i := 1) pX9_init_134 rfl rfl ?_
  refine G_new (nx := 70) pX9_init_135 cn_RX9_62 shk_70 ⟨by decide, by decide, by decide⟩ ?_
  refine G_dup pX9_init_138 rfl ?_
  refine G_callI0 (b := 70) (nx := 71) (nx1 := 72) pX9_init_139 (k_X6_init_70 (fun j => ⟨clr_self, clm_self⟩)) mI_X6_init mli_RX9_72 (by decide) ⟨by decide, by decide, by decide⟩ (by decide) ?_
  rintro _ rf11 mem11 ⟨rfl, mk11⟩ _
  refine G_aast (ci := 6) pX9_init_142 (by decide) shk_66 (Or.inr ⟨rfl, rfl⟩) (vpl (by decide)) (by decide) shk_70 ?_
  rw [show (1 : Int32).toNatClampNeg = 1 by decide]
  refine G_iincW (L' := [some (.ref 0), some (.int (2 : Int32))]) pX9_init_143 rfl ic_1 (by decide) rfl ?_
  refine G_goto pX9_init_146 ?_
  refine G_iload_n (i := 1) pX9_init_125 rfl rfl ?_
  refine G_iconst pX9_init_126 ic_4 ?_
  refine G_icmp_ge pX9_init_127 (fun hc => absurd hc (by decide)) (fun _ => ?_)
  refine G_aload_n (i := 0) pX9_init_130 rfl rfl ?_
  refine G_getR (ci := 9) (j := 9) (N := 12) (r := 66) pX9_init_131 fly_RX9_64 rfl (by decide) shk_0 (by decide) rfl (by rw [upr_ne (by decide), (mk11.1 _ _ (by decide)).1, clr_ne (by decide), upr_ne (by decide), (mk10.1 _ _ (by decide)).1, clr_ne (by decide), upr_nj (by decide), clr_ne (by decide), upr_self]) ?_
  refine G_iload_n (i := 1) pX9_init_134 rfl rfl ?_
  refine G_new (nx := 72) pX9_init_135 cn_RX9_62 shk_72 ⟨by decide, by decide, by decide⟩ ?_
  refine G_dup pX9_init_138 rfl ?_
  refine G_callI0 (b := 72) (nx := 73) (nx1 := 74) pX9_init_139 (k_X6_init_72 (fun j => ⟨clr_self, clm_self⟩)) mI_X6_init mli_RX9_72 (by decide) ⟨by decide, by decide, by decide⟩ (by decide) ?_
  rintro _ rf12 mem12 ⟨rfl, mk12⟩ _
  refine G_aast (ci := 6) pX9_init_142 (by decide) shk_66 (Or.inr ⟨rfl, rfl⟩) (vpl (by decide)) (by decide) shk_72 ?_
  rw [show (2 : Int32).toNatClampNeg = 2 by decide]
  refine G_iincW (L' := [some (.ref 0), some (.int (3 : Int32))]) pX9_init_143 rfl ic_1 (by decide) rfl ?_
  refine G_goto pX9_init_146 ?_
  refine G_iload_n (i := 1) pX9_init_125 rfl rfl ?_
  refine G_iconst pX9_init_126 ic_4 ?_
  refine G_icmp_ge pX9_init_127 (fun hc => absurd hc (by decide)) (fun _ => ?_)
  refine G_aload_n (i := 0) pX9_init_130 rfl rfl ?_
  refine G_getR (ci := 9) (j := 9) (N := 12) (r := 66) pX9_init_131 fly_RX9_64 rfl (by decide) shk_0 (by decide) rfl (by rw [upr_ne (by decide), (mk12.1 _ _ (by decide)).1, clr_ne (by decide), upr_ne (by decide), (mk11.1 _ _ (by decide)).1, clr_ne (by decide), upr_ne (by decide), (mk10.1 _ _ (by decide)).1, clr_ne (by decide), upr_nj (by decide), clr_ne (by decide), upr_self]) ?_
  refine G_iload_n (i := 1) pX9_init_134 rfl rfl ?_
  refine G_new (nx := 74) pX9_init_135 cn_RX9_62 shk_74 ⟨by decide, by decide, by decide⟩ ?_
  refine G_dup pX9_init_138 rfl ?_
  refine G_callI0 (b := 74) (nx := 75) (nx1 := 76) pX9_init_139 (k_X6_init_74 (fun j => ⟨clr_self, clm_self⟩)) mI_X6_init mli_RX9_72 (by decide) ⟨by decide, by decide, by decide⟩ (by decide) ?_
  rintro _ rf13 mem13 ⟨rfl, mk13⟩ _
  refine G_aast (ci := 6) pX9_init_142 (by decide) shk_66 (Or.inr ⟨rfl, rfl⟩) (vpl (by decide)) (by decide) shk_74 ?_
  rw [show (3 : Int32).toNatClampNeg = 3 by decide]
  refine G_iincW (L' := [some (.ref 0), some (.int (4 : Int32))]) pX9_init_143 rfl ic_1 (by decide) rfl ?_
  refine G_goto pX9_init_146 ?_
  refine G_iload_n (i := 1) pX9_init_125 rfl rfl ?_
  refine G_iconst pX9_init_126 ic_4 ?_
  refine G_icmp_ge pX9_init_127 (fun _ => ?_) (fun hc => absurd (by decide) hc)
  refine G_return (len := 1) pX9_init_149 ⟨rfl, ?_⟩ rfl
  refine ⟨fun a j ha => ⟨?_, ?_⟩, fun a j ha hb => ?_⟩
  · rw [upr_ne (by omega), (mk13.1 _ j (by omega)).1, clr_ne (by omega), upr_ne (by omega), (mk12.1 _ j (by omega)).1, clr_ne (by omega), upr_ne (by omega), (mk11.1 _ j (by omega)).1, clr_ne (by omega), upr_ne (by omega), (mk10.1 _ j (by omega)).1, clr_ne (by omega), upr_ne (by omega), clr_ne (by omega), upr_ne (by omega), clr_ne (by omega), upr_ne (by omega), (mk9.1 _ j (by omega)).1, clr_ne (by omega), upr_ne (by omega), (mk8.1 _ j (by omega)).1, clr_ne (by omega), upr_ne (by omega), (mk7.1 _ j (by omega)).1, clr_ne (by omega), upr_ne (by omega), (mk6.1 _ j (by omega)).1, clr_ne (by omega), upr_ne (by omega), (mk5.1 _ j (by omega)).1, clr_ne (by omega), upr_ne (by omega), (mk4.1 _ j (by omega)).1, clr_ne (by omega), upr_ne (by omega), (mk3.1 _ j (by omega)).1, clr_ne (by omega), upr_ne (by omega), (mk2.1 _ j (by omega)).1, clr_ne (by omega), upr_ne (by omega), (mk1.1 _ j (by omega)).1, clr_ne (by omega)]
  · rw [(mk13.1 _ j (by omega)).2, clm_ne (by omega), (mk12.1 _ j (by omega)).2, clm_ne (by omega), (mk11.1 _ j (by omega)).2, clm_ne (by omega), (mk10.1 _ j (by omega)).2, clm_ne (by omega), clm_ne (by omega), clm_ne (by omega), (mk9.1 _ j (by omega)).2, clm_ne (by omega), (mk8.1 _ j (by omega)).2, clm_ne (by omega), (mk7.1 _ j (by omega)).2, clm_ne (by omega), (mk6.1 _ j (by omega)).2, clm_ne (by omega), (mk5.1 _ j (by omega)).2, clm_ne (by omega), (mk4.1 _ j (by omega)).2, clm_ne (by omega), (mk3.1 _ j (by omega)).2, clm_ne (by omega), (mk2.1 _ j (by omega)).2, clm_ne (by omega), (mk1.1 _ j (by omega)).2, clm_ne (by omega)]
  · have hr : (0 ≤ a ∧ a < 1) ∨ (1 ≤ a ∧ a < 11) ∨ (11 ≤ a ∧ a < 22) ∨ (22 ≤ a ∧ a < 32) ∨ (32 ≤ a ∧ a < 43) ∨ (43 ≤ a ∧ a < 53) ∨ (53 ≤ a ∧ a < 55) ∨ (55 ≤ a ∧ a < 58) ∨ (58 ≤ a ∧ a < 64) ∨ (64 ≤ a ∧ a < 66) ∨ (66 ≤ a ∧ a < 67) ∨ (67 ≤ a ∧ a < 68) ∨ (68 ≤ a ∧ a < 70) ∨ (70 ≤ a ∧ a < 72) ∨ (72 ≤ a ∧ a < 74) ∨ (74 ≤ a ∧ a < 76) := by omega
    rcases hr with hr | hr | hr | hr | hr | hr | hr | hr | hr | hr | hr | hr | hr | hr | hr | hr
    · have ea : a = 0 := by omega
      subst ea
      clear hr ha hb
      constructor
      · rcases j with (_ | (_ | (_ | (_ | (_ | (_ | (_ | (_ | (_ | (_ | (_ | (_ | j)))))))))))) <;> (simp only [upr, clr, (mk1.1 _ _ (show 0 < 1 by decide)).1, (mk2.1 _ _ (show 0 < 11 by decide)).1, (mk3.1 _ _ (show 0 < 22 by decide)).1, (mk4.1 _ _ (show 0 < 32 by decide)).1, (mk5.1 _ _ (show 0 < 43 by decide)).1, (mk6.1 _ _ (show 0 < 53 by decide)).1, (mk7.1 _ _ (show 0 < 55 by decide)).1, (mk8.1 _ _ (show 0 < 58 by decide)).1, (mk9.1 _ _ (show 0 < 64 by decide)).1, (mk10.1 _ _ (show 0 < 68 by decide)).1, (mk11.1 _ _ (show 0 < 70 by decide)).1, (mk12.1 _ _ (show 0 < 72 by decide)).1, (mk13.1 _ _ (show 0 < 74 by decide)).1, (hc _).1]; rfl)
      · (simp only [up2, clm, (mk1.1 _ _ (show 0 < 1 by decide)).2, (mk2.1 _ _ (show 0 < 11 by decide)).2, (mk3.1 _ _ (show 0 < 22 by decide)).2, (mk4.1 _ _ (show 0 < 32 by decide)).2, (mk5.1 _ _ (show 0 < 43 by decide)).2, (mk6.1 _ _ (show 0 < 53 by decide)).2, (mk7.1 _ _ (show 0 < 55 by decide)).2, (mk8.1 _ _ (show 0 < 58 by decide)).2, (mk9.1 _ _ (show 0 < 64 by decide)).2, (mk10.1 _ _ (show 0 < 68 by decide)).2, (mk11.1 _ _ (show 0 < 70 by decide)).2, (mk12.1 _ _ (show 0 < 72 by decide)).2, (mk13.1 _ _ (show 0 < 74 by decide)).2, (hc _).2]; rfl)
    · exact ⟨by rw [upr_ne (by omega), (mk13.1 _ j (by omega)).1, clr_ne (by omega), upr_ne (by omega), (mk12.1 _ j (by omega)).1, clr_ne (by omega), upr_ne (by omega), (mk11.1 _ j (by omega)).1, clr_ne (by omega), upr_ne (by omega), (mk10.1 _ j (by omega)).1, clr_ne (by omega), upr_ne (by omega), clr_ne (by omega), upr_ne (by omega), clr_ne (by omega), upr_ne (by omega), (mk9.1 _ j (by omega)).1, clr_ne (by omega), upr_ne (by omega), (mk8.1 _ j (by omega)).1, clr_ne (by omega), upr_ne (by omega), (mk7.1 _ j (by omega)).1, clr_ne (by omega), upr_ne (by omega), (mk6.1 _ j (by omega)).1, clr_ne (by omega), upr_ne (by omega), (mk5.1 _ j (by omega)).1, clr_ne (by omega), upr_ne (by omega), (mk4.1 _ j (by omega)).1, clr_ne (by omega), upr_ne (by omega), (mk3.1 _ j (by omega)).1, clr_ne (by omega), upr_ne (by omega), (mk2.1 _ j (by omega)).1, clr_ne (by omega), upr_ne (by omega), (mk1.2 _ j (by omega) (by omega)).1], by rw [(mk13.1 _ j (by omega)).2, clm_ne (by omega), (mk12.1 _ j (by omega)).2, clm_ne (by omega), (mk11.1 _ j (by omega)).2, clm_ne (by omega), (mk10.1 _ j (by omega)).2, clm_ne (by omega), clm_ne (by omega), clm_ne (by omega), (mk9.1 _ j (by omega)).2, clm_ne (by omega), (mk8.1 _ j (by omega)).2, clm_ne (by omega), (mk7.1 _ j (by omega)).2, clm_ne (by omega), (mk6.1 _ j (by omega)).2, clm_ne (by omega), (mk5.1 _ j (by omega)).2, clm_ne (by omega), (mk4.1 _ j (by omega)).2, clm_ne (by omega), (mk3.1 _ j (by omega)).2, clm_ne (by omega), (mk2.1 _ j (by omega)).2, clm_ne (by omega), (mk1.2 _ j (by omega) (by omega)).2]⟩
    · exact ⟨by rw [upr_ne (by omega), (mk13.1 _ j (by omega)).1, clr_ne (by omega), upr_ne (by omega), (mk12.1 _ j (by omega)).1, clr_ne (by omega), upr_ne (by omega), (mk11.1 _ j (by omega)).1, clr_ne (by omega), upr_ne (by omega), (mk10.1 _ j (by omega)).1, clr_ne (by omega), upr_ne (by omega), clr_ne (by omega), upr_ne (by omega), clr_ne (by omega), upr_ne (by omega), (mk9.1 _ j (by omega)).1, clr_ne (by omega), upr_ne (by omega), (mk8.1 _ j (by omega)).1, clr_ne (by omega), upr_ne (by omega), (mk7.1 _ j (by omega)).1, clr_ne (by omega), upr_ne (by omega), (mk6.1 _ j (by omega)).1, clr_ne (by omega), upr_ne (by omega), (mk5.1 _ j (by omega)).1, clr_ne (by omega), upr_ne (by omega), (mk4.1 _ j (by omega)).1, clr_ne (by omega), upr_ne (by omega), (mk3.1 _ j (by omega)).1, clr_ne (by omega), upr_ne (by omega), (mk2.2 _ j (by omega) (by omega)).1], by rw [(mk13.1 _ j (by omega)).2, clm_ne (by omega), (mk12.1 _ j (by omega)).2, clm_ne (by omega), (mk11.1 _ j (by omega)).2, clm_ne (by omega), (mk10.1 _ j (by omega)).2, clm_ne (by omega), clm_ne (by omega), clm_ne (by omega), (mk9.1 _ j (by omega)).2, clm_ne (by omega), (mk8.1 _ j (by omega)).2, clm_ne (by omega), (mk7.1 _ j (by omega)).2, clm_ne (by omega), (mk6.1 _ j (by omega)).2, clm_ne (by omega), (mk5.1 _ j (by omega)).2, clm_ne (by omega), (mk4.1 _ j (by omega)).2, clm_ne (by omega), (mk3.1 _ j (by omega)).2, clm_ne (by omega), (mk2.2 _ j (by omega) (by omega)).2]⟩
    · exact ⟨by rw [upr_ne (by omega), (mk13.1 _ j (by omega)).1, clr_ne (by omega), upr_ne (by omega), (mk12.1 _ j (by omega)).1, clr_ne (by omega), upr_ne (by omega), (mk11.1 _ j (by omega)).1, clr_ne (by omega), upr_ne (by omega), (mk10.1 _ j (by omega)).1, clr_ne (by omega), upr_ne (by omega), clr_ne (by omega), upr_ne (by omega), clr_ne (by omega), upr_ne (by omega), (mk9.1 _ j (by omega)).1, clr_ne (by omega), upr_ne (by omega), (mk8.1 _ j (by omega)).1, clr_ne (by omega), upr_ne (by omega), (mk7.1 _ j (by omega)).1, clr_ne (by omega), upr_ne (by omega), (mk6.1 _ j (by omega)).1, clr_ne (by omega), upr_ne (by omega), (mk5.1 _ j (by omega)).1, clr_ne (by omega), upr_ne (by omega), (mk4.1 _ j (by omega)).1, clr_ne (by omega), upr_ne (by omega), (mk3.2 _ j (by omega) (by omega)).1], by rw [(mk13.1 _ j (by omega)).2, clm_ne (by omega), (mk12.1 _ j (by omega)).2, clm_ne (by omega), (mk11.1 _ j (by omega)).2, clm_ne (by omega), (mk10.1 _ j (by omega)).2, clm_ne (by omega), clm_ne (by omega), clm_ne (by omega), (mk9.1 _ j (by omega)).2, clm_ne (by omega), (mk8.1 _ j (by omega)).2, clm_ne (by omega), (mk7.1 _ j (by omega)).2, clm_ne (by omega), (mk6.1 _ j (by omega)).2, clm_ne (by omega), (mk5.1 _ j (by omega)).2, clm_ne (by omega), (mk4.1 _ j (by omega)).2, clm_ne (by omega), (mk3.2 _ j (by omega) (by omega)).2]⟩
    · exact ⟨by rw [upr_ne (by omega), (mk13.1 _ j (by omega)).1, clr_ne (by omega), upr_ne (by omega), (mk12.1 _ j (by omega)).1, clr_ne (by omega), upr_ne (by omega), (mk11.1 _ j (by omega)).1, clr_ne (by omega), upr_ne (by omega), (mk10.1 _ j (by omega)).1, clr_ne (by omega), upr_ne (by omega), clr_ne (by omega), upr_ne (by omega), clr_ne (by omega), upr_ne (by omega), (mk9.1 _ j (by omega)).1, clr_ne (by omega), upr_ne (by omega), (mk8.1 _ j (by omega)).1, clr_ne (by omega), upr_ne (by omega), (mk7.1 _ j (by omega)).1, clr_ne (by omega), upr_ne (by omega), (mk6.1 _ j (by omega)).1, clr_ne (by omega), upr_ne (by omega), (mk5.1 _ j (by omega)).1, clr_ne (by omega), upr_ne (by omega), (mk4.2 _ j (by omega) (by omega)).1], by rw [(mk13.1 _ j (by omega)).2, clm_ne (by omega), (mk12.1 _ j (by omega)).2, clm_ne (by omega), (mk11.1 _ j (by omega)).2, clm_ne (by omega), (mk10.1 _ j (by omega)).2, clm_ne (by omega), clm_ne (by omega), clm_ne (by omega), (mk9.1 _ j (by omega)).2, clm_ne (by omega), (mk8.1 _ j (by omega)).2, clm_ne (by omega), (mk7.1 _ j (by omega)).2, clm_ne (by omega), (mk6.1 _ j (by omega)).2, clm_ne (by omega), (mk5.1 _ j (by omega)).2, clm_ne (by omega), (mk4.2 _ j (by omega) (by omega)).2]⟩
    · exact ⟨by rw [upr_ne (by omega), (mk13.1 _ j (by omega)).1, clr_ne (by omega), upr_ne (by omega), (mk12.1 _ j (by omega)).1, clr_ne (by omega), upr_ne (by omega), (mk11.1 _ j (by omega)).1, clr_ne (by omega), upr_ne (by omega), (mk10.1 _ j (by omega)).1, clr_ne (by omega), upr_ne (by omega), clr_ne (by omega), upr_ne (by omega), clr_ne (by omega), upr_ne (by omega), (mk9.1 _ j (by omega)).1, clr_ne (by omega), upr_ne (by omega), (mk8.1 _ j (by omega)).1, clr_ne (by omega), upr_ne (by omega), (mk7.1 _ j (by omega)).1, clr_ne (by omega), upr_ne (by omega), (mk6.1 _ j (by omega)).1, clr_ne (by omega), upr_ne (by omega), (mk5.2 _ j (by omega) (by omega)).1], by rw [(mk13.1 _ j (by omega)).2, clm_ne (by omega), (mk12.1 _ j (by omega)).2, clm_ne (by omega), (mk11.1 _ j (by omega)).2, clm_ne (by omega), (mk10.1 _ j (by omega)).2, clm_ne (by omega), clm_ne (by omega), clm_ne (by omega), (mk9.1 _ j (by omega)).2, clm_ne (by omega), (mk8.1 _ j (by omega)).2, clm_ne (by omega), (mk7.1 _ j (by omega)).2, clm_ne (by omega), (mk6.1 _ j (by omega)).2, clm_ne (by omega), (mk5.2 _ j (by omega) (by omega)).2]⟩
    · exact ⟨by rw [upr_ne (by omega), (mk13.1 _ j (by omega)).1, clr_ne (by omega), upr_ne (by omega), (mk12.1 _ j (by omega)).1, clr_ne (by omega), upr_ne (by omega), (mk11.1 _ j (by omega)).1, clr_ne (by omega), upr_ne (by omega), (mk10.1 _ j (by omega)).1, clr_ne (by omega), upr_ne (by omega), clr_ne (by omega), upr_ne (by omega), clr_ne (by omega), upr_ne (by omega), (mk9.1 _ j (by omega)).1, clr_ne (by omega), upr_ne (by omega), (mk8.1 _ j (by omega)).1, clr_ne (by omega), upr_ne (by omega), (mk7.1 _ j (by omega)).1, clr_ne (by omega), upr_ne (by omega), (mk6.2 _ j (by omega) (by omega)).1], by rw [(mk13.1 _ j (by omega)).2, clm_ne (by omega), (mk12.1 _ j (by omega)).2, clm_ne (by omega), (mk11.1 _ j (by omega)).2, clm_ne (by omega), (mk10.1 _ j (by omega)).2, clm_ne (by omega), clm_ne (by omega), clm_ne (by omega), (mk9.1 _ j (by omega)).2, clm_ne (by omega), (mk8.1 _ j (by omega)).2, clm_ne (by omega), (mk7.1 _ j (by omega)).2, clm_ne (by omega), (mk6.2 _ j (by omega) (by omega)).2]⟩
    · exact ⟨by rw [upr_ne (by omega), (mk13.1 _ j (by omega)).1, clr_ne (by omega), upr_ne (by omega), (mk12.1 _ j (by omega)).1, clr_ne (by omega), upr_ne (by omega), (mk11.1 _ j (by omega)).1, clr_ne (by omega), upr_ne (by omega), (mk10.1 _ j (by omega)).1, clr_ne (by omega), upr_ne (by omega), clr_ne (by omega), upr_ne (by omega), clr_ne (by omega), upr_ne (by omega), (mk9.1 _ j (by omega)).1, clr_ne (by omega), upr_ne (by omega), (mk8.1 _ j (by omega)).1, clr_ne (by omega), upr_ne (by omega), (mk7.2 _ j (by omega) (by omega)).1], by rw [(mk13.1 _ j (by omega)).2, clm_ne (by omega), (mk12.1 _ j (by omega)).2, clm_ne (by omega), (mk11.1 _ j (by omega)).2, clm_ne (by omega), (mk10.1 _ j (by omega)).2, clm_ne (by omega), clm_ne (by omega), clm_ne (by omega), (mk9.1 _ j (by omega)).2, clm_ne (by omega), (mk8.1 _ j (by omega)).2, clm_ne (by omega), (mk7.2 _ j (by omega) (by omega)).2]⟩
    · exact ⟨by rw [upr_ne (by omega), (mk13.1 _ j (by omega)).1, clr_ne (by omega), upr_ne (by omega), (mk12.1 _ j (by omega)).1, clr_ne (by omega), upr_ne (by omega), (mk11.1 _ j (by omega)).1, clr_ne (by omega), upr_ne (by omega), (mk10.1 _ j (by omega)).1, clr_ne (by omega), upr_ne (by omega), clr_ne (by omega), upr_ne (by omega), clr_ne (by omega), upr_ne (by omega), (mk9.1 _ j (by omega)).1, clr_ne (by omega), upr_ne (by omega), (mk8.2 _ j (by omega) (by omega)).1], by rw [(mk13.1 _ j (by omega)).2, clm_ne (by omega), (mk12.1 _ j (by omega)).2, clm_ne (by omega), (mk11.1 _ j (by omega)).2, clm_ne (by omega), (mk10.1 _ j (by omega)).2, clm_ne (by omega), clm_ne (by omega), clm_ne (by omega), (mk9.1 _ j (by omega)).2, clm_ne (by omega), (mk8.2 _ j (by omega) (by omega)).2]⟩
    · exact ⟨by rw [upr_ne (by omega), (mk13.1 _ j (by omega)).1, clr_ne (by omega), upr_ne (by omega), (mk12.1 _ j (by omega)).1, clr_ne (by omega), upr_ne (by omega), (mk11.1 _ j (by omega)).1, clr_ne (by omega), upr_ne (by omega), (mk10.1 _ j (by omega)).1, clr_ne (by omega), upr_ne (by omega), clr_ne (by omega), upr_ne (by omega), clr_ne (by omega), upr_ne (by omega), (mk9.2 _ j (by omega) (by omega)).1], by rw [(mk13.1 _ j (by omega)).2, clm_ne (by omega), (mk12.1 _ j (by omega)).2, clm_ne (by omega), (mk11.1 _ j (by omega)).2, clm_ne (by omega), (mk10.1 _ j (by omega)).2, clm_ne (by omega), clm_ne (by omega), clm_ne (by omega), (mk9.2 _ j (by omega) (by omega)).2]⟩
    · have ea : a = 66 := by omega
      subst ea
      clear hr ha hb
      constructor
      · rcases j with (_ | (_ | (_ | (_ | j)))) <;> (simp only [upr, clr, (mk10.1 _ _ (show 66 < 68 by decide)).1, (mk11.1 _ _ (show 66 < 70 by decide)).1, (mk12.1 _ _ (show 66 < 72 by decide)).1, (mk13.1 _ _ (show 66 < 74 by decide)).1]; rfl)
      · (simp only [up2, clm, (mk10.1 _ _ (show 66 < 68 by decide)).2, (mk11.1 _ _ (show 66 < 70 by decide)).2, (mk12.1 _ _ (show 66 < 72 by decide)).2, (mk13.1 _ _ (show 66 < 74 by decide)).2]; rfl)
    · have ea : a = 67 := by omega
      subst ea
      clear hr ha hb
      constructor
      · (simp only [upr, clr, (mk10.1 _ _ (show 67 < 68 by decide)).1, (mk11.1 _ _ (show 67 < 70 by decide)).1, (mk12.1 _ _ (show 67 < 72 by decide)).1, (mk13.1 _ _ (show 67 < 74 by decide)).1]; rfl)
      · (simp only [up2, clm, (mk10.1 _ _ (show 67 < 68 by decide)).2, (mk11.1 _ _ (show 67 < 70 by decide)).2, (mk12.1 _ _ (show 67 < 72 by decide)).2, (mk13.1 _ _ (show 67 < 74 by decide)).2]; rfl)
    · exact ⟨by rw [upr_ne (by omega), (mk13.1 _ j (by omega)).1, clr_ne (by omega), upr_ne (by omega), (mk12.1 _ j (by omega)).1, clr_ne (by omega), upr_ne (by omega), (mk11.1 _ j (by omega)).1, clr_ne (by omega), upr_ne (by omega), (mk10.2 _ j (by omega) (by omega)).1], by rw [(mk13.1 _ j (by omega)).2, clm_ne (by omega), (mk12.1 _ j (by omega)).2, clm_ne (by omega), (mk11.1 _ j (by omega)).2, clm_ne (by omega), (mk10.2 _ j (by omega) (by omega)).2]⟩
    · exact ⟨by rw [upr_ne (by omega), (mk13.1 _ j (by omega)).1, clr_ne (by omega), upr_ne (by omega), (mk12.1 _ j (by omega)).1, clr_ne (by omega), upr_ne (by omega), (mk11.2 _ j (by omega) (by omega)).1], by rw [(mk13.1 _ j (by omega)).2, clm_ne (by omega), (mk12.1 _ j (by omega)).2, clm_ne (by omega), (mk11.2 _ j (by omega) (by omega)).2]⟩
    · exact ⟨by rw [upr_ne (by omega), (mk13.1 _ j (by omega)).1, clr_ne (by omega), upr_ne (by omega), (mk12.2 _ j (by omega) (by omega)).1], by rw [(mk13.1 _ j (by omega)).2, clm_ne (by omega), (mk12.2 _ j (by omega) (by omega)).2]⟩
    · exact ⟨by rw [upr_ne (by omega), (mk13.2 _ j (by omega) (by omega)).1], by rw [(mk13.2 _ j (by omega) (by omega)).2]⟩
set_option maxRecDepth 8000 in
set_option maxHeartbeats 4000000 in
theorem k_X10_init_76 {sx : Nat × (Nat → Int32)} {rf : RFt} {mem : MMt} (hc : ∀ j, rf 76 j = none ∧ mem 76 j = 0) : Ct sx yX10_init cX10_init 1 none 1 [.ref 76] 77 91 rf mem (fun v rf' mem' => v = none ∧ Made 76 91 rf mem rf' mem') := by
  refine Ct_of [some (.ref 76)] (by decide +kernel) (by simp [Lof, Value.category]) rfl ?_
  refine G_aload_n (i := 0) pX10_init_0 rfl rfl ?_
  refine G_objInit pX10_init_1 mlo_RX10_1 wobj (by decide) (by decide) ?_
  refine G_aload_n (i := 0) pX10_init_4 rfl rfl ?_
  refine G_sipush pX10_init_5 si_322 ?_
  refine G_newI (nx := 77) (N := 322) pX10_init_8 wacI shk_77 (by decide) (by decide) (by decide) ⟨by decide, by decide, by decide⟩ ?_
  refine G_putRF (ci := 10) (j := 0) (N := 29) pX10_init_10 fx_RX10_9 rfl rfl (by decide) shk_76 (by decide) rfl (fun _ => ⟨rfl, rfl⟩) ?_
  refine G_aload_n (i := 0) pX10_init_13 rfl rfl ?_
  refine G_sipush pX10_init_14 si_322 ?_
  refine G_newI (nx := 78) (N := 322) pX10_init_17 wacI shk_78 (by decide) (by decide) (by decide) ⟨by decide, by decide, by decide⟩ ?_
  refine G_putRF (ci := 10) (j := 1) (N := 29) pX10_init_19 fx_RX10_13 rfl rfl (by decide) shk_76 (by decide) rfl (fun _ => ⟨rfl, rfl⟩) ?_
  refine G_aload_n (i := 0) pX10_init_22 rfl rfl ?_
  refine G_bipush pX10_init_23 bi_6 ?_
  refine G_newI (nx := 79) (N := 6) pX10_init_25 wacI shk_79 (by decide) (by decide) (by decide) ⟨by decide, by decide, by decide⟩ ?_
  refine G_putRF (ci := 10) (j := 4) (N := 29) pX10_init_27 fx_RX10_16 rfl rfl (by decide) shk_76 (by decide) rfl (fun _ => ⟨rfl, rfl⟩) ?_
  refine G_aload_n (i := 0) pX10_init_30 rfl rfl ?_
  refine G_bipush pX10_init_31 bi_100 ?_
  refine G_newI (nx := 80) (N := 100) pX10_init_33 wacI shk_80 (by decide) (by decide) (by decide) ⟨by decide, by decide, by decide⟩ ?_
  refine G_putRF (ci := 10) (j := 9) (N := 29) pX10_init_35 fx_RX10_19 rfl rfl (by decide) shk_76 (by decide) rfl (fun _ => ⟨rfl, rfl⟩) ?_
  refine G_aload_n (i := 0) pX10_init_38 rfl rfl ?_
  refine G_bipush pX10_init_39 bi_50 ?_
  refine G_newI (nx := 81) (N := 50) pX10_init_41 wacI shk_81 (by decide) (by decide) (by decide) ⟨by decide, by decide, by decide⟩ ?_
  refine G_putRF (ci := 10) (j := 10) (N := 29) pX10_init_43 fx_RX10_22 rfl rfl (by decide) shk_76 (by decide) rfl (fun _ => ⟨rfl, rfl⟩) ?_
  refine G_aload_n (i := 0) pX10_init_46 rfl rfl ?_
  refine G_iconst pX10_init_47 ic_3 ?_
  refine G_newI (nx := 82) (N := 3) pX10_init_48 wacI shk_82 (by decide) (by decide) (by decide) ⟨by decide, by decide, by decide⟩ ?_
  refine G_putRF (ci := 10) (j := 11) (N := 29) pX10_init_50 fx_RX10_25 rfl rfl (by decide) shk_76 (by decide) rfl (fun _ => ⟨rfl, rfl⟩) ?_
  refine G_aload_n (i := 0) pX10_init_53 rfl rfl ?_
  refine G_bipush pX10_init_54 bi_42 ?_
  refine G_newI (nx := 83) (N := 42) pX10_init_56 wacI shk_83 (by decide) (by decide) (by decide) ⟨by decide, by decide, by decide⟩ ?_
  refine G_putRF (ci := 10) (j := 14) (N := 29) pX10_init_58 fx_RX10_28 rfl rfl (by decide) shk_76 (by decide) rfl (fun _ => ⟨rfl, rfl⟩) ?_
  refine G_aload_n (i := 0) pX10_init_61 rfl rfl ?_
  refine G_bipush pX10_init_62 bi_8 ?_
  refine G_newI (nx := 84) (N := 8) pX10_init_64 wacI shk_84 (by decide) (by decide) (by decide) ⟨by decide, by decide, by decide⟩ ?_
  refine G_putRF (ci := 10) (j := 16) (N := 29) pX10_init_66 fx_RX10_31 rfl rfl (by decide) shk_76 (by decide) rfl (fun _ => ⟨rfl, rfl⟩) ?_
  refine G_aload_n (i := 0) pX10_init_69 rfl rfl ?_
  refine G_bipush pX10_init_70 bi_8 ?_
  refine G_newI (nx := 85) (N := 8) pX10_init_72 wacI shk_85 (by decide) (by decide) (by decide) ⟨by decide, by decide, by decide⟩ ?_
  refine G_putRF (ci := 10) (j := 17) (N := 29) pX10_init_74 fx_RX10_34 rfl rfl (by decide) shk_76 (by decide) rfl (fun _ => ⟨rfl, rfl⟩) ?_
  refine G_aload_n (i := 0) pX10_init_77 rfl rfl ?_
  refine G_iconst pX10_init_78 ic_4 ?_
  refine G_newI (nx := 86) (N := 4) pX10_init_79 wacI shk_86 (by decide) (by decide) (by decide) ⟨by decide, by decide, by decide⟩ ?_
  refine G_putRF (ci := 10) (j := 20) (N := 29) pX10_init_81 fx_RX10_37 rfl rfl (by decide) shk_76 (by decide) rfl (fun _ => ⟨rfl, rfl⟩) ?_
  refine G_aload_n (i := 0) pX10_init_84 rfl rfl ?_
  refine G_iconst pX10_init_85 ic_4 ?_
  refine G_newI (nx := 87) (N := 4) pX10_init_86 wacI shk_87 (by decide) (by decide) (by decide) ⟨by decide, by decide, by decide⟩ ?_
  refine G_putRF (ci := 10) (j := 21) (N := 29) pX10_init_88 fx_RX10_40 rfl rfl (by decide) shk_76 (by decide) rfl (fun _ => ⟨rfl, rfl⟩) ?_
  refine G_aload_n (i := 0) pX10_init_91 rfl rfl ?_
  refine G_sipush pX10_init_92 si_160 ?_
  refine G_newI (nx := 88) (N := 160) pX10_init_95 wacI shk_88 (by decide) (by decide) (by decide) ⟨by decide, by decide, by decide⟩ ?_
  refine G_putRF (ci := 10) (j := 22) (N := 29) pX10_init_97 fx_RX10_43 rfl rfl (by decide) shk_76 (by decide) rfl (fun _ => ⟨rfl, rfl⟩) ?_
  refine G_aload_n (i := 0) pX10_init_100 rfl rfl ?_
  refine G_bipush pX10_init_101 bi_40 ?_
  refine G_newI (nx := 89) (N := 40) pX10_init_103 wacI shk_89 (by decide) (by decide) (by decide) ⟨by decide, by decide, by decide⟩ ?_
  refine G_putRF (ci := 10) (j := 23) (N := 29) pX10_init_105 fx_RX10_46 rfl rfl (by decide) shk_76 (by decide) rfl (fun _ => ⟨rfl, rfl⟩) ?_
  refine G_aload_n (i := 0) pX10_init_108 rfl rfl ?_
  refine G_bipush pX10_init_109 bi_40 ?_
  refine G_newI (nx := 90) (N := 40) pX10_init_111 wacI shk_90 (by decide) (by decide) (by decide) ⟨by decide, by decide, by decide⟩ ?_
  refine G_putRF (ci := 10) (j := 28) (N := 29) pX10_init_113 fx_RX10_49 rfl rfl (by decide) shk_76 (by decide) rfl (fun _ => ⟨rfl, rfl⟩) ?_
  refine G_aload_n (i := 0) pX10_init_116 rfl rfl ?_
  refine G_getR (ci := 10) (j := 0) (N := 29) (r := 77) pX10_init_117 fly_RX10_9 rfl (by decide) shk_76 (by decide) rfl (by rw [upr_nj (by decide), clr_ne (by decide), upr_nj (by decide), clr_ne (by decide), upr_nj (by decide), clr_ne (by decide), upr_nj (by decide), clr_ne (by decide), upr_nj (by decide), clr_ne (by decide), upr_nj (by decide), clr_ne (by decide), upr_nj (by decide), clr_ne (by decide), upr_nj (by decide), clr_ne (by decide), upr_nj (by decide), clr_ne (by decide), upr_nj (by decide), clr_ne (by decide), upr_nj (by decide), clr_ne (by decide), upr_nj (by decide), clr_ne (by decide), upr_nj (by decide), clr_ne (by decide), upr_self]) ?_
  refine G_iconst pX10_init_120 ic_2 ?_
  refine G_bipush pX10_init_121 bi_12 ?_
  refine G_iastL (j := 2) pX10_init_123 (by decide) shk_77 (vpl (by decide)) (by decide) rfl ?_
  refine G_aload_n (i := 0) pX10_init_124 rfl rfl ?_
  refine G_getR (ci := 10) (j := 0) (N := 29) (r := 77) pX10_init_125 fly_RX10_9 rfl (by decide) shk_76 (by decide) rfl (by rw [upr_nj (by decide), clr_ne (by decide), upr_nj (by decide), clr_ne (by decide), upr_nj (by decide), clr_ne (by decide), upr_nj (by decide), clr_ne (by decide), upr_nj (by decide), clr_ne (by decide), upr_nj (by decide), clr_ne (by decide), upr_nj (by decide), clr_ne (by decide), upr_nj (by decide), clr_ne (by decide), upr_nj (by decide), clr_ne (by decide), upr_nj (by decide), clr_ne (by decide), upr_nj (by decide), clr_ne (by decide), upr_nj (by decide), clr_ne (by decide), upr_nj (by decide), clr_ne (by decide), upr_self]) ?_
  refine G_iconst pX10_init_128 ic_3 ?_
  refine G_iconst pX10_init_129 ic_1 ?_
  refine G_iastL (j := 3) pX10_init_130 (by decide) shk_77 (vpl (by decide)) (by decide) rfl ?_
  refine G_aload_n (i := 0) pX10_init_131 rfl rfl ?_
  refine G_getR (ci := 10) (j := 0) (N := 29) (r := 77) pX10_init_132 fly_RX10_9 rfl (by decide) shk_76 (by decide) rfl (by rw [upr_nj (by decide), clr_ne (by decide), upr_nj (by decide), clr_ne (by decide), upr_nj (by decide), clr_ne (by decide), upr_nj (by decide), clr_ne (by decide), upr_nj (by decide), clr_ne (by decide), upr_nj (by decide), clr_ne (by decide), upr_nj (by decide), clr_ne (by decide), upr_nj (by decide), clr_ne (by decide), upr_nj (by decide), clr_ne (by decide), upr_nj (by decide), clr_ne (by decide), upr_nj (by decide), clr_ne (by decide), upr_nj (by decide), clr_ne (by decide), upr_nj (by decide), clr_ne (by decide), upr_self]) ?_
  refine G_iconst pX10_init_135 ic_4 ?_
  refine G_iconst pX10_init_136 ic_m1 ?_
  refine G_iastL (j := 4) pX10_init_137 (by decide) shk_77 (vpl (by decide)) (by decide) rfl ?_
  refine G_aload_n (i := 0) pX10_init_138 rfl rfl ?_
  refine G_getR (ci := 10) (j := 0) (N := 29) (r := 77) pX10_init_139 fly_RX10_9 rfl (by decide) shk_76 (by decide) rfl (by rw [upr_nj (by decide), clr_ne (by decide), upr_nj (by decide), clr_ne (by decide), upr_nj (by decide), clr_ne (by decide), upr_nj (by decide), clr_ne (by decide), upr_nj (by decide), clr_ne (by decide), upr_nj (by decide), clr_ne (by decide), upr_nj (by decide), clr_ne (by decide), upr_nj (by decide), clr_ne (by decide), upr_nj (by decide), clr_ne (by decide), upr_nj (by decide), clr_ne (by decide), upr_nj (by decide), clr_ne (by decide), upr_nj (by decide), clr_ne (by decide), upr_nj (by decide), clr_ne (by decide), upr_self]) ?_
  refine G_iconst pX10_init_142 ic_5 ?_
  refine G_iconst pX10_init_143 ic_1 ?_
  refine G_iastL (j := 5) pX10_init_144 (by decide) shk_77 (vpl (by decide)) (by decide) rfl ?_
  refine G_aload_n (i := 0) pX10_init_145 rfl rfl ?_
  refine G_getR (ci := 10) (j := 0) (N := 29) (r := 77) pX10_init_146 fly_RX10_9 rfl (by decide) shk_76 (by decide) rfl (by rw [upr_nj (by decide), clr_ne (by decide), upr_nj (by decide), clr_ne (by decide), upr_nj (by decide), clr_ne (by decide), upr_nj (by decide), clr_ne (by decide), upr_nj (by decide), clr_ne (by decide), upr_nj (by decide), clr_ne (by decide), upr_nj (by decide), clr_ne (by decide), upr_nj (by decide), clr_ne (by decide), upr_nj (by decide), clr_ne (by decide), upr_nj (by decide), clr_ne (by decide), upr_nj (by decide), clr_ne (by decide), upr_nj (by decide), clr_ne (by decide), upr_nj (by decide), clr_ne (by decide), upr_self]) ?_
  refine G_bipush pX10_init_149 bi_120 ?_
  refine G_iconst pX10_init_151 ic_m1 ?_
  refine G_iastL (j := 120) pX10_init_152 (by decide) shk_77 (vpl (by decide)) (by decide) rfl ?_
  refine G_aload_n (i := 0) pX10_init_153 rfl rfl ?_
  refine G_getR (ci := 10) (j := 0) (N := 29) (r := 77) pX10_init_154 fly_RX10_9 rfl (by decide) shk_76 (by decide) rfl (by rw [upr_nj (by decide), clr_ne (by decide), upr_nj (by decide), clr_ne (by decide), upr_nj (by decide), clr_ne (by decide), upr_nj (by decide), clr_ne (by decide), upr_nj (by decide), clr_ne (by decide), upr_nj (by decide), clr_ne (by decide), upr_nj (by decide), clr_ne (by decide), upr_nj (by decide), clr_ne (by decide), upr_nj (by decide), clr_ne (by decide), upr_nj (by decide), clr_ne (by decide), upr_nj (by decide), clr_ne (by decide), upr_nj (by decide), clr_ne (by decide), upr_nj (by decide), clr_ne (by decide), upr_self]) ?_
  refine G_sipush pX10_init_157 si_221 ?_
  refine G_iconst pX10_init_160 ic_m1 ?_
  refine G_iastL (j := 221) pX10_init_161 (by decide) shk_77 (vpl (by decide)) (by decide) rfl ?_
  refine G_return (len := 1) pX10_init_162 ⟨rfl, ?_⟩ rfl
  refine ⟨fun a j ha => ⟨?_, ?_⟩, fun a j ha hb => ?_⟩
  · rw [upr_ne (by omega), clr_ne (by omega), upr_ne (by omega), clr_ne (by omega), upr_ne (by omega), clr_ne (by omega), upr_ne (by omega), clr_ne (by omega), upr_ne (by omega), clr_ne (by omega), upr_ne (by omega), clr_ne (by omega), upr_ne (by omega), clr_ne (by omega), upr_ne (by omega), clr_ne (by omega), upr_ne (by omega), clr_ne (by omega), upr_ne (by omega), clr_ne (by omega), upr_ne (by omega), clr_ne (by omega), upr_ne (by omega), clr_ne (by omega), upr_ne (by omega), clr_ne (by omega), upr_ne (by omega), clr_ne (by omega)]
  · rw [up2_ne (by omega), up2_ne (by omega), up2_ne (by omega), up2_ne (by omega), up2_ne (by omega), up2_ne (by omega), clm_ne (by omega), clm_ne (by omega), clm_ne (by omega), clm_ne (by omega), clm_ne (by omega), clm_ne (by omega), clm_ne (by omega), clm_ne (by omega), clm_ne (by omega), clm_ne (by omega), clm_ne (by omega), clm_ne (by omega), clm_ne (by omega), clm_ne (by omega)]
  · have hr : (76 ≤ a ∧ a < 77) ∨ (77 ≤ a ∧ a < 78) ∨ (78 ≤ a ∧ a < 79) ∨ (79 ≤ a ∧ a < 80) ∨ (80 ≤ a ∧ a < 81) ∨ (81 ≤ a ∧ a < 82) ∨ (82 ≤ a ∧ a < 83) ∨ (83 ≤ a ∧ a < 84) ∨ (84 ≤ a ∧ a < 85) ∨ (85 ≤ a ∧ a < 86) ∨ (86 ≤ a ∧ a < 87) ∨ (87 ≤ a ∧ a < 88) ∨ (88 ≤ a ∧ a < 89) ∨ (89 ≤ a ∧ a < 90) ∨ (90 ≤ a ∧ a < 91) := by omega
    rcases hr with hr | hr | hr | hr | hr | hr | hr | hr | hr | hr | hr | hr | hr | hr | hr
    · have ea : a = 76 := by omega
      subst ea
      clear hr ha hb
      constructor
      · rcases j with (_ | (_ | (_ | (_ | (_ | (_ | (_ | (_ | (_ | (_ | (_ | (_ | (_ | (_ | (_ | (_ | (_ | (_ | (_ | (_ | (_ | (_ | (_ | (_ | (_ | (_ | (_ | (_ | (_ | j))))))))))))))))))))))))))))) <;> (simp only [upr, clr, (hc _).1]; rfl)
      · (simp only [up2, clm, (hc _).2]; rfl)
    · have ea : a = 77 := by omega
      subst ea
      clear hr ha hb
      constructor
      · (simp only [upr, clr]; rfl)
      · rcases j with (_ | (_ | (_ | (_ | (_ | (_ | (_ | (_ | (_ | (_ | (_ | (_ | (_ | (_ | (_ | (_ | (_ | (_ | (_ | (_ | (_ | (_ | (_ | (_ | (_ | (_ | (_ | (_ | (_ | (_ | (_ | (_ | (_ | (_ | (_ | (_ | (_ | (_ | (_ | (_ | (_ | (_ | (_ | (_ | (_ | (_ | (_ | (_ | (_ | (_ | (_ | (_ | (_ | (_ | (_ | (_ | (_ | (_ | (_ | (_ | (_ | (_ | (_ | (_ | (_ | (_ | (_ | (_ | (_ | (_ | (_ | (_ | (_ | (_ | (_ | (_ | (_ | (_ | (_ | (_ | (_ | (_ | (_ | (_ | (_ | (_ | (_ | (_ | (_ | (_ | (_ | (_ | (_ | (_ | (_ | (_ | (_ | (_ | (_ | (_ | (_ | (_ | (_ | (_ | (_ | (_ | (_ | (_ | (_ | (_ | (_ | (_ | (_ | (_ | (_ | (_ | (_ | (_ | (_ | (_ | (_ | (_ | (_ | (_ | (_ | (_ | (_ | (_ | (_ | (_ | (_ | (_ | (_ | (_ | (_ | (_ | (_ | (_ | (_ | (_ | (_ | (_ | (_ | (_ | (_ | (_ | (_ | (_ | (_ | (_ | (_ | (_ | (_ | (_ | (_ | (_ | (_ | (_ | (_ | (_ | (_ | (_ | (_ | (_ | (_ | (_ | (_ | (_ | (_ | (_ | (_ | (_ | (_ | (_ | (_ | (_ | (_ | (_ | (_ | (_ | (_ | (_ | (_ | (_ | (_ | (_ | (_ | (_ | (_ | (_ | (_ | (_ | (_ | (_ | (_ | (_ | (_ | (_ | (_ | (_ | (_ | (_ | (_ | (_ | (_ | (_ | (_ | (_ | (_ | (_ | (_ | (_ | (_ | (_ | (_ | (_ | (_ | (_ | (_ | (_ | (_ | (_ | j)))))))))))))))))))))))))))))))))))))))))))))))))))))))))))))))))))))))))))))))))))))))))))))))))))))))))))))))))))))))))))))))))))))))))))))))))))))))))))))))))))))))))))))))))))))))))))))))))))))))))))))))))))))))))))))) <;> (simp only [up2, clm]; rfl)
    · have ea : a = 78 := by omega
      subst ea
      clear hr ha hb
      constructor
      · (simp only [upr, clr]; rfl)
      · (simp only [up2, clm]; rfl)
    · have ea : a = 79 := by omega
      subst ea
      clear hr ha hb
      constructor
      · (simp only [upr, clr]; rfl)
      · (simp only [up2, clm]; rfl)
    · have ea : a = 80 := by omega
      subst ea
      clear hr ha hb
      constructor
      · (simp only [upr, clr]; rfl)
      · (simp only [up2, clm]; rfl)
    · have ea : a = 81 := by omega
      subst ea
      clear hr ha hb
      constructor
      · (simp only [upr, clr]; rfl)
      · (simp only [up2, clm]; rfl)
    · have ea : a = 82 := by omega
      subst ea
      clear hr ha hb
      constructor
      · (simp only [upr, clr]; rfl)
      · (simp only [up2, clm]; rfl)
    · have ea : a = 83 := by omega
      subst ea
      clear hr ha hb
      constructor
      · (simp only [upr, clr]; rfl)
      · (simp only [up2, clm]; rfl)
    · have ea : a = 84 := by omega
      subst ea
      clear hr ha hb
      constructor
      · (simp only [upr, clr]; rfl)
      · (simp only [up2, clm]; rfl)
    · have ea : a = 85 := by omega
      subst ea
      clear hr ha hb
      constructor
      · (simp only [upr, clr]; rfl)
      · (simp only [up2, clm]; rfl)
    · have ea : a = 86 := by omega
      subst ea
      clear hr ha hb
      constructor
      · (simp only [upr, clr]; rfl)
      · (simp only [up2, clm]; rfl)
    · have ea : a = 87 := by omega
      subst ea
      clear hr ha hb
      constructor
      · (simp only [upr, clr]; rfl)
      · (simp only [up2, clm]; rfl)
    · have ea : a = 88 := by omega
      subst ea
      clear hr ha hb
      constructor
      · (simp only [upr, clr]; rfl)
      · (simp only [up2, clm]; rfl)
    · have ea : a = 89 := by omega
      subst ea
      clear hr ha hb
      constructor
      · (simp only [upr, clr]; rfl)
      · (simp only [up2, clm]; rfl)
    · have ea : a = 90 := by omega
      subst ea
      clear hr ha hb
      constructor
      · (simp only [upr, clr]; rfl)
      · (simp only [up2, clm]; rfl)
