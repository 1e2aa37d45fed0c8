def M0l : List (List Int32) := [[], [], [], [], [], [], [], [], [], [], [], [12, 0, 1], [1, (-1)], [], [], [], [], [], [1], [], [], List.replicate 410 100, [], [], [], [], [], [], [], [], [], [], [12, 0, 1], [1, (-1)], [], [], [], [], [], [1], [], [], List.replicate 410 100, [], [], [], [], [], [], [], [], [], [], [], [], [], [], [], [], [], [], [], [], [], [], [], [], [], [], [], [], [], [], [], [], [], [], [0, 0, 12, 1, (-1), 1, 0, 0, 0, 0, 0, 0, 0, 0, 0, 0, 0, 0, 0, 0, 0, 0, 0, 0, 0, 0, 0, 0, 0, 0, 0, 0, 0, 0, 0, 0, 0, 0, 0, 0, 0, 0, 0, 0, 0, 0, 0, 0, 0, 0, 0, 0, 0, 0, 0, 0, 0, 0, 0, 0, 0, 0, 0, 0, 0, 0, 0, 0, 0, 0, 0, 0, 0, 0, 0, 0, 0, 0, 0, 0, 0, 0, 0, 0, 0, 0, 0, 0, 0, 0, 0, 0, 0, 0, 0, 0, 0, 0, 0, 0, 0, 0, 0, 0, 0, 0, 0, 0, 0, 0, 0, 0, 0, 0, 0, 0, 0, 0, 0, 0, (-1), 0, 0, 0, 0, 0, 0, 0, 0, 0, 0, 0, 0, 0, 0, 0, 0, 0, 0, 0, 0, 0, 0, 0, 0, 0, 0, 0, 0, 0, 0, 0, 0, 0, 0, 0, 0, 0, 0, 0, 0, 0, 0, 0, 0, 0, 0, 0, 0, 0, 0, 0, 0, 0, 0, 0, 0, 0, 0, 0, 0, 0, 0, 0, 0, 0, 0, 0, 0, 0, 0, 0, 0, 0, 0, 0, 0, 0, 0, 0, 0, 0, 0, 0, 0, 0, 0, 0, 0, 0, 0, 0, 0, 0, 0, 0, 0, 0, 0, 0, 0, (-1)], [], [], [], [], [], [], [], [], [], [], [], [], []]
def M0 (a j : Nat) : Int32 := (M0l.getD a []).getD j 0
/-- what stands between q and n1 is as the tables say, what is below q is as it was -/
def Made (q n1 : Nat) (rf : RFt) (mem : MMt) (rf' : RFt) (mem' : MMt) : Prop := (∀ a j, a < q → rf' a j = rf a j ∧ mem' a j = mem a j) ∧ ∀ a j, q ≤ a → a < n1 → rf' a j = RF a j ∧ mem' a j = M0 a j
theorem clr_ne {rf : RFt} {k a j : Nat} (h : a ≠ k) : clr rf k a j = rf a j := if_neg h
theorem clm_ne {mem : MMt} {k a j : Nat} (h : a ≠ k) : clm mem k a j = mem a j := if_neg h
theorem upr_nj {rf : RFt} {k j a b : Nat} {v : Option Nat} (h : b ≠ j) : upr rf k j v a b = rf a b := if_neg fun q => h q.2
theorem upr_self {rf : RFt} {k j : Nat} {v : Option Nat} : upr rf k j v k j = v := if_pos ⟨rfl, rfl⟩
section OI
variable {sx : Nat × (Nat → Int32)} {y : MethodName} {cc : ByteArray} {nL : Nat} {ret : Option FieldType} {d n0 n1 : Nat} {Q : Option Value → RFt → MMt → Prop} {nx : Nat} {rf : RFt} {mem : MMt} {pc pc' : Nat} {L : List (Option Value)} {st : List Value}
theorem G_objInit {k0 idx : Nat} (h : At cc pc (.invokespecial idx) 3 pc') (hw : Cond.methodLink y.cls idx objectInit ∈ lw_g) (hi : Cond.instanceMethod objectInit ∈ lw_g ∧ Cond.code objectInit ⟨#[0xb1]⟩ 1 none ∈ lw_g) (hd1 : 1 ≤ d) (hst : (st.map fun v => v.category).sum ≤ 8) (k : G sx y cc nL ret d n0 n1 Q nx rf mem pc' L st) : G sx y cc nL ret d n0 n1 Q nx rf mem pc L (.ref k0 :: st) := by
  intro p l e R s m args below meth c Z D dA base sa hC hF hR hret H locs lsr hH hL
  obtain ⟨hd, rfl⟩ := h
  have hts := hC.2.2.2.2.1
  have hst2 : ((st.map (re base sa)).map fun v => v.category).sum ≤ 8 := by rw [List.map_map]; simpa [Function.comp_def, re_cat] using hst
  exact W.objInit hC.1 hC.2.1 hC.2.2.2.1 (hts _ hw) (hts _ hi.1) (hts _ hi.2) rfl (by show lsr.size = _; rw [hL.1, hC.2.2.1]) rfl hd (by omega) (by show 2 * 0 + _ + 12 ≤ _; omega) (k p l e R s m args below meth c Z D dA base sa hC hF hR hret H locs lsr hH hL)
end OI
def fgm (mem : MMt) (k : Nat) : MMt := fun b j => if b = k ∧ j < 410 then 100 else mem b j
theorem fgm_ne {mem : MMt} {k a j : Nat} (h : a ≠ k) : fgm mem k a j = mem a j := if_neg fun q => h q.1
theorem m0_row (j : Nat) : (List.replicate 410 (100 : Int32)).getD j 0 = if j < 410 then 100 else 0 := by
  rw [List.getD_eq_getElem?_getD, List.getElem?_replicate]
  by_cases h : j < 410
  · rw [if_pos h, if_pos h]; rfl
  · rw [if_neg h, if_neg h]; rfl
theorem forget_row {mem : MMt} (k j : Nat) (hk : k = 21 ∨ k = 42) (h : mem k j = 0) : fgm mem k k j = M0 k j := by
  have e : M0 k j = if j < 410 then 100 else 0 := by rcases hk with rfl | rfl <;> exact m0_row j
  rw [e]
  unfold fgm
  by_cases c : j < 410
  · rw [if_pos ⟨rfl, c⟩, if_pos c]
  · rw [if_neg (fun q => c q.2), if_neg c, h]
theorem wobj : Cond.instanceMethod objectInit ∈ lw_g ∧ Cond.code objectInit ⟨#[0xb1]⟩ 1 none ∈ lw_g := ⟨gw1 27 rfl rfl, gw1 28 rfl rfl⟩
theorem mlo_RX9_1 : Cond.methodLink RX9 1 objectInit ∈ lw_g := gw1 26 rfl rfl
theorem cn_RX9_7 : CN RX9 7 0 4 := CN.of RX0 TX0 tyX0 rfl wsg0 tyX0_ok (gw1 29 rfl rfl) (gw1 30 rfl rfl) (gw1 2 rfl rfl) (by decide +kernel)
theorem mlo_RX0_3 : Cond.methodLink RX0 3 objectInit ∈ lw_g := gw1 34 rfl rfl
theorem wcl2_RX0_9 : Cond.classLink RX0 9 RX1 ∈ lw_g := gw1 35 rfl rfl
theorem fx_RX0_11 : FW RX0 11 0 0 (tyX0 0) true := FW.of RX0 TX0 4 tyX0 rfl (by decide) (gw1 72 rfl rfl) wsg0 tyX0_ok nmX0 rfl rfl (fun h => rfl)
theorem fly_RX0_11 : FL RX0 11 0 0 := FL.of RX0 TX0 4 rfl (by decide) (gw1 72 rfl rfl) wsg0
theorem cn_RX0_9 : CN RX0 9 1 5 := CN.of RX1 TX1 tyX1 rfl wsg1 tyX1_ok (gw1 35 rfl rfl) (gw1 37 rfl rfl) (gw1 3 rfl rfl) (by decide +kernel)
theorem mlo_RX1_3 : Cond.methodLink RX1 3 objectInit ∈ lw_g := gw1 41 rfl rfl
theorem mI_X1_init : MI yX1_init cX1_init 1 0 := ⟨⟨gw1 40 rfl rfl, gw1 3 rfl rfl, ⟨by decide +kernel, by decide +kernel⟩, by decide +kernel, by decide⟩, gw1 39 rfl rfl, rfl⟩
theorem mli_RX0_17 : ML RX0 17 yX1_init := gw1 38 rfl rfl
theorem mI_X0_init : MI yX0_init cX0_init 2 0 := ⟨⟨gw1 33 rfl rfl, gw1 2 rfl rfl, ⟨by decide +kernel, by decide +kernel⟩, by decide +kernel, by decide⟩, gw1 32 rfl rfl, rfl⟩
theorem mli_RX9_9 : ML RX9 9 yX0_init := gw1 31 rfl rfl
theorem fx_RX9_10 : FW RX9 10 9 0 (tyX9 0) true := FW.of RX9 TX9 12 tyX9 rfl (by decide) (gw2 53 rfl rfl) wsg9 tyX9_ok nmX9 rfl rfl (fun h => rfl)
theorem cn_RX9_16 : CN RX9 16 5 10 := CN.of RX5 TX5 tyX5 rfl wsg5 tyX5_ok (gw1 91 rfl rfl) (gw1 92 rfl rfl) (gw1 4 rfl rfl) (by decide +kernel)
theorem mlo_RX5_3 : Cond.methodLink RX5 3 objectInit ∈ lw_g := gw1 96 rfl rfl
theorem fx_RX5_9 : FW RX5 9 5 0 (.int) false := FW.of RX5 TX5 10 tyX5 rfl (by decide) (gw1 127 rfl rfl) wsg5 tyX5_ok nmX5 rfl rfl (fun h => by cases h)
theorem wacI : Cond.arrayClass .int ∈ lw_g := gw1 118 rfl rfl
theorem fx_RX5_15 : FW RX5 15 5 1 (tyX5 1) true := FW.of RX5 TX5 10 tyX5 rfl (by decide) (gw1 129 rfl rfl) wsg5 tyX5_ok nmX5 rfl rfl (fun h => rfl)
theorem fx_RX5_19 : FW RX5 19 5 2 (.int) false := FW.of RX5 TX5 10 tyX5 rfl (by decide) (gw1 131 rfl rfl) wsg5 tyX5_ok nmX5 rfl rfl (fun h => by cases h)
theorem wacB : Cond.arrayClass .byte ∈ lw_g := gw1 119 rfl rfl
theorem fx_RX5_22 : FW RX5 22 5 3 (tyX5 3) true := FW.of RX5 TX5 10 tyX5 rfl (by decide) (gw1 133 rfl rfl) wsg5 tyX5_ok nmX5 rfl rfl (fun h => rfl)
theorem fx_RX5_26 : FW RX5 26 5 5 (tyX5 5) true := FW.of RX5 TX5 10 tyX5 rfl (by decide) (gw1 137 rfl rfl) wsg5 tyX5_ok nmX5 rfl rfl (fun h => rfl)
theorem cn_RX5_29 : CN RX5 29 2 4 := CN.of RX2 TX2 tyX2 rfl wsg2 tyX2_ok (gw1 97 rfl rfl) (gw1 98 rfl rfl) (gw1 5 rfl rfl) (by decide +kernel)
theorem mlo_RX2_3 : Cond.methodLink RX2 3 objectInit ∈ lw_g := gw1 102 rfl rfl
theorem fx_RX2_9 : FW RX2 9 2 1 (tyX2 1) true := FW.of RX2 TX2 4 tyX2 rfl (by decide) (gw1 104 rfl rfl) wsg2 tyX2_ok nmX2 rfl rfl (fun h => rfl)
theorem fx_RX2_15 : FW RX2 15 2 3 (tyX2 3) true := FW.of RX2 TX2 4 tyX2 rfl (by decide) (gw1 108 rfl rfl) wsg2 tyX2_ok nmX2 rfl rfl (fun h => rfl)
theorem fx_RX2_18 : FW RX2 18 2 0 (.int) true := FW.of RX2 TX2 4 tyX2 rfl (by decide) (gw1 103 rfl rfl) wsg2 tyX2_ok nmX2 rfl rfl (fun h => rfl)
theorem mI_X2_init : MI yX2_init cX2_init 2 1 := ⟨⟨gw1 101 rfl rfl, gw1 5 rfl rfl, ⟨by decide +kernel, by decide +kernel⟩, by decide +kernel, by decide⟩, gw1 100 rfl rfl, rfl⟩
theorem mli_RX5_31 : ML RX5 31 yX2_init := gw1 99 rfl rfl
theorem fx_RX5_34 : FW RX5 34 5 7 (tyX5 7) true := FW.of RX5 TX5 10 tyX5 rfl (by decide) (gw1 141 rfl rfl) wsg5 tyX5_ok nmX5 rfl rfl (fun h => rfl)
theorem fx_RX5_38 : FW RX5 38 5 8 (tyX5 8) true := FW.of RX5 TX5 10 tyX5 rfl (by decide) (gw1 142 rfl rfl) wsg5 tyX5_ok nmX5 rfl rfl (fun h => rfl)
theorem fx_RX5_41 : FW RX5 41 5 9 (tyX5 9) true := FW.of RX5 TX5 10 tyX5 rfl (by decide) (gw1 144 rfl rfl) wsg5 tyX5_ok nmX5 rfl rfl (fun h => rfl)
theorem mI_X5_init : MI yX5_init cX5_init 1 0 := ⟨⟨gw1 95 rfl rfl, gw1 4 rfl rfl, ⟨by decide +kernel, by decide +kernel⟩, by decide +kernel, by decide⟩, gw1 94 rfl rfl, rfl⟩
theorem mli_RX9_18 : ML RX9 18 yX5_init := gw1 93 rfl rfl
theorem fx_RX9_19 : FW RX9 19 9 1 (tyX9 1) true := FW.of RX9 TX9 12 tyX9 rfl (by decide) (gw2 54 rfl rfl) wsg9 tyX9_ok nmX9 rfl rfl (fun h => rfl)
theorem fx_RX9_23 : FW RX9 23 9 2 (tyX9 2) true := FW.of RX9 TX9 12 tyX9 rfl (by decide) (gw2 55 rfl rfl) wsg9 tyX9_ok nmX9 rfl rfl (fun h => rfl)
theorem fx_RX9_26 : FW RX9 26 9 3 (tyX9 3) true := FW.of RX9 TX9 12 tyX9 rfl (by decide) (gw2 56 rfl rfl) wsg9 tyX9_ok nmX9 rfl rfl (fun h => rfl)
theorem fx_RX9_29 : FW RX9 29 9 4 (tyX9 4) true := FW.of RX9 TX9 12 tyX9 rfl (by decide) (gw2 57 rfl rfl) wsg9 tyX9_ok nmX9 rfl rfl (fun h => rfl)
theorem cn_RX9_32 : CN RX9 32 7 2 := CN.of RX7 TX7 tyX7 rfl wsg7 tyX7_ok (gw1 166 rfl rfl) (gw1 167 rfl rfl) (gw1 7 rfl rfl) (by decide +kernel)
theorem fly_RX9_19 : FL RX9 19 9 1 := FL.of RX9 TX9 12 rfl (by decide) (gw2 54 rfl rfl) wsg9
theorem mlo_RX7_3 : Cond.methodLink RX7 3 objectInit ∈ lw_g := gw1 171 rfl rfl
theorem cn_RX7_9 : CN RX7 9 1 5 := CN.of RX1 TX1 tyX1 rfl wsg1 tyX1_ok (gw1 172 rfl rfl) (gw1 37 rfl rfl) (gw1 3 rfl rfl) (by decide +kernel)
theorem mli_RX7_11 : ML RX7 11 yX1_init := gw1 173 rfl rfl
theorem fx_RX7_12 : FW RX7 12 7 0 (tyX7 0) true := FW.of RX7 TX7 2 tyX7 rfl (by decide) (gw1 174 rfl rfl) wsg7 tyX7_ok nmX7 rfl rfl (fun h => rfl)
theorem fx_RX7_18 : FW RX7 18 7 1 (tyX7 1) true := FW.of RX7 TX7 2 tyX7 rfl (by decide) (gw1 176 rfl rfl) wsg7 tyX7_ok nmX7 rfl rfl (fun h => rfl)
theorem mI_X7_init : MI yX7_init cX7_init 2 1 := ⟨⟨gw1 170 rfl rfl, gw1 7 rfl rfl, ⟨by decide +kernel, by decide +kernel⟩, by decide +kernel, by decide⟩, gw1 169 rfl rfl, rfl⟩
theorem mli_RX9_34 : ML RX9 34 yX7_init := gw1 168 rfl rfl
theorem fx_RX9_37 : FW RX9 37 9 5 (tyX9 5) true := FW.of RX9 TX9 12 tyX9 rfl (by decide) (gw2 58 rfl rfl) wsg9 tyX9_ok nmX9 rfl rfl (fun h => rfl)
theorem cn_RX9_41 : CN RX9 41 4 6 := CN.of RX4 TX4 tyX4 rfl wsg4 tyX4_ok (gw1 182 rfl rfl) (gw1 183 rfl rfl) (gw1 8 rfl rfl) (by decide +kernel)
theorem mlo_RX4_3 : Cond.methodLink RX4 3 objectInit ∈ lw_g := gw1 187 rfl rfl
theorem fx_RX4_9 : FW RX4 9 4 0 (tyX4 0) true := FW.of RX4 TX4 6 tyX4 rfl (by decide) (gw1 189 rfl rfl) wsg4 tyX4_ok nmX4 rfl rfl (fun h => rfl)
theorem fx_RX4_15 : FW RX4 15 4 2 (tyX4 2) false := FW.of RX4 TX4 6 tyX4 rfl (by decide) (gw1 193 rfl rfl) wsg4 tyX4_ok nmX4 rfl rfl (fun h => by cases h)
theorem fx_RX4_21 : FW RX4 21 4 5 (tyX4 5) false := FW.of RX4 TX4 6 tyX4 rfl (by decide) (gw1 196 rfl rfl) wsg4 tyX4_ok nmX4 rfl rfl (fun h => by cases h)
theorem mI_X4_init : MI yX4_init cX4_init 1 0 := ⟨⟨gw1 186 rfl rfl, gw1 8 rfl rfl, ⟨by decide +kernel, by decide +kernel⟩, by decide +kernel, by decide⟩, gw1 185 rfl rfl, rfl⟩
theorem mli_RX9_43 : ML RX9 43 yX4_init := gw1 184 rfl rfl
theorem fx_RX9_44 : FW RX9 44 9 6 (tyX9 6) true := FW.of RX9 TX9 12 tyX9 rfl (by decide) (gw2 59 rfl rfl) wsg9 tyX9_ok nmX9 rfl rfl (fun h => rfl)
theorem cn_RX9_48 : CN RX9 48 3 9 := CN.of RX3 TX3 tyX3 rfl wsg3 tyX3_ok (gw1 210 rfl rfl) (gw1 211 rfl rfl) (gw1 9 rfl rfl) (by decide +kernel)
theorem mlo_RX3_3 : Cond.methodLink RX3 3 objectInit ∈ lw_g := gw1 215 rfl rfl
theorem fx_RX3_9 : FW RX3 9 3 0 (tyX3 0) true := FW.of RX3 TX3 9 tyX3 rfl (by decide) (gw1 216 rfl rfl) wsg3 tyX3_ok nmX3 rfl rfl (fun h => rfl)
theorem fx_RX3_15 : FW RX3 15 3 1 (tyX3 1) true := FW.of RX3 TX3 9 tyX3 rfl (by decide) (gw1 217 rfl rfl) wsg3 tyX3_ok nmX3 rfl rfl (fun h => rfl)
theorem fx_RX3_18 : FW RX3 18 3 2 (tyX3 2) true := FW.of RX3 TX3 9 tyX3 rfl (by decide) (gw1 218 rfl rfl) wsg3 tyX3_ok nmX3 rfl rfl (fun h => rfl)
theorem fx_RX3_21 : FW RX3 21 3 3 (tyX3 3) true := FW.of RX3 TX3 9 tyX3 rfl (by decide) (gw1 219 rfl rfl) wsg3 tyX3_ok nmX3 rfl rfl (fun h => rfl)
theorem fx_RX3_24 : FW RX3 24 3 8 (tyX3 8) true := FW.of RX3 TX3 9 tyX3 rfl (by decide) (gw1 226 rfl rfl) wsg3 tyX3_ok nmX3 rfl rfl (fun h => rfl)
theorem mI_X3_init : MI yX3_init cX3_init 1 0 := ⟨⟨gw1 214 rfl rfl, gw1 9 rfl rfl, ⟨by decide +kernel, by decide +kernel⟩, by decide +kernel, by decide⟩, gw1 213 rfl rfl, rfl⟩
theorem mli_RX9_50 : ML RX9 50 yX3_init := gw1 212 rfl rfl
theorem fx_RX9_51 : FW RX9 51 9 7 (tyX9 7) true := FW.of RX9 TX9 12 tyX9 rfl (by decide) (gw2 60 rfl rfl) wsg9 tyX9_ok nmX9 rfl rfl (fun h => rfl)
theorem cn_RX9_55 : CN RX9 55 8 5 := CN.of RX8 TX8 tyX8 rfl wsg8 tyX8_ok (gw2 7 rfl rfl) (gw2 8 rfl rfl) (gw1 10 rfl rfl) (by decide +kernel)
theorem mlo_RX8_3 : Cond.methodLink RX8 3 objectInit ∈ lw_g := gw2 12 rfl rfl
theorem fx_RX8_11 : FW RX8 11 8 0 (tyX8 0) true := FW.of RX8 TX8 5 tyX8 rfl (by decide) (gw2 13 rfl rfl) wsg8 tyX8_ok nmX8 rfl rfl (fun h => rfl)
theorem mI_X8_init : MI yX8_init cX8_init 1 0 := ⟨⟨gw2 11 rfl rfl, gw1 10 rfl rfl, ⟨by decide +kernel, by decide +kernel⟩, by decide +kernel, by decide⟩, gw2 10 rfl rfl, rfl⟩
theorem mli_RX9_57 : ML RX9 57 yX8_init := gw2 9 rfl rfl
theorem fx_RX9_58 : FW RX9 58 9 8 (tyX9 8) true := FW.of RX9 TX9 12 tyX9 rfl (by decide) (gw2 61 rfl rfl) wsg9 tyX9_ok nmX9 rfl rfl (fun h => rfl)
theorem wcl2_RX9_62 : Cond.classLink RX9 62 RX6 ∈ lw_g := gw2 31 rfl rfl
theorem fx_RX9_64 : FW RX9 64 9 9 (tyX9 9) true := FW.of RX9 TX9 12 tyX9 rfl (by decide) (gw2 62 rfl rfl) wsg9 tyX9_ok nmX9 rfl rfl (fun h => rfl)
theorem fx_RX9_68 : FW RX9 68 9 10 (tyX9 10) true := FW.of RX9 TX9 12 tyX9 rfl (by decide) (gw2 63 rfl rfl) wsg9 tyX9_ok nmX9 rfl rfl (fun h => rfl)
theorem fly_RX9_64 : FL RX9 64 9 9 := FL.of RX9 TX9 12 rfl (by decide) (gw2 62 rfl rfl) wsg9
theorem cn_RX9_62 : CN RX9 62 6 3 := CN.of RX6 TX6 tyX6 rfl wsg6 tyX6_ok (gw2 31 rfl rfl) (gw2 33 rfl rfl) (gw1 11 rfl rfl) (by decide +kernel)
theorem mlo_RX6_3 : Cond.methodLink RX6 3 objectInit ∈ lw_g := gw2 37 rfl rfl
theorem fx_RX6_9 : FW RX6 9 6 2 (tyX6 2) true := FW.of RX6 TX6 3 tyX6 rfl (by decide) (gw2 43 rfl rfl) wsg6 tyX6_ok nmX6 rfl rfl (fun h => rfl)
theorem mI_X6_init : MI yX6_init cX6_init 1 0 := ⟨⟨gw2 36 rfl rfl, gw1 11 rfl rfl, ⟨by decide +kernel, by decide +kernel⟩, by decide +kernel, by decide⟩, gw2 35 rfl rfl, rfl⟩
theorem mli_RX9_72 : ML RX9 72 yX6_init := gw2 34 rfl rfl
theorem mlo_RX10_1 : Cond.methodLink RX10 1 objectInit ∈ lw_g := gw4 175 rfl rfl
theorem fx_RX10_9 : FW RX10 9 10 0 (tyX10 0) true := FW.of RX10 TX10 29 tyX10 rfl (by decide) (gw4 176 rfl rfl) wsg10 tyX10_ok nmX10 rfl rfl (fun h => rfl)
theorem fx_RX10_13 : FW RX10 13 10 1 (tyX10 1) true := FW.of RX10 TX10 29 tyX10 rfl (by decide) (gw4 177 rfl rfl) wsg10 tyX10_ok nmX10 rfl rfl (fun h => rfl)
theorem fx_RX10_16 : FW RX10 16 10 4 (tyX10 4) true := FW.of RX10 TX10 29 tyX10 rfl (by decide) (gw4 180 rfl rfl) wsg10 tyX10_ok nmX10 rfl rfl (fun h => rfl)
theorem fx_RX10_19 : FW RX10 19 10 9 (tyX10 9) true := FW.of RX10 TX10 29 tyX10 rfl (by decide) (gw4 185 rfl rfl) wsg10 tyX10_ok nmX10 rfl rfl (fun h => rfl)
theorem fx_RX10_22 : FW RX10 22 10 10 (tyX10 10) true := FW.of RX10 TX10 29 tyX10 rfl (by decide) (gw4 186 rfl rfl) wsg10 tyX10_ok nmX10 rfl rfl (fun h => rfl)
theorem fx_RX10_25 : FW RX10 25 10 11 (tyX10 11) true := FW.of RX10 TX10 29 tyX10 rfl (by decide) (gw4 187 rfl rfl) wsg10 tyX10_ok nmX10 rfl rfl (fun h => rfl)
theorem fx_RX10_28 : FW RX10 28 10 14 (tyX10 14) true := FW.of RX10 TX10 29 tyX10 rfl (by decide) (gw4 190 rfl rfl) wsg10 tyX10_ok nmX10 rfl rfl (fun h => rfl)
theorem fx_RX10_31 : FW RX10 31 10 16 (tyX10 16) true := FW.of RX10 TX10 29 tyX10 rfl (by decide) (gw4 192 rfl rfl) wsg10 tyX10_ok nmX10 rfl rfl (fun h => rfl)
theorem fx_RX10_34 : FW RX10 34 10 17 (tyX10 17) true := FW.of RX10 TX10 29 tyX10 rfl (by decide) (gw4 193 rfl rfl) wsg10 tyX10_ok nmX10 rfl rfl (fun h => rfl)
theorem fx_RX10_37 : FW RX10 37 10 20 (tyX10 20) true := FW.of RX10 TX10 29 tyX10 rfl (by decide) (gw4 196 rfl rfl) wsg10 tyX10_ok nmX10 rfl rfl (fun h => rfl)
theorem fx_RX10_40 : FW RX10 40 10 21 (tyX10 21) true := FW.of RX10 TX10 29 tyX10 rfl (by decide) (gw4 197 rfl rfl) wsg10 tyX10_ok nmX10 rfl rfl (fun h => rfl)
theorem fx_RX10_43 : FW RX10 43 10 22 (tyX10 22) true := FW.of RX10 TX10 29 tyX10 rfl (by decide) (gw4 198 rfl rfl) wsg10 tyX10_ok nmX10 rfl rfl (fun h => rfl)
theorem fx_RX10_46 : FW RX10 46 10 23 (tyX10 23) true := FW.of RX10 TX10 29 tyX10 rfl (by decide) (gw4 199 rfl rfl) wsg10 tyX10_ok nmX10 rfl rfl (fun h => rfl)
theorem fx_RX10_49 : FW RX10 49 10 28 (tyX10 28) true := FW.of RX10 TX10 29 tyX10 rfl (by decide) (gw4 204 rfl rfl) wsg10 tyX10_ok nmX10 rfl rfl (fun h => rfl)
theorem fly_RX10_9 : FL RX10 9 10 0 := FL.of RX10 TX10 29 rfl (by decide) (gw4 176 rfl rfl) wsg10
theorem si_160 : (Int16.ofInt (160)).toInt32 = (160 : Int32) := by decide +kernel
theorem si_221 : (Int16.ofInt (221)).toInt32 = (221 : Int32) := by decide +kernel
theorem si_410 : (Int16.ofInt (410)).toInt32 = (410 : Int32) := by decide +kernel
def tX9_init_0 : List (Nat × Instr × Nat) := [(0, .aload_n 0, 1), (1, .invokespecial 1, 3), (4, .aload_n 0, 1), (5, .new 7, 3), (8, .dup, 1), (9, .invokespecial 9, 3), (12, .putfield 10, 3), (15, .aload_n 0, 1), (16, .new 16, 3), (19, .dup, 1), (20, .invokespecial 18, 3), (23, .putfield 19, 3), (26, .aload_n 0, 1), (27, .new 7, 3), (30, .dup, 1), (31, .invokespecial 9, 3), (34, .putfield 23, 3), (37, .aload_n 0, 1), (38, .new 16, 3), (41, .dup, 1), (42, .invokespecial 18, 3), (45, .putfield 26, 3), (48, .aload_n 0, 1), (49, .new 7, 3), (52, .dup, 1), (53, .invokespecial 9, 3), (56, .putfield 29, 3), (59, .aload_n 0, 1), (60, .new 32, 3), (63, .dup, 1), (64, .aload_n 0, 1), (65, .getfield 19, 3), (68, .invokespecial 34, 3), (71, .putfield 37, 3), (74, .aload_n 0, 1), (75, .new 41, 3), (78, .dup, 1), (79, .invokespecial 43, 3), (82, .putfield 44, 3), (85, .aload_n 0, 1), (86, .new 48, 3), (89, .dup, 1), (90, .invokespecial 50, 3), (93, .putfield 51, 3), (96, .aload_n 0, 1), (97, .new 55, 3), (100, .dup, 1), (101, .invokespecial 57, 3), (104, .putfield 58, 3), (107, .aload_n 0, 1), (108, .iconst 4, 1), (109, .anewarray 62, 3), (112, .putfield 64, 3), (115, .aload_n 0, 1), (116, .bipush 6, 2), (118, .newarray .int, 2), (120, .putfield 68, 3), (123, .iconst 0, 1), (124, .istore_n 1, 1), (125, .iload_n 1, 1), (126, .iconst 4, 1), (127, .if_icmp .ge 22, 3), (130, .aload_n 0, 1), (131, .getfield 64, 3), (134, .iload_n 1, 1), (135, .new 62, 3), (138, .dup, 1), (139, .invokespecial 72, 3), (142, .aastore, 1), (143, .iinc 1 1, 3), (146, .goto (-21), 3), (149, .return_, 1)]
theorem tX9_init_0_ok : ∀ q ∈ tX9_init_0, decode cX9_init q.1 = .ok (q.2.1, q.2.2) := by decide +kernel
theorem pX9_init_0 : At cX9_init 0 (.aload_n 0) 1 1 := ⟨tX9_init_0_ok (0, .aload_n 0, 1) (List.mem_of_getElem? (i := 0) rfl), rfl⟩
theorem pX9_init_1 : At cX9_init 1 (.invokespecial 1) 3 4 := ⟨tX9_init_0_ok (1, .invokespecial 1, 3) (List.mem_of_getElem? (i := 1) rfl), rfl⟩
theorem pX9_init_4 : At cX9_init 4 (.aload_n 0) 1 5 := ⟨tX9_init_0_ok (4, .aload_n 0, 1) (List.mem_of_getElem? (i := 2) rfl), rfl⟩
theorem pX9_init_5 : At cX9_init 5 (.new 7) 3 8 := ⟨tX9_init_0_ok (5, .new 7, 3) (List.mem_of_getElem? (i := 3) rfl), rfl⟩
theorem pX9_init_8 : At cX9_init 8 (.dup) 1 9 := ⟨tX9_init_0_ok (8, .dup, 1) (List.mem_of_getElem? (i := 4) rfl), rfl⟩
theorem pX9_init_9 : At cX9_init 9 (.invokespecial 9) 3 12 := ⟨tX9_init_0_ok (9, .invokespecial 9, 3) (List.mem_of_getElem? (i := 5) rfl), rfl⟩
theorem pX9_init_12 : At cX9_init 12 (.putfield 10) 3 15 := ⟨tX9_init_0_ok (12, .putfield 10, 3) (List.mem_of_getElem? (i := 6) rfl), rfl⟩
theorem pX9_init_15 : At cX9_init 15 (.aload_n 0) 1 16 := ⟨tX9_init_0_ok (15, .aload_n 0, 1) (List.mem_of_getElem? (i := 7) rfl), rfl⟩
theorem pX9_init_16 : At cX9_init 16 (.new 16) 3 19 := ⟨tX9_init_0_ok (16, .new 16, 3) (List.mem_of_getElem? (i := 8) rfl), rfl⟩
theorem pX9_init_19 : At cX9_init 19 (.dup) 1 20 := ⟨tX9_init_0_ok (19, .dup, 1) (List.mem_of_getElem? (i := 9) rfl), rfl⟩
theorem pX9_init_20 : At cX9_init 20 (.invokespecial 18) 3 23 := ⟨tX9_init_0_ok (20, .invokespecial 18, 3) (List.mem_of_getElem? (i := 10) rfl), rfl⟩
theorem pX9_init_23 : At cX9_init 23 (.putfield 19) 3 26 := ⟨tX9_init_0_ok (23, .putfield 19, 3) (List.mem_of_getElem? (i := 11) rfl), rfl⟩
theorem pX9_init_26 : At cX9_init 26 (.aload_n 0) 1 27 := ⟨tX9_init_0_ok (26, .aload_n 0, 1) (List.mem_of_getElem? (i := 12) rfl), rfl⟩
theorem pX9_init_27 : At cX9_init 27 (.new 7) 3 30 := ⟨tX9_init_0_ok (27, .new 7, 3) (List.mem_of_getElem? (i := 13) rfl), rfl⟩
theorem pX9_init_30 : At cX9_init 30 (.dup) 1 31 := ⟨tX9_init_0_ok (30, .dup, 1) (List.mem_of_getElem? (i := 14) rfl), rfl⟩
theorem pX9_init_31 : At cX9_init 31 (.invokespecial 9) 3 34 := ⟨tX9_init_0_ok (31, .invokespecial 9, 3) (List.mem_of_getElem? (i := 15) rfl), rfl⟩
theorem pX9_init_34 : At cX9_init 34 (.putfield 23) 3 37 := ⟨tX9_init_0_ok (34, .putfield 23, 3) (List.mem_of_getElem? (i := 16) rfl), rfl⟩
theorem pX9_init_37 : At cX9_init 37 (.aload_n 0) 1 38 := ⟨tX9_init_0_ok (37, .aload_n 0, 1) (List.mem_of_getElem? (i := 17) rfl), rfl⟩
theorem pX9_init_38 : At cX9_init 38 (.new 16) 3 41 := ⟨tX9_init_0_ok (38, .new 16, 3) (List.mem_of_getElem? (i := 18) rfl), rfl⟩
theorem pX9_init_41 : At cX9_init 41 (.dup) 1 42 := ⟨tX9_init_0_ok (41, .dup, 1) (List.mem_of_getElem? (i := 19) rfl), rfl⟩
theorem pX9_init_42 : At cX9_init 42 (.invokespecial 18) 3 45 := ⟨tX9_init_0_ok (42, .invokespecial 18, 3) (List.mem_of_getElem? (i := 20) rfl), rfl⟩
theorem pX9_init_45 : At cX9_init 45 (.putfield 26) 3 48 := ⟨tX9_init_0_ok (45, .putfield 26, 3) (List.mem_of_getElem? (i := 21) rfl), rfl⟩
theorem pX9_init_48 : At cX9_init 48 (.aload_n 0) 1 49 := ⟨tX9_init_0_ok (48, .aload_n 0, 1) (List.mem_of_getElem? (i := 22) rfl), rfl⟩
theorem pX9_init_49 : At cX9_init 49 (.new 7) 3 52 := ⟨tX9_init_0_ok (49, .new 7, 3) (List.mem_of_getElem? (i := 23) rfl), rfl⟩
theorem pX9_init_52 : At cX9_init 52 (.dup) 1 53 := ⟨tX9_init_0_ok (52, .dup, 1) (List.mem_of_getElem? (i := 24) rfl), rfl⟩
theorem pX9_init_53 : At cX9_init 53 (.invokespecial 9) 3 56 := ⟨tX9_init_0_ok (53, .invokespecial 9, 3) (List.mem_of_getElem? (i := 25) rfl), rfl⟩
theorem pX9_init_56 : At cX9_init 56 (.putfield 29) 3 59 := ⟨tX9_init_0_ok (56, .putfield 29, 3) (List.mem_of_getElem? (i := 26) rfl), rfl⟩
theorem pX9_init_59 : At cX9_init 59 (.aload_n 0) 1 60 := ⟨tX9_init_0_ok (59, .aload_n 0, 1) (List.mem_of_getElem? (i := 27) rfl), rfl⟩
theorem pX9_init_60 : At cX9_init 60 (.new 32) 3 63 := ⟨tX9_init_0_ok (60, .new 32, 3) (List.mem_of_getElem? (i := 28) rfl), rfl⟩
theorem pX9_init_63 : At cX9_init 63 (.dup) 1 64 := ⟨tX9_init_0_ok (63, .dup, 1) (List.mem_of_getElem? (i := 29) rfl), rfl⟩
theorem pX9_init_64 : At cX9_init 64 (.aload_n 0) 1 65 := ⟨tX9_init_0_ok (64, .aload_n 0, 1) (List.mem_of_getElem? (i := 30) rfl), rfl⟩
theorem pX9_init_65 : At cX9_init 65 (.getfield 19) 3 68 := ⟨tX9_init_0_ok (65, .getfield 19, 3) (List.mem_of_getElem? (i := 31) rfl), rfl⟩
theorem pX9_init_68 : At cX9_init 68 (.invokespecial 34) 3 71 := ⟨tX9_init_0_ok (68, .invokespecial 34, 3) (List.mem_of_getElem? (i := 32) rfl), rfl⟩
theorem pX9_init_71 : At cX9_init 71 (.putfield 37) 3 74 := ⟨tX9_init_0_ok (71, .putfield 37, 3) (List.mem_of_getElem? (i := 33) rfl), rfl⟩
theorem pX9_init_74 : At cX9_init 74 (.aload_n 0) 1 75 := ⟨tX9_init_0_ok (74, .aload_n 0, 1) (List.mem_of_getElem? (i := 34) rfl), rfl⟩
theorem pX9_init_75 : At cX9_init 75 (.new 41) 3 78 := ⟨tX9_init_0_ok (75, .new 41, 3) (List.mem_of_getElem? (i := 35) rfl), rfl⟩
theorem pX9_init_78 : At cX9_init 78 (.dup) 1 79 := ⟨tX9_init_0_ok (78, .dup, 1) (List.mem_of_getElem? (i := 36) rfl), rfl⟩
theorem pX9_init_79 : At cX9_init 79 (.invokespecial 43) 3 82 := ⟨tX9_init_0_ok (79, .invokespecial 43, 3) (List.mem_of_getElem? (i := 37) rfl), rfl⟩
theorem pX9_init_82 : At cX9_init 82 (.putfield 44) 3 85 := ⟨tX9_init_0_ok (82, .putfield 44, 3) (List.mem_of_getElem? (i := 38) rfl), rfl⟩
theorem pX9_init_85 : At cX9_init 85 (.aload_n 0) 1 86 := ⟨tX9_init_0_ok (85, .aload_n 0, 1) (List.mem_of_getElem? (i := 39) rfl), rfl⟩
theorem pX9_init_86 : At cX9_init 86 (.new 48) 3 89 := ⟨tX9_init_0_ok (86, .new 48, 3) (List.mem_of_getElem? (i := 40) rfl), rfl⟩
theorem pX9_init_89 : At cX9_init 89 (.dup) 1 90 := ⟨tX9_init_0_ok (89, .dup, 1) (List.mem_of_getElem? (i := 41) rfl), rfl⟩
theorem pX9_init_90 : At cX9_init 90 (.invokespecial 50) 3 93 := ⟨tX9_init_0_ok (90, .invokespecial 50, 3) (List.mem_of_getElem? (i := 42) rfl), rfl⟩
theorem pX9_init_93 : At cX9_init 93 (.putfield 51) 3 96 := ⟨tX9_init_0_ok (93, .putfield 51, 3) (List.mem_of_getElem? (i := 43) rfl), rfl⟩
theorem pX9_init_96 : At cX9_init 96 (.aload_n 0) 1 97 := ⟨tX9_init_0_ok (96, .aload_n 0, 1) (List.mem_of_getElem? (i := 44) rfl), rfl⟩
theorem pX9_init_97 : At cX9_init 97 (.new 55) 3 100 := ⟨tX9_init_0_ok (97, .new 55, 3) (List.mem_of_getElem? (i := 45) rfl), rfl⟩
theorem pX9_init_100 : At cX9_init 100 (.dup) 1 101 := ⟨tX9_init_0_ok (100, .dup, 1) (List.mem_of_getElem? (i := 46) rfl), rfl⟩
theorem pX9_init_101 : At cX9_init 101 (.invokespecial 57) 3 104 := ⟨tX9_init_0_ok (101, .invokespecial 57, 3) (List.mem_of_getElem? (i := 47) rfl), rfl⟩
theorem pX9_init_104 : At cX9_init 104 (.putfield 58) 3 107 := ⟨tX9_init_0_ok (104, .putfield 58, 3) (List.mem_of_getElem? (i := 48) rfl), rfl⟩
theorem pX9_init_107 : At cX9_init 107 (.aload_n 0) 1 108 := ⟨tX9_init_0_ok (107, .aload_n 0, 1) (List.mem_of_getElem? (i := 49) rfl), rfl⟩
theorem pX9_init_108 : At cX9_init 108 (.iconst 4) 1 109 := ⟨tX9_init_0_ok (108, .iconst 4, 1) (List.mem_of_getElem? (i := 50) rfl), rfl⟩
theorem pX9_init_109 : At cX9_init 109 (.anewarray 62) 3 112 := ⟨tX9_init_0_ok (109, .anewarray 62, 3) (List.mem_of_getElem? (i := 51) rfl), rfl⟩
theorem pX9_init_112 : At cX9_init 112 (.putfield 64) 3 115 := ⟨tX9_init_0_ok (112, .putfield 64, 3) (List.mem_of_getElem? (i := 52) rfl), rfl⟩
theorem pX9_init_115 : At cX9_init 115 (.aload_n 0) 1 116 := ⟨tX9_init_0_ok (115, .aload_n 0, 1) (List.mem_of_getElem? (i := 53) rfl), rfl⟩
theorem pX9_init_116 : At cX9_init 116 (.bipush 6) 2 118 := ⟨tX9_init_0_ok (116, .bipush 6, 2) (List.mem_of_getElem? (i := 54) rfl), rfl⟩
theorem pX9_init_118 : At cX9_init 118 (.newarray .int) 2 120 := ⟨tX9_init_0_ok (118, .newarray .int, 2) (List.mem_of_getElem? (i := 55) rfl), rfl⟩
theorem pX9_init_120 : At cX9_init 120 (.putfield 68) 3 123 := ⟨tX9_init_0_ok (120, .putfield 68, 3) (List.mem_of_getElem? (i := 56) rfl), rfl⟩
theorem pX9_init_123 : At cX9_init 123 (.iconst 0) 1 124 := ⟨tX9_init_0_ok (123, .iconst 0, 1) (List.mem_of_getElem? (i := 57) rfl), rfl⟩
theorem pX9_init_124 : At cX9_init 124 (.istore_n 1) 1 125 := ⟨tX9_init_0_ok (124, .istore_n 1, 1) (List.mem_of_getElem? (i := 58) rfl), rfl⟩
theorem pX9_init_125 : At cX9_init 125 (.iload_n 1) 1 126 := ⟨tX9_init_0_ok (125, .iload_n 1, 1) (List.mem_of_getElem? (i := 59) rfl), rfl⟩
theorem pX9_init_126 : At cX9_init 126 (.iconst 4) 1 127 := ⟨tX9_init_0_ok (126, .iconst 4, 1) (List.mem_of_getElem? (i := 60) rfl), rfl⟩
theorem pX9_init_127 : Bt cX9_init 127 (.if_icmp .ge 22) 22 149 130 := ⟨tX9_init_0_ok (127, .if_icmp .ge 22, 3) (List.mem_of_getElem? (i := 61) rfl), by decide, rfl⟩
theorem pX9_init_130 : At cX9_init 130 (.aload_n 0) 1 131 := ⟨tX9_init_0_ok (130, .aload_n 0, 1) (List.mem_of_getElem? (i := 62) rfl), rfl⟩
theorem pX9_init_131 : At cX9_init 131 (.getfield 64) 3 134 := ⟨tX9_init_0_ok (131, .getfield 64, 3) (List.mem_of_getElem? (i := 63) rfl), rfl⟩
theorem pX9_init_134 : At cX9_init 134 (.iload_n 1) 1 135 := ⟨tX9_init_0_ok (134, .iload_n 1, 1) (List.mem_of_getElem? (i := 64) rfl), rfl⟩
theorem pX9_init_135 : At cX9_init 135 (.new 62) 3 138 := ⟨tX9_init_0_ok (135, .new 62, 3) (List.mem_of_getElem? (i := 65) rfl), rfl⟩
theorem pX9_init_138 : At cX9_init 138 (.dup) 1 139 := ⟨tX9_init_0_ok (138, .dup, 1) (List.mem_of_getElem? (i := 66) rfl), rfl⟩
theorem pX9_init_139 : At cX9_init 139 (.invokespecial 72) 3 142 := ⟨tX9_init_0_ok (139, .invokespecial 72, 3) (List.mem_of_getElem? (i := 67) rfl), rfl⟩
theorem pX9_init_142 : At cX9_init 142 (.aastore) 1 143 := ⟨tX9_init_0_ok (142, .aastore, 1) (List.mem_of_getElem? (i := 68) rfl), rfl⟩
theorem pX9_init_143 : At cX9_init 143 (.iinc 1 1) 3 146 := ⟨tX9_init_0_ok (143, .iinc 1 1, 3) (List.mem_of_getElem? (i := 69) rfl), rfl⟩
theorem pX9_init_146 : Bt cX9_init 146 (.goto (-21)) (-21) 125 149 := ⟨tX9_init_0_ok (146, .goto (-21), 3) (List.mem_of_getElem? (i := 70) rfl), by decide, rfl⟩
theorem pX9_init_149 : At cX9_init 149 (.return_) 1 150 := ⟨tX9_init_0_ok (149, .return_, 1) (List.mem_of_getElem? (i := 71) rfl), rfl⟩
def tX0_init_0 : List (Nat × Instr × Nat) := [(0, .aload_n 0, 1), (1, .invokespecial 3, 3), (4, .aload_n 0, 1), (5, .bipush 8, 2), (7, .anewarray 9, 3), (10, .putfield 11, 3), (13, .iconst 0, 1), (14, .istore_n 1, 1), (15, .iload_n 1, 1), (16, .bipush 8, 2), (18, .if_icmp .ge 22, 3), (21, .aload_n 0, 1), (22, .getfield 11, 3), (25, .iload_n 1, 1), (26, .new 9, 3), (29, .dup, 1), (30, .invokespecial 17, 3), (33, .aastore, 1), (34, .iinc 1 1, 3), (37, .goto (-22), 3), (40, .return_, 1)]
theorem tX0_init_0_ok : ∀ q ∈ tX0_init_0, decode cX0_init q.1 = .ok (q.2.1, q.2.2) := by decide +kernel
theorem pX0_init_0 : At cX0_init 0 (.aload_n 0) 1 1 := ⟨tX0_init_0_ok (0, .aload_n 0, 1) (List.mem_of_getElem? (i := 0) rfl), rfl⟩
theorem pX0_init_1 : At cX0_init 1 (.invokespecial 3) 3 4 := ⟨tX0_init_0_ok (1, .invokespecial 3, 3) (List.mem_of_getElem? (i := 1) rfl), rfl⟩
theorem pX0_init_4 : At cX0_init 4 (.aload_n 0) 1 5 := ⟨tX0_init_0_ok (4, .aload_n 0, 1) (List.mem_of_getElem? (i := 2) rfl), rfl⟩
theorem pX0_init_5 : At cX0_init 5 (.bipush 8) 2 7 := ⟨tX0_init_0_ok (5, .bipush 8, 2) (List.mem_of_getElem? (i := 3) rfl), rfl⟩
theorem pX0_init_7 : At cX0_init 7 (.anewarray 9) 3 10 := ⟨tX0_init_0_ok (7, .anewarray 9, 3) (List.mem_of_getElem? (i := 4) rfl), rfl⟩
theorem pX0_init_10 : At cX0_init 10 (.putfield 11) 3 13 := ⟨tX0_init_0_ok (10, .putfield 11, 3) (List.mem_of_getElem? (i := 5) rfl), rfl⟩
theorem pX0_init_13 : At cX0_init 13 (.iconst 0) 1 14 := ⟨tX0_init_0_ok (13, .iconst 0, 1) (List.mem_of_getElem? (i := 6) rfl), rfl⟩
theorem pX0_init_14 : At cX0_init 14 (.istore_n 1) 1 15 := ⟨tX0_init_0_ok (14, .istore_n 1, 1) (List.mem_of_getElem? (i := 7) rfl), rfl⟩
theorem pX0_init_15 : At cX0_init 15 (.iload_n 1) 1 16 := ⟨tX0_init_0_ok (15, .iload_n 1, 1) (List.mem_of_getElem? (i := 8) rfl), rfl⟩
theorem pX0_init_16 : At cX0_init 16 (.bipush 8) 2 18 := ⟨tX0_init_0_ok (16, .bipush 8, 2) (List.mem_of_getElem? (i := 9) rfl), rfl⟩
theorem pX0_init_18 : Bt cX0_init 18 (.if_icmp .ge 22) 22 40 21 := ⟨tX0_init_0_ok (18, .if_icmp .ge 22, 3) (List.mem_of_getElem? (i := 10) rfl), by decide, rfl⟩
theorem pX0_init_21 : At cX0_init 21 (.aload_n 0) 1 22 := ⟨tX0_init_0_ok (21, .aload_n 0, 1) (List.mem_of_getElem? (i := 11) rfl), rfl⟩
theorem pX0_init_22 : At cX0_init 22 (.getfield 11) 3 25 := ⟨tX0_init_0_ok (22, .getfield 11, 3) (List.mem_of_getElem? (i := 12) rfl), rfl⟩
theorem pX0_init_25 : At cX0_init 25 (.iload_n 1) 1 26 := ⟨tX0_init_0_ok (25, .iload_n 1, 1) (List.mem_of_getElem? (i := 13) rfl), rfl⟩
theorem pX0_init_26 : At cX0_init 26 (.new 9) 3 29 := ⟨tX0_init_0_ok (26, .new 9, 3) (List.mem_of_getElem? (i := 14) rfl), rfl⟩
theorem pX0_init_29 : At cX0_init 29 (.dup) 1 30 := ⟨tX0_init_0_ok (29, .dup, 1) (List.mem_of_getElem? (i := 15) rfl), rfl⟩
theorem pX0_init_30 : At cX0_init 30 (.invokespecial 17) 3 33 := ⟨tX0_init_0_ok (30, .invokespecial 17, 3) (List.mem_of_getElem? (i := 16) rfl), rfl⟩
theorem pX0_init_33 : At cX0_init 33 (.aastore) 1 34 := ⟨tX0_init_0_ok (33, .aastore, 1) (List.mem_of_getElem? (i := 17) rfl), rfl⟩
theorem pX0_init_34 : At cX0_init 34 (.iinc 1 1) 3 37 := ⟨tX0_init_0_ok (34, .iinc 1 1, 3) (List.mem_of_getElem? (i := 18) rfl), rfl⟩
theorem pX0_init_37 : Bt cX0_init 37 (.goto (-22)) (-22) 15 40 := ⟨tX0_init_0_ok (37, .goto (-22), 3) (List.mem_of_getElem? (i := 19) rfl), by decide, rfl⟩
theorem pX0_init_40 : At cX0_init 40 (.return_) 1 41 := ⟨tX0_init_0_ok (40, .return_, 1) (List.mem_of_getElem? (i := 20) rfl), rfl⟩
def tX1_init_0 : List (Nat × Instr × Nat) := [(0, .aload_n 0, 1), (1, .invokespecial 3, 3), (4, .return_, 1)]
theorem tX1_init_0_ok : ∀ q ∈ tX1_init_0, decode cX1_init q.1 = .ok (q.2.1, q.2.2) := by decide +kernel
theorem pX1_init_0 : At cX1_init 0 (.aload_n 0) 1 1 := ⟨tX1_init_0_ok (0, .aload_n 0, 1) (List.mem_of_getElem? (i := 0) rfl), rfl⟩
theorem pX1_init_1 : At cX1_init 1 (.invokespecial 3) 3 4 := ⟨tX1_init_0_ok (1, .invokespecial 3, 3) (List.mem_of_getElem? (i := 1) rfl), rfl⟩
theorem pX1_init_4 : At cX1_init 4 (.return_) 1 5 := ⟨tX1_init_0_ok (4, .return_, 1) (List.mem_of_getElem? (i := 2) rfl), rfl⟩
def tX2_init_0 : List (Nat × Instr × Nat) := [(0, .aload_n 0, 1), (1, .invokespecial 3, 3), (4, .aload_n 0, 1), (5, .bipush 50, 2), (7, .newarray .int, 2), (9, .putfield 9, 3), (12, .aload_n 0, 1), (13, .bipush 50, 2), (15, .newarray .int, 2), (17, .putfield 15, 3), (20, .aload_n 0, 1), (21, .iload_n 1, 1), (22, .putfield 18, 3), (25, .return_, 1)]
theorem tX2_init_0_ok : ∀ q ∈ tX2_init_0, decode cX2_init q.1 = .ok (q.2.1, q.2.2) := by decide +kernel
theorem pX2_init_0 : At cX2_init 0 (.aload_n 0) 1 1 := ⟨tX2_init_0_ok (0, .aload_n 0, 1) (List.mem_of_getElem? (i := 0) rfl), rfl⟩
theorem pX2_init_1 : At cX2_init 1 (.invokespecial 3) 3 4 := ⟨tX2_init_0_ok (1, .invokespecial 3, 3) (List.mem_of_getElem? (i := 1) rfl), rfl⟩
theorem pX2_init_4 : At cX2_init 4 (.aload_n 0) 1 5 := ⟨tX2_init_0_ok (4, .aload_n 0, 1) (List.mem_of_getElem? (i := 2) rfl), rfl⟩
theorem pX2_init_5 : At cX2_init 5 (.bipush 50) 2 7 := ⟨tX2_init_0_ok (5, .bipush 50, 2) (List.mem_of_getElem? (i := 3) rfl), rfl⟩
theorem pX2_init_7 : At cX2_init 7 (.newarray .int) 2 9 := ⟨tX2_init_0_ok (7, .newarray .int, 2) (List.mem_of_getElem? (i := 4) rfl), rfl⟩
theorem pX2_init_9 : At cX2_init 9 (.putfield 9) 3 12 := ⟨tX2_init_0_ok (9, .putfield 9, 3) (List.mem_of_getElem? (i := 5) rfl), rfl⟩
theorem pX2_init_12 : At cX2_init 12 (.aload_n 0) 1 13 := ⟨tX2_init_0_ok (12, .aload_n 0, 1) (List.mem_of_getElem? (i := 6) rfl), rfl⟩
theorem pX2_init_13 : At cX2_init 13 (.bipush 50) 2 15 := ⟨tX2_init_0_ok (13, .bipush 50, 2) (List.mem_of_getElem? (i := 7) rfl), rfl⟩
theorem pX2_init_15 : At cX2_init 15 (.newarray .int) 2 17 := ⟨tX2_init_0_ok (15, .newarray .int, 2) (List.mem_of_getElem? (i := 8) rfl), rfl⟩
theorem pX2_init_17 : At cX2_init 17 (.putfield 15) 3 20 := ⟨tX2_init_0_ok (17, .putfield 15, 3) (List.mem_of_getElem? (i := 9) rfl), rfl⟩
theorem pX2_init_20 : At cX2_init 20 (.aload_n 0) 1 21 := ⟨tX2_init_0_ok (20, .aload_n 0, 1) (List.mem_of_getElem? (i := 10) rfl), rfl⟩
theorem pX2_init_21 : At cX2_init 21 (.iload_n 1) 1 22 := ⟨tX2_init_0_ok (21, .iload_n 1, 1) (List.mem_of_getElem? (i := 11) rfl), rfl⟩
theorem pX2_init_22 : At cX2_init 22 (.putfield 18) 3 25 := ⟨tX2_init_0_ok (22, .putfield 18, 3) (List.mem_of_getElem? (i := 12) rfl), rfl⟩
theorem pX2_init_25 : At cX2_init 25 (.return_) 1 26 := ⟨tX2_init_0_ok (25, .return_, 1) (List.mem_of_getElem? (i := 13) rfl), rfl⟩
def tX3_init_0 : List (Nat × Instr × Nat) := [(0, .aload_n 0, 1), (1, .invokespecial 3, 3), (4, .aload_n 0, 1), (5, .bipush 8, 2), (7, .newarray .int, 2), (9, .putfield 9, 3), (12, .aload_n 0, 1), (13, .bipush 8, 2), (15, .newarray .int, 2), (17, .putfield 15, 3), (20, .aload_n 0, 1), (21, .bipush 8, 2), (23, .newarray .int, 2), (25, .putfield 18, 3), (28, .aload_n 0, 1), (29, .bipush 8, 2), (31, .newarray .int, 2), (33, .putfield 21, 3), (36, .aload_n 0, 1), (37, .bipush 8, 2), (39, .newarray .int, 2), (41, .putfield 24, 3), (44, .return_, 1)]
theorem tX3_init_0_ok : ∀ q ∈ tX3_init_0, decode cX3_init q.1 = .ok (q.2.1, q.2.2) := by decide +kernel
theorem pX3_init_0 : At cX3_init 0 (.aload_n 0) 1 1 := ⟨tX3_init_0_ok (0, .aload_n 0, 1) (List.mem_of_getElem? (i := 0) rfl), rfl⟩
theorem pX3_init_1 : At cX3_init 1 (.invokespecial 3) 3 4 := ⟨tX3_init_0_ok (1, .invokespecial 3, 3) (List.mem_of_getElem? (i := 1) rfl), rfl⟩
theorem pX3_init_4 : At cX3_init 4 (.aload_n 0) 1 5 := ⟨tX3_init_0_ok (4, .aload_n 0, 1) (List.mem_of_getElem? (i := 2) rfl), rfl⟩
theorem pX3_init_5 : At cX3_init 5 (.bipush 8) 2 7 := ⟨tX3_init_0_ok (5, .bipush 8, 2) (List.mem_of_getElem? (i := 3) rfl), rfl⟩
theorem pX3_init_7 : At cX3_init 7 (.newarray .int) 2 9 := ⟨tX3_init_0_ok (7, .newarray .int, 2) (List.mem_of_getElem? (i := 4) rfl), rfl⟩
theorem pX3_init_9 : At cX3_init 9 (.putfield 9) 3 12 := ⟨tX3_init_0_ok (9, .putfield 9, 3) (List.mem_of_getElem? (i := 5) rfl), rfl⟩
theorem pX3_init_12 : At cX3_init 12 (.aload_n 0) 1 13 := ⟨tX3_init_0_ok (12, .aload_n 0, 1) (List.mem_of_getElem? (i := 6) rfl), rfl⟩
theorem pX3_init_13 : At cX3_init 13 (.bipush 8) 2 15 := ⟨tX3_init_0_ok (13, .bipush 8, 2) (List.mem_of_getElem? (i := 7) rfl), rfl⟩
theorem pX3_init_15 : At cX3_init 15 (.newarray .int) 2 17 := ⟨tX3_init_0_ok (15, .newarray .int, 2) (List.mem_of_getElem? (i := 8) rfl), rfl⟩
theorem pX3_init_17 : At cX3_init 17 (.putfield 15) 3 20 := ⟨tX3_init_0_ok (17, .putfield 15, 3) (List.mem_of_getElem? (i := 9) rfl), rfl⟩
theorem pX3_init_20 : At cX3_init 20 (.aload_n 0) 1 21 := ⟨tX3_init_0_ok (20, .aload_n 0, 1) (List.mem_of_getElem? (i := 10) rfl), rfl⟩
theorem pX3_init_21 : At cX3_init 21 (.bipush 8) 2 23 := ⟨tX3_init_0_ok (21, .bipush 8, 2) (List.mem_of_getElem? (i := 11) rfl), rfl⟩
theorem pX3_init_23 : At cX3_init 23 (.newarray .int) 2 25 := ⟨tX3_init_0_ok (23, .newarray .int, 2) (List.mem_of_getElem? (i := 12) rfl), rfl⟩
theorem pX3_init_25 : At cX3_init 25 (.putfield 18) 3 28 := ⟨tX3_init_0_ok (25, .putfield 18, 3) (List.mem_of_getElem? (i := 13) rfl), rfl⟩
theorem pX3_init_28 : At cX3_init 28 (.aload_n 0) 1 29 := ⟨tX3_init_0_ok (28, .aload_n 0, 1) (List.mem_of_getElem? (i := 14) rfl), rfl⟩
theorem pX3_init_29 : At cX3_init 29 (.bipush 8) 2 31 := ⟨tX3_init_0_ok (29, .bipush 8, 2) (List.mem_of_getElem? (i := 15) rfl), rfl⟩
theorem pX3_init_31 : At cX3_init 31 (.newarray .int) 2 33 := ⟨tX3_init_0_ok (31, .newarray .int, 2) (List.mem_of_getElem? (i := 16) rfl), rfl⟩
theorem pX3_init_33 : At cX3_init 33 (.putfield 21) 3 36 := ⟨tX3_init_0_ok (33, .putfield 21, 3) (List.mem_of_getElem? (i := 17) rfl), rfl⟩
theorem pX3_init_36 : At cX3_init 36 (.aload_n 0) 1 37 := ⟨tX3_init_0_ok (36, .aload_n 0, 1) (List.mem_of_getElem? (i := 18) rfl), rfl⟩
theorem pX3_init_37 : At cX3_init 37 (.bipush 8) 2 39 := ⟨tX3_init_0_ok (37, .bipush 8, 2) (List.mem_of_getElem? (i := 19) rfl), rfl⟩
theorem pX3_init_39 : At cX3_init 39 (.newarray .int) 2 41 := ⟨tX3_init_0_ok (39, .newarray .int, 2) (List.mem_of_getElem? (i := 20) rfl), rfl⟩
theorem pX3_init_41 : At cX3_init 41 (.putfield 24) 3 44 := ⟨tX3_init_0_ok (41, .putfield 24, 3) (List.mem_of_getElem? (i := 21) rfl), rfl⟩
theorem pX3_init_44 : At cX3_init 44 (.return_) 1 45 := ⟨tX3_init_0_ok (44, .return_, 1) (List.mem_of_getElem? (i := 22) rfl), rfl⟩
def tX4_init_0 : List (Nat × Instr × Nat) := [(0, .aload_n 0, 1), (1, .invokespecial 3, 3), (4, .aload_n 0, 1), (5, .bipush 50, 2), (7, .newarray .int, 2), (9, .putfield 9, 3), (12, .aload_n 0, 1), (13, .iconst 0, 1), (14, .newarray .byte, 2), (16, .putfield 15, 3), (19, .aload_n 0, 1), (20, .ldc 19, 2), (22, .putfield 21, 3), (25, .return_, 1)]
theorem tX4_init_0_ok : ∀ q ∈ tX4_init_0, decode cX4_init q.1 = .ok (q.2.1, q.2.2) := by decide +kernel
theorem pX4_init_0 : At cX4_init 0 (.aload_n 0) 1 1 := ⟨tX4_init_0_ok (0, .aload_n 0, 1) (List.mem_of_getElem? (i := 0) rfl), rfl⟩
theorem pX4_init_1 : At cX4_init 1 (.invokespecial 3) 3 4 := ⟨tX4_init_0_ok (1, .invokespecial 3, 3) (List.mem_of_getElem? (i := 1) rfl), rfl⟩
theorem pX4_init_4 : At cX4_init 4 (.aload_n 0) 1 5 := ⟨tX4_init_0_ok (4, .aload_n 0, 1) (List.mem_of_getElem? (i := 2) rfl), rfl⟩
theorem pX4_init_5 : At cX4_init 5 (.bipush 50) 2 7 := ⟨tX4_init_0_ok (5, .bipush 50, 2) (List.mem_of_getElem? (i := 3) rfl), rfl⟩
theorem pX4_init_7 : At cX4_init 7 (.newarray .int) 2 9 := ⟨tX4_init_0_ok (7, .newarray .int, 2) (List.mem_of_getElem? (i := 4) rfl), rfl⟩
theorem pX4_init_9 : At cX4_init 9 (.putfield 9) 3 12 := ⟨tX4_init_0_ok (9, .putfield 9, 3) (List.mem_of_getElem? (i := 5) rfl), rfl⟩
theorem pX4_init_12 : At cX4_init 12 (.aload_n 0) 1 13 := ⟨tX4_init_0_ok (12, .aload_n 0, 1) (List.mem_of_getElem? (i := 6) rfl), rfl⟩
theorem pX4_init_13 : At cX4_init 13 (.iconst 0) 1 14 := ⟨tX4_init_0_ok (13, .iconst 0, 1) (List.mem_of_getElem? (i := 7) rfl), rfl⟩
theorem pX4_init_14 : At cX4_init 14 (.newarray .byte) 2 16 := ⟨tX4_init_0_ok (14, .newarray .byte, 2) (List.mem_of_getElem? (i := 8) rfl), rfl⟩
theorem pX4_init_16 : At cX4_init 16 (.putfield 15) 3 19 := ⟨tX4_init_0_ok (16, .putfield 15, 3) (List.mem_of_getElem? (i := 9) rfl), rfl⟩
theorem pX4_init_19 : At cX4_init 19 (.aload_n 0) 1 20 := ⟨tX4_init_0_ok (19, .aload_n 0, 1) (List.mem_of_getElem? (i := 10) rfl), rfl⟩
theorem pX4_init_20 : At cX4_init 20 (.ldc 19) 2 22 := ⟨tX4_init_0_ok (20, .ldc 19, 2) (List.mem_of_getElem? (i := 11) rfl), rfl⟩
theorem pX4_init_22 : At cX4_init 22 (.putfield 21) 3 25 := ⟨tX4_init_0_ok (22, .putfield 21, 3) (List.mem_of_getElem? (i := 12) rfl), rfl⟩
theorem pX4_init_25 : At cX4_init 25 (.return_) 1 26 := ⟨tX4_init_0_ok (25, .return_, 1) (List.mem_of_getElem? (i := 13) rfl), rfl⟩
def tX5_init_0 : List (Nat × Instr × Nat) := [(0, .aload_n 0, 1), (1, .invokespecial 3, 3), (4, .aload_n 0, 1), (5, .bipush 12, 2), (7, .putfield 9, 3), (10, .aload_n 0, 1), (11, .iconst 2, 1), (12, .newarray .int, 2), (14, .dup, 1), (15, .iconst 0, 1), (16, .iconst 1, 1), (17, .iastore, 1), (18, .dup, 1), (19, .iconst 1, 1), (20, .iconst (-1), 1), (21, .iastore, 1), (22, .putfield 15, 3), (25, .aload_n 0, 1), (26, .iconst 1, 1), (27, .putfield 19, 3), (30, .aload_n 0, 1), (31, .bipush 50, 2), (33, .newarray .byte, 2), (35, .putfield 22, 3), (38, .aload_n 0, 1), (39, .bipush 20, 2), (41, .newarray .int, 2), (43, .putfield 26, 3), (46, .aload_n 0, 1), (47, .new 29, 3), (50, .dup, 1), (51, .iconst 0, 1), (52, .invokespecial 31, 3), (55, .putfield 34, 3), (58, .aload_n 0, 1), (59, .new 29, 3), (62, .dup, 1), (63, .iconst 1, 1), (64, .invokespecial 31, 3), (67, .putfield 38, 3), (70, .aload_n 0, 1), (71, .sipush 410, 3), (74, .newarray .byte, 2), (76, .putfield 41, 3), (79, .aload_n 0, 1), (80, .invokevirtual 44, 3), (83, .return_, 1)]
theorem tX5_init_0_ok : ∀ q ∈ tX5_init_0, decode cX5_init q.1 = .ok (q.2.1, q.2.2) := by decide +kernel
theorem pX5_init_0 : At cX5_init 0 (.aload_n 0) 1 1 := ⟨tX5_init_0_ok (0, .aload_n 0, 1) (List.mem_of_getElem? (i := 0) rfl), rfl⟩
theorem pX5_init_1 : At cX5_init 1 (.invokespecial 3) 3 4 := ⟨tX5_init_0_ok (1, .invokespecial 3, 3) (List.mem_of_getElem? (i := 1) rfl), rfl⟩
theorem pX5_init_4 : At cX5_init 4 (.aload_n 0) 1 5 := ⟨tX5_init_0_ok (4, .aload_n 0, 1) (List.mem_of_getElem? (i := 2) rfl), rfl⟩
theorem pX5_init_5 : At cX5_init 5 (.bipush 12) 2 7 := ⟨tX5_init_0_ok (5, .bipush 12, 2) (List.mem_of_getElem? (i := 3) rfl), rfl⟩
theorem pX5_init_7 : At cX5_init 7 (.putfield 9) 3 10 := ⟨tX5_init_0_ok (7, .putfield 9, 3) (List.mem_of_getElem? (i := 4) rfl), rfl⟩
theorem pX5_init_10 : At cX5_init 10 (.aload_n 0) 1 11 := ⟨tX5_init_0_ok (10, .aload_n 0, 1) (List.mem_of_getElem? (i := 5) rfl), rfl⟩
theorem pX5_init_11 : At cX5_init 11 (.iconst 2) 1 12 := ⟨tX5_init_0_ok (11, .iconst 2, 1) (List.mem_of_getElem? (i := 6) rfl), rfl⟩
theorem pX5_init_12 : At cX5_init 12 (.newarray .int) 2 14 := ⟨tX5_init_0_ok (12, .newarray .int, 2) (List.mem_of_getElem? (i := 7) rfl), rfl⟩
theorem pX5_init_14 : At cX5_init 14 (.dup) 1 15 := ⟨tX5_init_0_ok (14, .dup, 1) (List.mem_of_getElem? (i := 8) rfl), rfl⟩
theorem pX5_init_15 : At cX5_init 15 (.iconst 0) 1 16 := ⟨tX5_init_0_ok (15, .iconst 0, 1) (List.mem_of_getElem? (i := 9) rfl), rfl⟩
theorem pX5_init_16 : At cX5_init 16 (.iconst 1) 1 17 := ⟨tX5_init_0_ok (16, .iconst 1, 1) (List.mem_of_getElem? (i := 10) rfl), rfl⟩
theorem pX5_init_17 : At cX5_init 17 (.iastore) 1 18 := ⟨tX5_init_0_ok (17, .iastore, 1) (List.mem_of_getElem? (i := 11) rfl), rfl⟩
theorem pX5_init_18 : At cX5_init 18 (.dup) 1 19 := ⟨tX5_init_0_ok (18, .dup, 1) (List.mem_of_getElem? (i := 12) rfl), rfl⟩
theorem pX5_init_19 : At cX5_init 19 (.iconst 1) 1 20 := ⟨tX5_init_0_ok (19, .iconst 1, 1) (List.mem_of_getElem? (i := 13) rfl), rfl⟩
theorem pX5_init_20 : At cX5_init 20 (.iconst (-1)) 1 21 := ⟨tX5_init_0_ok (20, .iconst (-1), 1) (List.mem_of_getElem? (i := 14) rfl), rfl⟩
theorem pX5_init_21 : At cX5_init 21 (.iastore) 1 22 := ⟨tX5_init_0_ok (21, .iastore, 1) (List.mem_of_getElem? (i := 15) rfl), rfl⟩
theorem pX5_init_22 : At cX5_init 22 (.putfield 15) 3 25 := ⟨tX5_init_0_ok (22, .putfield 15, 3) (List.mem_of_getElem? (i := 16) rfl), rfl⟩
theorem pX5_init_25 : At cX5_init 25 (.aload_n 0) 1 26 := ⟨tX5_init_0_ok (25, .aload_n 0, 1) (List.mem_of_getElem? (i := 17) rfl), rfl⟩
theorem pX5_init_26 : At cX5_init 26 (.iconst 1) 1 27 := ⟨tX5_init_0_ok (26, .iconst 1, 1) (List.mem_of_getElem? (i := 18) rfl), rfl⟩
theorem pX5_init_27 : At cX5_init 27 (.putfield 19) 3 30 := ⟨tX5_init_0_ok (27, .putfield 19, 3) (List.mem_of_getElem? (i := 19) rfl), rfl⟩
theorem pX5_init_30 : At cX5_init 30 (.aload_n 0) 1 31 := ⟨tX5_init_0_ok (30, .aload_n 0, 1) (List.mem_of_getElem? (i := 20) rfl), rfl⟩
theorem pX5_init_31 : At cX5_init 31 (.bipush 50) 2 33 := ⟨tX5_init_0_ok (31, .bipush 50, 2) (List.mem_of_getElem? (i := 21) rfl), rfl⟩
theorem pX5_init_33 : At cX5_init 33 (.newarray .byte) 2 35 := ⟨tX5_init_0_ok (33, .newarray .byte, 2) (List.mem_of_getElem? (i := 22) rfl), rfl⟩
theorem pX5_init_35 : At cX5_init 35 (.putfield 22) 3 38 := ⟨tX5_init_0_ok (35, .putfield 22, 3) (List.mem_of_getElem? (i := 23) rfl), rfl⟩
theorem pX5_init_38 : At cX5_init 38 (.aload_n 0) 1 39 := ⟨tX5_init_0_ok (38, .aload_n 0, 1) (List.mem_of_getElem? (i := 24) rfl), rfl⟩
theorem pX5_init_39 : At cX5_init 39 (.bipush 20) 2 41 := ⟨tX5_init_0_ok (39, .bipush 20, 2) (List.mem_of_getElem? (i := 25) rfl), rfl⟩
theorem pX5_init_41 : At cX5_init 41 (.newarray .int) 2 43 := ⟨tX5_init_0_ok (41, .newarray .int, 2) (List.mem_of_getElem? (i := 26) rfl), rfl⟩
theorem pX5_init_43 : At cX5_init 43 (.putfield 26) 3 46 := ⟨tX5_init_0_ok (43, .putfield 26, 3) (List.mem_of_getElem? (i := 27) rfl), rfl⟩
theorem pX5_init_46 : At cX5_init 46 (.aload_n 0) 1 47 := ⟨tX5_init_0_ok (46, .aload_n 0, 1) (List.mem_of_getElem? (i := 28) rfl), rfl⟩
theorem pX5_init_47 : At cX5_init 47 (.new 29) 3 50 := ⟨tX5_init_0_ok (47, .new 29, 3) (List.mem_of_getElem? (i := 29) rfl), rfl⟩
theorem pX5_init_50 : At cX5_init 50 (.dup) 1 51 := ⟨tX5_init_0_ok (50, .dup, 1) (List.mem_of_getElem? (i := 30) rfl), rfl⟩
theorem pX5_init_51 : At cX5_init 51 (.iconst 0) 1 52 := ⟨tX5_init_0_ok (51, .iconst 0, 1) (List.mem_of_getElem? (i := 31) rfl), rfl⟩
theorem pX5_init_52 : At cX5_init 52 (.invokespecial 31) 3 55 := ⟨tX5_init_0_ok (52, .invokespecial 31, 3) (List.mem_of_getElem? (i := 32) rfl), rfl⟩
theorem pX5_init_55 : At cX5_init 55 (.putfield 34) 3 58 := ⟨tX5_init_0_ok (55, .putfield 34, 3) (List.mem_of_getElem? (i := 33) rfl), rfl⟩
theorem pX5_init_58 : At cX5_init 58 (.aload_n 0) 1 59 := ⟨tX5_init_0_ok (58, .aload_n 0, 1) (List.mem_of_getElem? (i := 34) rfl), rfl⟩
theorem pX5_init_59 : At cX5_init 59 (.new 29) 3 62 := ⟨tX5_init_0_ok (59, .new 29, 3) (List.mem_of_getElem? (i := 35) rfl), rfl⟩
theorem pX5_init_62 : At cX5_init 62 (.dup) 1 63 := ⟨tX5_init_0_ok (62, .dup, 1) (List.mem_of_getElem? (i := 36) rfl), rfl⟩
theorem pX5_init_63 : At cX5_init 63 (.iconst 1) 1 64 := ⟨tX5_init_0_ok (63, .iconst 1, 1) (List.mem_of_getElem? (i := 37) rfl), rfl⟩
theorem pX5_init_64 : At cX5_init 64 (.invokespecial 31) 3 67 := ⟨tX5_init_0_ok (64, .invokespecial 31, 3) (List.mem_of_getElem? (i := 38) rfl), rfl⟩
theorem pX5_init_67 : At cX5_init 67 (.putfield 38) 3 70 := ⟨tX5_init_0_ok (67, .putfield 38, 3) (List.mem_of_getElem? (i := 39) rfl), rfl⟩
theorem pX5_init_70 : At cX5_init 70 (.aload_n 0) 1 71 := ⟨tX5_init_0_ok (70, .aload_n 0, 1) (List.mem_of_getElem? (i := 40) rfl), rfl⟩
theorem pX5_init_71 : At cX5_init 71 (.sipush 410) 3 74 := ⟨tX5_init_0_ok (71, .sipush 410, 3) (List.mem_of_getElem? (i := 41) rfl), rfl⟩
theorem pX5_init_74 : At cX5_init 74 (.newarray .byte) 2 76 := ⟨tX5_init_0_ok (74, .newarray .byte, 2) (List.mem_of_getElem? (i := 42) rfl), rfl⟩
theorem pX5_init_76 : At cX5_init 76 (.putfield 41) 3 79 := ⟨tX5_init_0_ok (76, .putfield 41, 3) (List.mem_of_getElem? (i := 43) rfl), rfl⟩
theorem pX5_init_79 : At cX5_init 79 (.aload_n 0) 1 80 := ⟨tX5_init_0_ok (79, .aload_n 0, 1) (List.mem_of_getElem? (i := 44) rfl), rfl⟩
theorem pX5_init_80 : At cX5_init 80 (.invokevirtual 44) 3 83 := ⟨tX5_init_0_ok (80, .invokevirtual 44, 3) (List.mem_of_getElem? (i := 45) rfl), rfl⟩
theorem pX5_init_83 : At cX5_init 83 (.return_) 1 84 := ⟨tX5_init_0_ok (83, .return_, 1) (List.mem_of_getElem? (i := 46) rfl), rfl⟩
def tX6_init_0 : List (Nat × Instr × Nat) := [(0, .aload_n 0, 1), (1, .invokespecial 3, 3), (4, .aload_n 0, 1), (5, .bipush 40, 2), (7, .newarray .int, 2), (9, .putfield 9, 3), (12, .return_, 1)]
theorem tX6_init_0_ok : ∀ q ∈ tX6_init_0, decode cX6_init q.1 = .ok (q.2.1, q.2.2) := by decide +kernel
theorem pX6_init_0 : At cX6_init 0 (.aload_n 0) 1 1 := ⟨tX6_init_0_ok (0, .aload_n 0, 1) (List.mem_of_getElem? (i := 0) rfl), rfl⟩
theorem pX6_init_1 : At cX6_init 1 (.invokespecial 3) 3 4 := ⟨tX6_init_0_ok (1, .invokespecial 3, 3) (List.mem_of_getElem? (i := 1) rfl), rfl⟩
theorem pX6_init_4 : At cX6_init 4 (.aload_n 0) 1 5 := ⟨tX6_init_0_ok (4, .aload_n 0, 1) (List.mem_of_getElem? (i := 2) rfl), rfl⟩
theorem pX6_init_5 : At cX6_init 5 (.bipush 40) 2 7 := ⟨tX6_init_0_ok (5, .bipush 40, 2) (List.mem_of_getElem? (i := 3) rfl), rfl⟩
theorem pX6_init_7 : At cX6_init 7 (.newarray .int) 2 9 := ⟨tX6_init_0_ok (7, .newarray .int, 2) (List.mem_of_getElem? (i := 4) rfl), rfl⟩
theorem pX6_init_9 : At cX6_init 9 (.putfield 9) 3 12 := ⟨tX6_init_0_ok (9, .putfield 9, 3) (List.mem_of_getElem? (i := 5) rfl), rfl⟩
theorem pX6_init_12 : At cX6_init 12 (.return_) 1 13 := ⟨tX6_init_0_ok (12, .return_, 1) (List.mem_of_getElem? (i := 6) rfl), rfl⟩
def tX7_init_0 : List (Nat × Instr × Nat) := [(0, .aload_n 0, 1), (1, .invokespecial 3, 3), (4, .aload_n 0, 1), (5, .new 9, 3), (8, .dup, 1), (9, .invokespecial 11, 3), (12, .putfield 12, 3), (15, .aload_n 0, 1), (16, .aload_n 1, 1), (17, .putfield 18, 3), (20, .return_, 1)]
theorem tX7_init_0_ok : ∀ q ∈ tX7_init_0, decode cX7_init q.1 = .ok (q.2.1, q.2.2) := by decide +kernel
theorem pX7_init_0 : At cX7_init 0 (.aload_n 0) 1 1 := ⟨tX7_init_0_ok (0, .aload_n 0, 1) (List.mem_of_getElem? (i := 0) rfl), rfl⟩
theorem pX7_init_1 : At cX7_init 1 (.invokespecial 3) 3 4 := ⟨tX7_init_0_ok (1, .invokespecial 3, 3) (List.mem_of_getElem? (i := 1) rfl), rfl⟩
theorem pX7_init_4 : At cX7_init 4 (.aload_n 0) 1 5 := ⟨tX7_init_0_ok (4, .aload_n 0, 1) (List.mem_of_getElem? (i := 2) rfl), rfl⟩
theorem pX7_init_5 : At cX7_init 5 (.new 9) 3 8 := ⟨tX7_init_0_ok (5, .new 9, 3) (List.mem_of_getElem? (i := 3) rfl), rfl⟩
theorem pX7_init_8 : At cX7_init 8 (.dup) 1 9 := ⟨tX7_init_0_ok (8, .dup, 1) (List.mem_of_getElem? (i := 4) rfl), rfl⟩
theorem pX7_init_9 : At cX7_init 9 (.invokespecial 11) 3 12 := ⟨tX7_init_0_ok (9, .invokespecial 11, 3) (List.mem_of_getElem? (i := 5) rfl), rfl⟩
theorem pX7_init_12 : At cX7_init 12 (.putfield 12) 3 15 := ⟨tX7_init_0_ok (12, .putfield 12, 3) (List.mem_of_getElem? (i := 6) rfl), rfl⟩
theorem pX7_init_15 : At cX7_init 15 (.aload_n 0) 1 16 := ⟨tX7_init_0_ok (15, .aload_n 0, 1) (List.mem_of_getElem? (i := 7) rfl), rfl⟩
theorem pX7_init_16 : At cX7_init 16 (.aload_n 1) 1 17 := ⟨tX7_init_0_ok (16, .aload_n 1, 1) (List.mem_of_getElem? (i := 8) rfl), rfl⟩
theorem pX7_init_17 : At cX7_init 17 (.putfield 18) 3 20 := ⟨tX7_init_0_ok (17, .putfield 18, 3) (List.mem_of_getElem? (i := 9) rfl), rfl⟩
theorem pX7_init_20 : At cX7_init 20 (.return_) 1 21 := ⟨tX7_init_0_ok (20, .return_, 1) (List.mem_of_getElem? (i := 10) rfl), rfl⟩
def tX8_init_0 : List (Nat × Instr × Nat) := [(0, .aload_n 0, 1), (1, .invokespecial 3, 3), (4, .aload_n 0, 1), (5, .bipush 40, 2), (7, .newarray .int, 2), (9, .putfield 11, 3), (12, .return_, 1)]
theorem tX8_init_0_ok : ∀ q ∈ tX8_init_0, decode cX8_init q.1 = .ok (q.2.1, q.2.2) := by decide +kernel
theorem pX8_init_0 : At cX8_init 0 (.aload_n 0) 1 1 := ⟨tX8_init_0_ok (0, .aload_n 0, 1) (List.mem_of_getElem? (i := 0) rfl), rfl⟩
theorem pX8_init_1 : At cX8_init 1 (.invokespecial 3) 3 4 := ⟨tX8_init_0_ok (1, .invokespecial 3, 3) (List.mem_of_getElem? (i := 1) rfl), rfl⟩
theorem pX8_init_4 : At cX8_init 4 (.aload_n 0) 1 5 := ⟨tX8_init_0_ok (4, .aload_n 0, 1) (List.mem_of_getElem? (i := 2) rfl), rfl⟩
theorem pX8_init_5 : At cX8_init 5 (.bipush 40) 2 7 := ⟨tX8_init_0_ok (5, .bipush 40, 2) (List.mem_of_getElem? (i := 3) rfl), rfl⟩
theorem pX8_init_7 : At cX8_init 7 (.newarray .int) 2 9 := ⟨tX8_init_0_ok (7, .newarray .int, 2) (List.mem_of_getElem? (i := 4) rfl), rfl⟩
theorem pX8_init_9 : At cX8_init 9 (.putfield 11) 3 12 := ⟨tX8_init_0_ok (9, .putfield 11, 3) (List.mem_of_getElem? (i := 5) rfl), rfl⟩
theorem pX8_init_12 : At cX8_init 12 (.return_) 1 13 := ⟨tX8_init_0_ok (12, .return_, 1) (List.mem_of_getElem? (i := 6) rfl), rfl⟩
def tX10_init_0 : List (Nat × Instr × Nat) := [(0, .aload_n 0, 1), (1, .invokespecial 1, 3), (4, .aload_n 0, 1), (5, .sipush 322, 3), (8, .newarray .int, 2), (10, .putfield 9, 3), (13, .aload_n 0, 1), (14, .sipush 322, 3), (17, .newarray .int, 2), (19, .putfield 13, 3), (22, .aload_n 0, 1), (23, .bipush 6, 2), (25, .newarray .int, 2), (27, .putfield 16, 3), (30, .aload_n 0, 1), (31, .bipush 100, 2), (33, .newarray .int, 2), (35, .putfield 19, 3), (38, .aload_n 0, 1), (39, .bipush 50, 2), (41, .newarray .int, 2), (43, .putfield 22, 3), (46, .aload_n 0, 1), (47, .iconst 3, 1), (48, .newarray .int, 2), (50, .putfield 25, 3), (53, .aload_n 0, 1), (54, .bipush 42, 2), (56, .newarray .int, 2), (58, .putfield 28, 3), (61, .aload_n 0, 1), (62, .bipush 8, 2), (64, .newarray .int, 2), (66, .putfield 31, 3), (69, .aload_n 0, 1), (70, .bipush 8, 2), (72, .newarray .int, 2), (74, .putfield 34, 3), (77, .aload_n 0, 1), (78, .iconst 4, 1), (79, .newarray .int, 2), (81, .putfield 37, 3), (84, .aload_n 0, 1), (85, .iconst 4, 1), (86, .newarray .int, 2), (88, .putfield 40, 3), (91, .aload_n 0, 1), (92, .sipush 160, 3), (95, .newarray .int, 2), (97, .putfield 43, 3), (100, .aload_n 0, 1), (101, .bipush 40, 2), (103, .newarray .int, 2), (105, .putfield 46, 3), (108, .aload_n 0, 1), (109, .bipush 40, 2), (111, .newarray .int, 2), (113, .putfield 49, 3), (116, .aload_n 0, 1), (117, .getfield 9, 3), (120, .iconst 2, 1), (121, .bipush 12, 2), (123, .iastore, 1), (124, .aload_n 0, 1), (125, .getfield 9, 3), (128, .iconst 3, 1), (129, .iconst 1, 1), (130, .iastore, 1), (131, .aload_n 0, 1), (132, .getfield 9, 3), (135, .iconst 4, 1), (136, .iconst (-1), 1), (137, .iastore, 1), (138, .aload_n 0, 1), (139, .getfield 9, 3), (142, .iconst 5, 1), (143, .iconst 1, 1), (144, .iastore, 1), (145, .aload_n 0, 1), (146, .getfield 9, 3), (149, .bipush 120, 2), (151, .iconst (-1), 1), (152, .iastore, 1), (153, .aload_n 0, 1), (154, .getfield 9, 3), (157, .sipush 221, 3), (160, .iconst (-1), 1), (161, .iastore, 1), (162, .return_, 1)]
theorem tX10_init_0_ok : ∀ q ∈ tX10_init_0, decode cX10_init q.1 = .ok (q.2.1, q.2.2) := by decide +kernel
theorem pX10_init_0 : At cX10_init 0 (.aload_n 0) 1 1 := ⟨tX10_init_0_ok (0, .aload_n 0, 1) (List.mem_of_getElem? (i := 0) rfl), rfl⟩
theorem pX10_init_1 : At cX10_init 1 (.invokespecial 1) 3 4 := ⟨tX10_init_0_ok (1, .invokespecial 1, 3) (List.mem_of_getElem? (i := 1) rfl), rfl⟩
theorem pX10_init_4 : At cX10_init 4 (.aload_n 0) 1 5 := ⟨tX10_init_0_ok (4, .aload_n 0, 1) (List.mem_of_getElem? (i := 2) rfl), rfl⟩
theorem pX10_init_5 : At cX10_init 5 (.sipush 322) 3 8 := ⟨tX10_init_0_ok (5, .sipush 322, 3) (List.mem_of_getElem? (i := 3) rfl), rfl⟩
theorem pX10_init_8 : At cX10_init 8 (.newarray .int) 2 10 := ⟨tX10_init_0_ok (8, .newarray .int, 2) (List.mem_of_getElem? (i := 4) rfl), rfl⟩
theorem pX10_init_10 : At cX10_init 10 (.putfield 9) 3 13 := ⟨tX10_init_0_ok (10, .putfield 9, 3) (List.mem_of_getElem? (i := 5) rfl), rfl⟩
theorem pX10_init_13 : At cX10_init 13 (.aload_n 0) 1 14 := ⟨tX10_init_0_ok (13, .aload_n 0, 1) (List.mem_of_getElem? (i := 6) rfl), rfl⟩
theorem pX10_init_14 : At cX10_init 14 (.sipush 322) 3 17 := ⟨tX10_init_0_ok (14, .sipush 322, 3) (List.mem_of_getElem? (i := 7) rfl), rfl⟩
theorem pX10_init_17 : At cX10_init 17 (.newarray .int) 2 19 := ⟨tX10_init_0_ok (17, .newarray .int, 2) (List.mem_of_getElem? (i := 8) rfl), rfl⟩
theorem pX10_init_19 : At cX10_init 19 (.putfield 13) 3 22 := ⟨tX10_init_0_ok (19, .putfield 13, 3) (List.mem_of_getElem? (i := 9) rfl), rfl⟩
theorem pX10_init_22 : At cX10_init 22 (.aload_n 0) 1 23 := ⟨tX10_init_0_ok (22, .aload_n 0, 1) (List.mem_of_getElem? (i := 10) rfl), rfl⟩
theorem pX10_init_23 : At cX10_init 23 (.bipush 6) 2 25 := ⟨tX10_init_0_ok (23, .bipush 6, 2) (List.mem_of_getElem? (i := 11) rfl), rfl⟩
theorem pX10_init_25 : At cX10_init 25 (.newarray .int) 2 27 := ⟨tX10_init_0_ok (25, .newarray .int, 2) (List.mem_of_getElem? (i := 12) rfl), rfl⟩
theorem pX10_init_27 : At cX10_init 27 (.putfield 16) 3 30 := ⟨tX10_init_0_ok (27, .putfield 16, 3) (List.mem_of_getElem? (i := 13) rfl), rfl⟩
theorem pX10_init_30 : At cX10_init 30 (.aload_n 0) 1 31 := ⟨tX10_init_0_ok (30, .aload_n 0, 1) (List.mem_of_getElem? (i := 14) rfl), rfl⟩
theorem pX10_init_31 : At cX10_init 31 (.bipush 100) 2 33 := ⟨tX10_init_0_ok (31, .bipush 100, 2) (List.mem_of_getElem? (i := 15) rfl), rfl⟩
theorem pX10_init_33 : At cX10_init 33 (.newarray .int) 2 35 := ⟨tX10_init_0_ok (33, .newarray .int, 2) (List.mem_of_getElem? (i := 16) rfl), rfl⟩
theorem pX10_init_35 : At cX10_init 35 (.putfield 19) 3 38 := ⟨tX10_init_0_ok (35, .putfield 19, 3) (List.mem_of_getElem? (i := 17) rfl), rfl⟩
theorem pX10_init_38 : At cX10_init 38 (.aload_n 0) 1 39 := ⟨tX10_init_0_ok (38, .aload_n 0, 1) (List.mem_of_getElem? (i := 18) rfl), rfl⟩
theorem pX10_init_39 : At cX10_init 39 (.bipush 50) 2 41 := ⟨tX10_init_0_ok (39, .bipush 50, 2) (List.mem_of_getElem? (i := 19) rfl), rfl⟩
theorem pX10_init_41 : At cX10_init 41 (.newarray .int) 2 43 := ⟨tX10_init_0_ok (41, .newarray .int, 2) (List.mem_of_getElem? (i := 20) rfl), rfl⟩
theorem pX10_init_43 : At cX10_init 43 (.putfield 22) 3 46 := ⟨tX10_init_0_ok (43, .putfield 22, 3) (List.mem_of_getElem? (i := 21) rfl), rfl⟩
theorem pX10_init_46 : At cX10_init 46 (.aload_n 0) 1 47 := ⟨tX10_init_0_ok (46, .aload_n 0, 1) (List.mem_of_getElem? (i := 22) rfl), rfl⟩
theorem pX10_init_47 : At cX10_init 47 (.iconst 3) 1 48 := ⟨tX10_init_0_ok (47, .iconst 3, 1) (List.mem_of_getElem? (i := 23) rfl), rfl⟩
theorem pX10_init_48 : At cX10_init 48 (.newarray .int) 2 50 := ⟨tX10_init_0_ok (48, .newarray .int, 2) (List.mem_of_getElem? (i := 24) rfl), rfl⟩
theorem pX10_init_50 : At cX10_init 50 (.putfield 25) 3 53 := ⟨tX10_init_0_ok (50, .putfield 25, 3) (List.mem_of_getElem? (i := 25) rfl), rfl⟩
theorem pX10_init_53 : At cX10_init 53 (.aload_n 0) 1 54 := ⟨tX10_init_0_ok (53, .aload_n 0, 1) (List.mem_of_getElem? (i := 26) rfl), rfl⟩
theorem pX10_init_54 : At cX10_init 54 (.bipush 42) 2 56 := ⟨tX10_init_0_ok (54, .bipush 42, 2) (List.mem_of_getElem? (i := 27) rfl), rfl⟩
theorem pX10_init_56 : At cX10_init 56 (.newarray .int) 2 58 := ⟨tX10_init_0_ok (56, .newarray .int, 2) (List.mem_of_getElem? (i := 28) rfl), rfl⟩
theorem pX10_init_58 : At cX10_init 58 (.putfield 28) 3 61 := ⟨tX10_init_0_ok (58, .putfield 28, 3) (List.mem_of_getElem? (i := 29) rfl), rfl⟩
theorem pX10_init_61 : At cX10_init 61 (.aload_n 0) 1 62 := ⟨tX10_init_0_ok (61, .aload_n 0, 1) (List.mem_of_getElem? (i := 30) rfl), rfl⟩
theorem pX10_init_62 : At cX10_init 62 (.bipush 8) 2 64 := ⟨tX10_init_0_ok (62, .bipush 8, 2) (List.mem_of_getElem? (i := 31) rfl), rfl⟩
theorem pX10_init_64 : At cX10_init 64 (.newarray .int) 2 66 := ⟨tX10_init_0_ok (64, .newarray .int, 2) (List.mem_of_getElem? (i := 32) rfl), rfl⟩
theorem pX10_init_66 : At cX10_init 66 (.putfield 31) 3 69 := ⟨tX10_init_0_ok (66, .putfield 31, 3) (List.mem_of_getElem? (i := 33) rfl), rfl⟩
theorem pX10_init_69 : At cX10_init 69 (.aload_n 0) 1 70 := ⟨tX10_init_0_ok (69, .aload_n 0, 1) (List.mem_of_getElem? (i := 34) rfl), rfl⟩
theorem pX10_init_70 : At cX10_init 70 (.bipush 8) 2 72 := ⟨tX10_init_0_ok (70, .bipush 8, 2) (List.mem_of_getElem? (i := 35) rfl), rfl⟩
theorem pX10_init_72 : At cX10_init 72 (.newarray .int) 2 74 := ⟨tX10_init_0_ok (72, .newarray .int, 2) (List.mem_of_getElem? (i := 36) rfl), rfl⟩
theorem pX10_init_74 : At cX10_init 74 (.putfield 34) 3 77 := ⟨tX10_init_0_ok (74, .putfield 34, 3) (List.mem_of_getElem? (i := 37) rfl), rfl⟩
theorem pX10_init_77 : At cX10_init 77 (.aload_n 0) 1 78 := ⟨tX10_init_0_ok (77, .aload_n 0, 1) (List.mem_of_getElem? (i := 38) rfl), rfl⟩
theorem pX10_init_78 : At cX10_init 78 (.iconst 4) 1 79 := ⟨tX10_init_0_ok (78, .iconst 4, 1) (List.mem_of_getElem? (i := 39) rfl), rfl⟩
theorem pX10_init_79 : At cX10_init 79 (.newarray .int) 2 81 := ⟨tX10_init_0_ok (79, .newarray .int, 2) (List.mem_of_getElem? (i := 40) rfl), rfl⟩
theorem pX10_init_81 : At cX10_init 81 (.putfield 37) 3 84 := ⟨tX10_init_0_ok (81, .putfield 37, 3) (List.mem_of_getElem? (i := 41) rfl), rfl⟩
theorem pX10_init_84 : At cX10_init 84 (.aload_n 0) 1 85 := ⟨tX10_init_0_ok (84, .aload_n 0, 1) (List.mem_of_getElem? (i := 42) rfl), rfl⟩
theorem pX10_init_85 : At cX10_init 85 (.iconst 4) 1 86 := ⟨tX10_init_0_ok (85, .iconst 4, 1) (List.mem_of_getElem? (i := 43) rfl), rfl⟩
theorem pX10_init_86 : At cX10_init 86 (.newarray .int) 2 88 := ⟨tX10_init_0_ok (86, .newarray .int, 2) (List.mem_of_getElem? (i := 44) rfl), rfl⟩
theorem pX10_init_88 : At cX10_init 88 (.putfield 40) 3 91 := ⟨tX10_init_0_ok (88, .putfield 40, 3) (List.mem_of_getElem? (i := 45) rfl), rfl⟩
theorem pX10_init_91 : At cX10_init 91 (.aload_n 0) 1 92 := ⟨tX10_init_0_ok (91, .aload_n 0, 1) (List.mem_of_getElem? (i := 46) rfl), rfl⟩
theorem pX10_init_92 : At cX10_init 92 (.sipush 160) 3 95 := ⟨tX10_init_0_ok (92, .sipush 160, 3) (List.mem_of_getElem? (i := 47) rfl), rfl⟩
theorem pX10_init_95 : At cX10_init 95 (.newarray .int) 2 97 := ⟨tX10_init_0_ok (95, .newarray .int, 2) (List.mem_of_getElem? (i := 48) rfl), rfl⟩
theorem pX10_init_97 : At cX10_init 97 (.putfield 43) 3 100 := ⟨tX10_init_0_ok (97, .putfield 43, 3) (List.mem_of_getElem? (i := 49) rfl), rfl⟩
theorem pX10_init_100 : At cX10_init 100 (.aload_n 0) 1 101 := ⟨tX10_init_0_ok (100, .aload_n 0, 1) (List.mem_of_getElem? (i := 50) rfl), rfl⟩
theorem pX10_init_101 : At cX10_init 101 (.bipush 40) 2 103 := ⟨tX10_init_0_ok (101, .bipush 40, 2) (List.mem_of_getElem? (i := 51) rfl), rfl⟩
theorem pX10_init_103 : At cX10_init 103 (.newarray .int) 2 105 := ⟨tX10_init_0_ok (103, .newarray .int, 2) (List.mem_of_getElem? (i := 52) rfl), rfl⟩
theorem pX10_init_105 : At cX10_init 105 (.putfield 46) 3 108 := ⟨tX10_init_0_ok (105, .putfield 46, 3) (List.mem_of_getElem? (i := 53) rfl), rfl⟩
theorem pX10_init_108 : At cX10_init 108 (.aload_n 0) 1 109 := ⟨tX10_init_0_ok (108, .aload_n 0, 1) (List.mem_of_getElem? (i := 54) rfl), rfl⟩
theorem pX10_init_109 : At cX10_init 109 (.bipush 40) 2 111 := ⟨tX10_init_0_ok (109, .bipush 40, 2) (List.mem_of_getElem? (i := 55) rfl), rfl⟩
theorem pX10_init_111 : At cX10_init 111 (.newarray .int) 2 113 := ⟨tX10_init_0_ok (111, .newarray .int, 2) (List.mem_of_getElem? (i := 56) rfl), rfl⟩
theorem pX10_init_113 : At cX10_init 113 (.putfield 49) 3 116 := ⟨tX10_init_0_ok (113, .putfield 49, 3) (List.mem_of_getElem? (i := 57) rfl), rfl⟩
theorem pX10_init_116 : At cX10_init 116 (.aload_n 0) 1 117 := ⟨tX10_init_0_ok (116, .aload_n 0, 1) (List.mem_of_getElem? (i := 58) rfl), rfl⟩
theorem pX10_init_117 : At cX10_init 117 (.getfield 9) 3 120 := ⟨tX10_init_0_ok (117, .getfield 9, 3) (List.mem_of_getElem? (i := 59) rfl), rfl⟩
theorem pX10_init_120 : At cX10_init 120 (.iconst 2) 1 121 := ⟨tX10_init_0_ok (120, .iconst 2, 1) (List.mem_of_getElem? (i := 60) rfl), rfl⟩
theorem pX10_init_121 : At cX10_init 121 (.bipush 12) 2 123 := ⟨tX10_init_0_ok (121, .bipush 12, 2) (List.mem_of_getElem? (i := 61) rfl), rfl⟩
theorem pX10_init_123 : At cX10_init 123 (.iastore) 1 124 := ⟨tX10_init_0_ok (123, .iastore, 1) (List.mem_of_getElem? (i := 62) rfl), rfl⟩
theorem pX10_init_124 : At cX10_init 124 (.aload_n 0) 1 125 := ⟨tX10_init_0_ok (124, .aload_n 0, 1) (List.mem_of_getElem? (i := 63) rfl), rfl⟩
theorem pX10_init_125 : At cX10_init 125 (.getfield 9) 3 128 := ⟨tX10_init_0_ok (125, .getfield 9, 3) (List.mem_of_getElem? (i := 64) rfl), rfl⟩
theorem pX10_init_128 : At cX10_init 128 (.iconst 3) 1 129 := ⟨tX10_init_0_ok (128, .iconst 3, 1) (List.mem_of_getElem? (i := 65) rfl), rfl⟩
theorem pX10_init_129 : At cX10_init 129 (.iconst 1) 1 130 := ⟨tX10_init_0_ok (129, .iconst 1, 1) (List.mem_of_getElem? (i := 66) rfl), rfl⟩
theorem pX10_init_130 : At cX10_init 130 (.iastore) 1 131 := ⟨tX10_init_0_ok (130, .iastore, 1) (List.mem_of_getElem? (i := 67) rfl), rfl⟩
theorem pX10_init_131 : At cX10_init 131 (.aload_n 0) 1 132 := ⟨tX10_init_0_ok (131, .aload_n 0, 1) (List.mem_of_getElem? (i := 68) rfl), rfl⟩
theorem pX10_init_132 : At cX10_init 132 (.getfield 9) 3 135 := ⟨tX10_init_0_ok (132, .getfield 9, 3) (List.mem_of_getElem? (i := 69) rfl), rfl⟩
theorem pX10_init_135 : At cX10_init 135 (.iconst 4) 1 136 := ⟨tX10_init_0_ok (135, .iconst 4, 1) (List.mem_of_getElem? (i := 70) rfl), rfl⟩
theorem pX10_init_136 : At cX10_init 136 (.iconst (-1)) 1 137 := ⟨tX10_init_0_ok (136, .iconst (-1), 1) (List.mem_of_getElem? (i := 71) rfl), rfl⟩
theorem pX10_init_137 : At cX10_init 137 (.iastore) 1 138 := ⟨tX10_init_0_ok (137, .iastore, 1) (List.mem_of_getElem? (i := 72) rfl), rfl⟩
theorem pX10_init_138 : At cX10_init 138 (.aload_n 0) 1 139 := ⟨tX10_init_0_ok (138, .aload_n 0, 1) (List.mem_of_getElem? (i := 73) rfl), rfl⟩
theorem pX10_init_139 : At cX10_init 139 (.getfield 9) 3 142 := ⟨tX10_init_0_ok (139, .getfield 9, 3) (List.mem_of_getElem? (i := 74) rfl), rfl⟩
theorem pX10_init_142 : At cX10_init 142 (.iconst 5) 1 143 := ⟨tX10_init_0_ok (142, .iconst 5, 1) (List.mem_of_getElem? (i := 75) rfl), rfl⟩
theorem pX10_init_143 : At cX10_init 143 (.iconst 1) 1 144 := ⟨tX10_init_0_ok (143, .iconst 1, 1) (List.mem_of_getElem? (i := 76) rfl), rfl⟩
theorem pX10_init_144 : At cX10_init 144 (.iastore) 1 145 := ⟨tX10_init_0_ok (144, .iastore, 1) (List.mem_of_getElem? (i := 77) rfl), rfl⟩
theorem pX10_init_145 : At cX10_init 145 (.aload_n 0) 1 146 := ⟨tX10_init_0_ok (145, .aload_n 0, 1) (List.mem_of_getElem? (i := 78) rfl), rfl⟩
theorem pX10_init_146 : At cX10_init 146 (.getfield 9) 3 149 := ⟨tX10_init_0_ok (146, .getfield 9, 3) (List.mem_of_getElem? (i := 79) rfl), rfl⟩
theorem pX10_init_149 : At cX10_init 149 (.bipush 120) 2 151 := ⟨tX10_init_0_ok (149, .bipush 120, 2) (List.mem_of_getElem? (i := 80) rfl), rfl⟩
theorem pX10_init_151 : At cX10_init 151 (.iconst (-1)) 1 152 := ⟨tX10_init_0_ok (151, .iconst (-1), 1) (List.mem_of_getElem? (i := 81) rfl), rfl⟩
theorem pX10_init_152 : At cX10_init 152 (.iastore) 1 153 := ⟨tX10_init_0_ok (152, .iastore, 1) (List.mem_of_getElem? (i := 82) rfl), rfl⟩
theorem pX10_init_153 : At cX10_init 153 (.aload_n 0) 1 154 := ⟨tX10_init_0_ok (153, .aload_n 0, 1) (List.mem_of_getElem? (i := 83) rfl), rfl⟩
theorem pX10_init_154 : At cX10_init 154 (.getfield 9) 3 157 := ⟨tX10_init_0_ok (154, .getfield 9, 3) (List.mem_of_getElem? (i := 84) rfl), rfl⟩
theorem pX10_init_157 : At cX10_init 157 (.sipush 221) 3 160 := ⟨tX10_init_0_ok (157, .sipush 221, 3) (List.mem_of_getElem? (i := 85) rfl), rfl⟩
theorem pX10_init_160 : At cX10_init 160 (.iconst (-1)) 1 161 := ⟨tX10_init_0_ok (160, .iconst (-1), 1) (List.mem_of_getElem? (i := 86) rfl), rfl⟩
theorem pX10_init_161 : At cX10_init 161 (.iastore) 1 162 := ⟨tX10_init_0_ok (161, .iastore, 1) (List.mem_of_getElem? (i := 87) rfl), rfl⟩
theorem pX10_init_162 : At cX10_init 162 (.return_) 1 163 := ⟨tX10_init_0_ok (162, .return_, 1) (List.mem_of_getElem? (i := 88) rfl), rfl⟩
