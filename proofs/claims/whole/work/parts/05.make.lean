section RULES3
variable {sx : Nat × (Nat → Int32)} {y : MethodName} {cc : ByteArray} {nL : Nat} {ret : Option FieldType} {d n0 n1 : Nat} {Q : Option Value → RFt → MMt → Prop} {nx : Nat} {rf : RFt} {mem : MMt} {pc pc' : Nat} {L L' : List (Option Value)} {st : List Value}
def clm (mem : MMt) (k : Nat) : MMt := fun a b => if a = k then 0 else mem a b
def clr (rf : RFt) (k : Nat) : RFt := fun a b => if a = k then none else rf a b
theorem made_P {D : va_G} {dA : Nat → ClassId} {base : Nat} {sa : Nat → Nat} {H H1 : Heap} (hP : va_P D vwCl (world dA base sa nx rf mem) H) (hx : nx < 1000) (ho : ∀ q, q < H.size → H1[q]? = H[q]?) (he : va_at D vwCl (KS base sa nx, celw dA base sa (clr rf nx) (clm mem nx) nx) H1) :
    va_P D vwCl (world dA base sa (nx + 1) (clr rf nx) (clm mem nx)) H1 := by
  have hwc : world dA base sa nx (clr rf nx) (clm mem nx) = world dA base sa nx rf mem := world_congr (fun k j h => if_neg (by omega)) (fun k j h => if_neg (by omega))
  rw [world_snoc, hwc]
  refine (hP.kept (fun k x hx2 => ho x.1 (hP k x hx2).lt)).app (fun k x hx2 => ?_)
  have hz : k < 1 := (List.getElem?_eq_some_iff.mp hx2).1
  rw [show k = 0 by omega] at hx2
  cases hx2
  exact he
theorem clr_self {k j : Nat} : clr rf k k j = none := if_pos rfl
theorem clm_self {k j : Nat} : clm mem k k j = 0 := if_pos rfl
def CN (own : String) (idx ci N : Nat) : Prop := ∃ (C : String) (T : u_T) (t : Nat → FieldType), vwCl[ci]? = some (C, T, N) ∧ (∀ w ∈ u_ws C T N, w ∈ lw_g) ∧ (∀ k, k < N → parseFieldDescriptor (T k).2.2.1 = some (t k)) ∧ Cond.classLink own idx C ∈ lw_g ∧ Cond.instantiable C N ∈ lw_g ∧ Cond.initialized C ∈ lw_g ∧ ∀ j, j < N → defaultValue (t j) = if isR ci j = true then .null else .int 0
theorem CN.of {own : String} {idx ci N : Nat} (C : String) (T : u_T) (t : Nat → FieldType) (h1 : vwCl[ci]? = some (C, T, N)) (h2 : ∀ w ∈ u_ws C T N, w ∈ lw_g) (h3 : ∀ k, k < N → parseFieldDescriptor (T k).2.2.1 = some (t k)) (h4 : Cond.classLink own idx C ∈ lw_g) (h5 : Cond.instantiable C N ∈ lw_g) (h6 : Cond.initialized C ∈ lw_g) (h7 : ∀ j, j < N → defaultValue (t j) = if isR ci j = true then .null else .int 0) : CN own idx ci N := ⟨C, T, t, h1, h2, h3, h4, h5, h6, h7⟩
theorem G_new {idx ci N : Nat} (h : At cc pc (.new idx) 3 pc') (hw : CN y.cls idx ci N) (hS : SH nx = (ci + 10, N)) (hn : n0 ≤ nx ∧ nx + 1 ≤ n1 ∧ nx < 1000) (k : G sx y cc nL ret d n0 n1 Q (nx + 1) (clr rf nx) (clm mem nx) pc' L (.ref nx :: st)) : G sx y cc nL ret d n0 n1 Q nx rf mem pc L st := by
  intro p l e R s m args below meth c Z D dA base sa hC hF hR hret H locs lsr hH hL
  obtain ⟨hd, rfl⟩ := h
  have hm1 := ss_mono hn.1; have hm2 := ss_mono hn.2.1
  have hs1 : ss (nx + 1) = ss nx + (SH nx).2 := rfl
  rw [hS] at hs1
  have c1 : nx - n0 + 1 = nx + 1 - n0 := by omega
  have c2 : ss nx - ss n0 + N = ss (nx + 1) - ss n0 := by rw [hs1]; show ss nx - ss n0 + N = ss nx + N - ss n0; omega
  have hz := hH.2.1
  have eK : KS base sa nx = H.size := by rw [KS_lt hn.2.2, hz]
  obtain ⟨C, T, t, f1, f2, f3, f4, f5, f6, f7⟩ := hw
  have hKn := hF.1.1 ci _ f1
  have hts := hC.2.2.2.2.1
  refine W.newcK hC.1 hC.2.1 hC.2.2.2.1 (hts _ f4) (hts _ f5) (hts _ f6) rfl hd (by omega) (by omega) hKn.2.1 rfl fun H1 kC hkC e1 z1 o1 => ?_
  have K := k p l e R s m args below meth c Z D dA base sa hC hF hR hret H1 locs lsr ⟨made_P hH.1 hn.2.2 (fun q hq => o1 q hq) ?_, by rw [z1, hz]; rfl, hn.2.2, ⟨Nat.le_trans hH.2.2.2.1 (by omega), fun q h1 h2 => (o1 q (Nat.lt_of_lt_of_le h1 hH.2.2.2.1)).trans (hH.2.2.2.2.1 q h1 h2), hH.2.2.2.2.2⟩⟩ hL
  · rw [← c1, ← c2] at K
    have e9 : (Value.ref nx :: st).map (re base sa) = .ref H.size :: st.map (re base sa) := by show Value.ref (KS base sa nx) :: _ = _; rw [eK]
    rw [e9] at K
    exact K
  · rw [eK, celw_of hS]
    refine ⟨_, f1, (u_born t hts f2 hKn hkC e1 f3).to (fun j hj => ?_)⟩
    show defaultValue (t j) = ((List.range N).map (fldv base sa (clr rf nx) (clm mem nx) ci nx)).getD j .null
    rw [List.getD_eq_getElem?_getD, fld_get hj, f7 j hj]
    unfold fldv
    rw [clr_self, clm_self]
    rfl
theorem G_newI {n : Int32} {N : Nat} (h : At cc pc (.newarray .int) 2 pc') (hw : Cond.arrayClass .int ∈ lw_g) (hS : SH nx = (0, N)) (hn0 : ¬ n < 0) (hN : n.toNatClampNeg = N) (hb : N ≤ 1000) (hn : n0 ≤ nx ∧ nx + 1 ≤ n1 ∧ nx < 1000) (k : G sx y cc nL ret d n0 n1 Q (nx + 1) (clr rf nx) (clm mem nx) pc' L (.ref nx :: st)) : G sx y cc nL ret d n0 n1 Q nx rf mem pc L (.int n :: st) := by
  intro p l e R s m args below meth c Z D dA base sa hC hF hR hret H locs lsr hH hL
  obtain ⟨hd, rfl⟩ := h
  have hm1 := ss_mono hn.1; have hm2 := ss_mono hn.2.1
  have hs1 : ss (nx + 1) = ss nx + (SH nx).2 := rfl
  rw [hS] at hs1
  have c1 : nx - n0 + 1 = nx + 1 - n0 := by omega
  have c2 : ss nx - ss n0 + N = ss (nx + 1) - ss n0 := by rw [hs1]; show ss nx - ss n0 + N = ss nx + N - ss n0; omega
  have hz := hH.2.1
  have eK : KS base sa nx = H.size := by rw [KS_lt hn.2.2, hz]
  have hts := hC.2.2.2.2.1
  refine va_newaK (atype := .int) hC.1 hC.2.1 (hts _ hw) rfl hd rfl hn0 hN (by show N * 4 ≤ 536870912; omega) (by omega) (by omega) rfl fun H1 cA e1 z1 o1 hAr hNm => ?_
  have ecA : cA = dA 0 := by
    have h1 : s.vm.findClass _ = some (dA 0) := (hF.1.2 0 _ rfl).2
    exact Option.some.inj (hNm.symm.trans h1)
  subst ecA
  have K := k p l e R s m args below meth c Z D dA base sa hC hF hR hret H1 locs lsr ⟨made_P hH.1 hn.2.2 (fun q hq => o1 q hq) ?_, by rw [z1, hz]; rfl, hn.2.2, ⟨Nat.le_trans hH.2.2.2.1 (by omega), fun q h1 h2 => (o1 q (Nat.lt_of_lt_of_le h1 hH.2.2.2.1)).trans (hH.2.2.2.2.1 q h1 h2), hH.2.2.2.2.2⟩⟩ hL
  · rw [← c1, ← c2] at K
    have e9 : (Value.ref nx :: st).map (re base sa) = .ref H.size :: st.map (re base sa) := by show Value.ref (KS base sa nx) :: _ = _; rw [eK]
    rw [e9] at K
    exact K
  · rw [eK, celw_of hS]
    show H1[H.size]? = some (vp_cell (dA 0) (N, .inl (clm mem nx nx)))
    rw [e1, vp_cell_i]
    congr 2
    funext j
    rw [clm_self]; rfl
theorem G_newB {n : Int32} {N : Nat} (h : At cc pc (.newarray .byte) 2 pc') (hw : Cond.arrayClass .byte ∈ lw_g) (hS : SH nx = (1, N)) (hn0 : ¬ n < 0) (hN : n.toNatClampNeg = N) (hb : N ≤ 1000) (hn : n0 ≤ nx ∧ nx + 1 ≤ n1 ∧ nx < 1000) (k : G sx y cc nL ret d n0 n1 Q (nx + 1) (clr rf nx) (clm mem nx) pc' L (.ref nx :: st)) : G sx y cc nL ret d n0 n1 Q nx rf mem pc L (.int n :: st) := by
  intro p l e R s m args below meth c Z D dA base sa hC hF hR hret H locs lsr hH hL
  obtain ⟨hd, rfl⟩ := h
  have hm1 := ss_mono hn.1; have hm2 := ss_mono hn.2.1
  have hs1 : ss (nx + 1) = ss nx + (SH nx).2 := rfl
  rw [hS] at hs1
  have c1 : nx - n0 + 1 = nx + 1 - n0 := by omega
  have c2 : ss nx - ss n0 + N = ss (nx + 1) - ss n0 := by rw [hs1]; show ss nx - ss n0 + N = ss nx + N - ss n0; omega
  have hz := hH.2.1
  have eK : KS base sa nx = H.size := by rw [KS_lt hn.2.2, hz]
  have hts := hC.2.2.2.2.1
  refine va_newaK (atype := .byte) hC.1 hC.2.1 (hts _ hw) rfl hd rfl hn0 hN (by show N * 1 ≤ 536870912; omega) (by omega) (by omega) rfl fun H1 cA e1 z1 o1 hAr hNm => ?_
  have ecA : cA = dA 1 := by
    have h1 : s.vm.findClass _ = some (dA 1) := (hF.1.2 1 _ rfl).2
    exact Option.some.inj (hNm.symm.trans h1)
  subst ecA
  have K := k p l e R s m args below meth c Z D dA base sa hC hF hR hret H1 locs lsr ⟨made_P hH.1 hn.2.2 (fun q hq => o1 q hq) ?_, by rw [z1, hz]; rfl, hn.2.2, ⟨Nat.le_trans hH.2.2.2.1 (by omega), fun q h1 h2 => (o1 q (Nat.lt_of_lt_of_le h1 hH.2.2.2.1)).trans (hH.2.2.2.2.1 q h1 h2), hH.2.2.2.2.2⟩⟩ hL
  · rw [← c1, ← c2] at K
    have e9 : (Value.ref nx :: st).map (re base sa) = .ref H.size :: st.map (re base sa) := by show Value.ref (KS base sa nx) :: _ = _; rw [eK]
    rw [e9] at K
    exact K
  · rw [eK, celw_of hS]
    show H1[H.size]? = some (vp_cell (dA 1) (N, .inl (clm mem nx nx)))
    rw [e1, vp_cell_i]
    congr 2
    funext j
    rw [clm_self]; rfl
theorem G_anew {n : Int32} {N idx kd : Nat} {C : String} (h : At cc pc (.anewarray idx) 3 pc') (hw : Cond.classLink y.cls idx C ∈ lw_g) (hkd : (kd = 2 ∧ C = RX1) ∨ (kd = 3 ∧ C = RX6)) (hS : SH nx = (kd, N)) (hn0 : ¬ n < 0) (hN : n.toNatClampNeg = N) (hb : N ≤ 1000) (hn : n0 ≤ nx ∧ nx + 1 ≤ n1 ∧ nx < 1000) (k : G sx y cc nL ret d n0 n1 Q (nx + 1) (clr rf nx) (clm mem nx) pc' L (.ref nx :: st)) : G sx y cc nL ret d n0 n1 Q nx rf mem pc L (.int n :: st) := by
  intro p l e R s m args below meth c Z D dA base sa hC hF hR hret H locs lsr hH hL
  obtain ⟨hd, rfl⟩ := h
  have hm1 := ss_mono hn.1; have hm2 := ss_mono hn.2.1
  have hs1 : ss (nx + 1) = ss nx + (SH nx).2 := rfl
  rw [hS] at hs1
  have c1 : nx - n0 + 1 = nx + 1 - n0 := by omega
  have c2 : ss nx - ss n0 + N = ss (nx + 1) - ss n0 := by rw [hs1]; show ss nx - ss n0 + N = ss nx + N - ss n0; omega
  have hz := hH.2.1
  have eK : KS base sa nx = H.size := by rw [KS_lt hn.2.2, hz]
  have hts := hC.2.2.2.2.1
  have hov : va_AO C s := by
    rcases hkd with ⟨-, rfl⟩ | ⟨-, rfl⟩
    · exact hF.2.2.2.1.1
    · exact hF.2.2.2.1.2
  subst hN
  refine W.anew hC.1 hC.2.1 hC.2.2.2.1 (hts _ hw) (va_AO.use hov) rfl hd rfl hn0 (by omega) (by omega) (by omega) fun cA kA comp g1 g2 g3 g4 => ?_
  generalize hH1 : H.push ({ cls := cA, slots := Array.replicate n.toNatClampNeg .null, vm := .none } : Cell) = H1
  have z1 : H1.size = H.size + 1 := by rw [← hH1, Array.size_push]
  have e1 : H1[H.size]? = some (arrV cA n.toNatClampNeg (fun _ => .null)) := by rw [← hH1, Array.getElem?_push_size, ← arrV_new]
  have o1 : ∀ q : Nat, q < H.size → H1[q]? = H[q]? := fun q hq => by rw [← hH1, Array.getElem?_push, if_neg (Nat.ne_of_lt hq)]
  have ecA : cA = dA kd := by
    rcases hkd with ⟨rfl, rfl⟩ | ⟨rfl, rfl⟩
    · obtain ⟨kA2, comp2, h1, h2, h3, h4⟩ := (hF.1.2 2 _ rfl).2
      exact Option.some.inj (g1.symm.trans h4)
    · obtain ⟨kA2, comp2, h1, h2, h3, h4⟩ := (hF.1.2 3 _ rfl).2
      exact Option.some.inj (g1.symm.trans h4)
  subst ecA
  have K := k p l e R s m args below meth c Z D dA base sa hC hF hR hret H1 locs lsr ⟨made_P hH.1 hn.2.2 (fun q hq => o1 q hq) ?_, by rw [z1, hz]; rfl, hn.2.2, ⟨Nat.le_trans hH.2.2.2.1 (by omega), fun q h1 h2 => (o1 q (Nat.lt_of_lt_of_le h1 hH.2.2.2.1)).trans (hH.2.2.2.2.1 q h1 h2), hH.2.2.2.2.2⟩⟩ hL
  · rw [← c1, ← c2] at K
    have e9 : (Value.ref nx :: st).map (re base sa) = .ref H.size :: st.map (re base sa) := by show Value.ref (KS base sa nx) :: _ = _; rw [eK]
    rw [e9] at K
    exact K
  · rw [eK, celw_of hS]
    have ec : celk dA base sa (clr rf nx) (clm mem nx) nx n.toNatClampNeg kd = .inl (dA kd, n.toNatClampNeg, .inr (.inr (.inr (.inr (fun j => (clr rf nx nx j).map (KS base sa)))))) := by rcases hkd with ⟨rfl, -⟩ | ⟨rfl, -⟩ <;> rfl
    rw [ec]
    show H1[H.size]? = some (vp_cell _ _)
    rw [e1, vp_cell_q]
    congr 2
    funext j
    rw [clr_self]; rfl
end RULES3

def cp2 (mem : MMt) (a0 a1 sp dp n : Nat) : MMt := fun a j => if a = a1 then va_cpy (mem a0) (mem a1) sp dp n j else mem a j
section RULES4
variable {sx : Nat × (Nat → Int32)} {y : MethodName} {cc : ByteArray} {nL : Nat} {ret : Option FieldType} {d n0 n1 : Nat} {Q : Option Value → RFt → MMt → Prop} {nx : Nat} {rf : RFt} {mem : MMt} {pc pc' : Nat} {L L' : List (Option Value)} {st : List Value}
theorem G_copy {a0 a1 l0 l1 kd idx : Nat} {sp dp n : Int32} {ty : FieldType} (h : At cc pc (.invokestatic idx) 3 pc') (hkd : (kd = 0 ∧ ty = .int) ∨ (kd = 1 ∧ ty = .byte)) (hl : ML y.cls idx arraycopyName) (hw : Cond.native arraycopyName ∈ lw_g ∧ Cond.static arraycopyName ∈ lw_g ∧ Cond.initialized "java/lang/System" ∈ lw_g) (h0 : a0 < nx) (h1 : a1 < nx) (hS0 : SH a0 = (kd, l0)) (hS1 : SH a1 = (kd, l1)) (hb : ¬ sp < 0 ∧ ¬ dp < 0 ∧ ¬ n < 0 ∧ sp.toNatClampNeg + n.toNatClampNeg ≤ l0 ∧ dp.toNatClampNeg + n.toNatClampNeg ≤ l1) (hfit : ∀ i, i < n.toNatClampNeg → fits ty (.int (mem a0 (sp.toNatClampNeg + i))) = true) (hst : (st.map fun v => v.category).sum ≤ 8) (hd1 : 1 ≤ d) (hn9 : nativeFrameWords "java/lang/System" "arraycopy" 5 ≤ 40) (k : G sx y cc nL ret d n0 n1 Q nx rf (cp2 mem a0 a1 sp.toNatClampNeg dp.toNatClampNeg n.toNatClampNeg) pc' L st) : G sx y cc nL ret d n0 n1 Q nx rf mem pc L (.int n :: .int dp :: .ref a1 :: .int sp :: .ref a0 :: st) := by
  intro p l e R s m args below meth c Z D dA base sa hC hF hR hret H locs lsr hH hL
  obtain ⟨hd, rfl⟩ := h
  obtain ⟨b1, b2, b3, b4, b5⟩ := hb
  obtain ⟨hP, hz, hx, hS⟩ := hH
  have hst2 : ((st.map (re base sa)).map fun v => v.category).sum ≤ 8 := by rw [List.map_map]; simpa [Function.comp_def, re_cat] using hst
  have hts := hC.2.2.2.2.1
  have hD : va_D (Ab base) (world dA base sa nx rf mem) := world_D hx
  have hce : ∀ q ln, SH q = (kd, ln) → ∀ mm, celw dA base sa rf mm q = .inl (dA kd, ln, .inl (mm q)) := fun q ln hq mm => by
    rw [celw_of hq]
    rcases hkd with ⟨rfl, -⟩ | ⟨rfl, -⟩ <;> rfl
  have ht : (tys dA)[kd]? = some (dA kd, ty) := by rcases hkd with ⟨rfl, rfl⟩ | ⟨rfl, rfl⟩ <;> rfl
  have hpr : refKind ty = false := by rcases hkd with ⟨-, rfl⟩ | ⟨-, rfl⟩ <;> rfl
  have e0 : (world dA base sa nx rf mem)[a0]? = some (KS base sa a0, .inl (dA kd, l0, .inl (mem a0))) := by rw [world_at h0, hce a0 l0 hS0]
  have e1 : (world dA base sa nx rf mem)[a1]? = some (KS base sa a1, .inl (dA kd, l1, .inl (mem a1))) := by rw [world_at h1, hce a1 l1 hS1]
  have hc0 : H[KS base sa a0]? = some (vp_cell (dA kd) (l0, .inl (mem a0))) := hP a0 _ e0
  have hc1 : H[KS base sa a1]? = some (vp_cell (dA kd) (l1, .inl (mem a1))) := hP a1 _ e1
  have nn : ∀ z : Int32, ¬ z < 0 → z.toInt = (z.toNatClampNeg : Int) := by
    intro z hz
    have hz0 : (0 : Int) ≤ z.toInt := by
      have := Int32.not_lt.mp hz
      simpa using Int32.le_iff_toInt_le.mp this
    show z.toInt = ((z.toInt.toNat : Nat) : Int)
    omega
  intro T hT X
  obtain ⟨-, k0, hk0, cm0, hkk0⟩ := (hF.1.2 kd _ ht).1 l0 (fun j => .int (mem a0 j))
  obtain ⟨-, k1, hk1, cm1, hkk1⟩ := (hF.1.2 kd _ ht).1 l1 (fun j => .int (mem a1 j))
  obtain ⟨vm', X', step⟩ := X.arraycopy hC.1 hC.2.2.2.1 (hts _ hl) (hts _ hw.1) (hts _ hw.2.1) (hts _ hw.2.2) (src := KS base sa a0) (dst := KS base sa a1) (cs := vp_cell (dA kd) (l0, .inl (mem a0))) (cd := vp_cell (dA kd) (l1, .inl (mem a1))) (srcPos := sp) (destPos := dp) (n := n) (by rw [hT]; exact hc0) (by rw [hT]; exact hc1)
    (fun _ h => by cases h) (fun _ h => by cases h) (fun h => by cases h) (fun h => by cases h) hk0 hk1 hkk0 hkk1 (by simp [hpr]) b1 b2 b3
    (by rw [nn sp b1, nn n b3]; show ¬ _ > ((arrV (dA kd) l0 (fun j => .int (mem a0 j))).slots.size : Int); rw [arrV_size]; omega)
    (by rw [nn dp b2, nn n b3]; show ¬ _ > ((arrV (dA kd) l1 (fun j => .int (mem a1 j))).slots.size : Int); rw [arrV_size]; omega)
    (fun vm₁ _ i hi => by
      have e : (vp_cell (dA kd) (l0, .inl (mem a0))).slots.getD (sp.toNatClampNeg + i) .null = .int (mem a0 (sp.toNatClampNeg + i)) := by
        show (arrV (dA kd) l0 (fun j => .int (mem a0 j))).slots.getD _ _ = _
        rw [Array.getD_eq_getD_getElem?, arrV_read _ _ (by omega)]
        rfl
      exact ⟨by rw [e]; exact hfit i hi, by rw [e]; exact trivial⟩)
    (g := F0 m pc lsr (.int n :: .int dp :: .ref (KS base sa a1) :: .int sp :: .ref (KS base sa a0) :: st.map (re base sa))) rfl (by show lsr.size = _; rw [hL.1, hC.2.2.1]) (rest := st.map (re base sa)) rfl (by rw [hC.2.1]; exact hd) (by omega) (by show 2 * 0 + _ + _ ≤ _; omega)
  have e2 : copied (vp_cell (dA kd) (l0, .inl (mem a0))) (vp_cell (dA kd) (l1, .inl (mem a1))) sp dp n = vp_cell (dA kd) (l1, .inl (va_cpy (mem a0) (mem a1) sp.toNatClampNeg dp.toNatClampNeg n.toNatClampNeg)) := va_copied (fun z => .int z) (dA kd) (dA kd) (mem a0) (mem a1) b4
  rw [e2] at X' step
  have hl1 : KS base sa a1 < H.size := (Array.getElem?_eq_some_iff.mp hc1).1
  have hheap : ((T.setVm vm').setCell (KS base sa a1) (vp_cell (dA kd) (l1, .inl (va_cpy (mem a0) (mem a1) sp.toNatClampNeg dp.toNatClampNeg n.toNatClampNeg)))).heap = H.setIfInBounds (KS base sa a1) (vp_cell (dA kd) (l1, .inl (va_cpy (mem a0) (mem a1) sp.toNatClampNeg dp.toNatClampNeg n.toNatClampNeg))) := by rw [← hT]; rfl
  have oq : ∀ q : Nat, q ≠ KS base sa a1 → (H.setIfInBounds (KS base sa a1) (vp_cell (dA kd) (l1, .inl (va_cpy (mem a0) (mem a1) sp.toNatClampNeg dp.toNatClampNeg n.toNatClampNeg))))[q]? = H[q]? := fun q hq => by simp [Array.getElem?_setIfInBounds, Ne.symm hq]
  have hAb : Ab base (KS base sa a1) := KS_Ab h1 hx
  have ecp : cp2 mem a0 a1 sp.toNatClampNeg dp.toNatClampNeg n.toNatClampNeg a1 = va_cpy (mem a0) (mem a1) sp.toNatClampNeg dp.toNatClampNeg n.toNatClampNeg := funext fun j => if_pos rfl
  have h7 := hP.set (e := .inl (dA kd, l1, .inl (va_cpy (mem a0) (mem a1) sp.toNatClampNeg dp.toNatClampNeg n.toNatClampNeg))) hD e1 (show (H.setIfInBounds (KS base sa a1) _)[KS base sa a1]? = some _ by simp [Array.getElem?_setIfInBounds, hl1]) oq
  rw [world_set (rf' := rf) (mem' := cp2 mem a0 a1 sp.toNatClampNeg dp.toNatClampNeg n.toNatClampNeg) h1 (fun a i h8 => rfl) (fun a i h8 => if_neg h8) (by rw [hce a1 l1 hS1, ecp])] at h7
  obtain ⟨t, a3, b9⟩ := k p l e R s m args below meth c Z D dA base sa hC hF hR hret _ _ lsr ⟨h7, by simp; exact hz, hx, by simp; exact hS.1, fun q g1 g2 => by
      rw [oq q (fun e => g2 (by rw [e]; exact hAb))]
      exact hS.2.1 q g1 g2, fun q hq => by
      rcases List.mem_append.mp hq with h | h
      · exact hS.2.2 q h
      · obtain ⟨z, -, hz9⟩ := List.mem_map.mp h
        rw [← hz9]
        exact hAb⟩ hL _ hheap X'
  exact ⟨t, step t a3, b9⟩
end RULES4
