section RULES2
variable {sx : Nat × (Nat → Int32)} {y : MethodName} {cc : ByteArray} {nL : Nat} {ret : Option FieldType} {d n0 n1 : Nat} {Q : Option Value → RFt → MMt → Prop} {nx : Nat} {rf : RFt} {mem : MMt} {pc pc' : Nat} {L L' : List (Option Value)} {st : List Value}
theorem G_iald {k0 n : Nat} {i : Int32} (h : At cc pc .iaload 1 pc') (hk : k0 < nx) (hS : SH k0 = (0, n)) (hi : vp_in i n) (k : G sx y cc nL ret d n0 n1 Q nx rf mem pc' L (.int (mem k0 i.toNatClampNeg) :: st)) : G sx y cc nL ret d n0 n1 Q nx rf mem pc L (.int i :: .ref k0 :: st) := by
  intro p l e R s m args below meth c Z D dA base sa hC hF hR hret H locs lsr hH hL
  obtain ⟨hd, rfl⟩ := h
  have he : (world dA base sa nx rf mem)[k0]? = some (KS base sa k0, .inl (dA 0, n, .inl (mem k0))) := by rw [world_at hk, celw_of hS]; rfl
  exact va_iald hC.1 hC.2.1 hF.1 hH.1 k0 0 he rfl hi hd (k p l e R s m args below meth c Z D dA base sa hC hF hR hret H locs lsr hH hL)
theorem G_bald {k0 n : Nat} {i : Int32} (h : At cc pc .baload 1 pc') (hk : k0 < nx) (hS : SH k0 = (1, n)) (hi : vp_in i n) (k : G sx y cc nL ret d n0 n1 Q nx rf mem pc' L (.int (mem k0 i.toNatClampNeg) :: st)) : G sx y cc nL ret d n0 n1 Q nx rf mem pc L (.int i :: .ref k0 :: st) := by
  intro p l e R s m args below meth c Z D dA base sa hC hF hR hret H locs lsr hH hL
  obtain ⟨hd, rfl⟩ := h
  have he : (world dA base sa nx rf mem)[k0]? = some (KS base sa k0, .inl (dA 1, n, .inl (mem k0))) := by rw [world_at hk, celw_of hS]; rfl
  exact va_bald hC.1 hC.2.1 hF.1 hH.1 k0 1 he rfl hi hd (k p l e R s m args below meth c Z D dA base sa hC hF hR hret H locs lsr hH hL)
theorem G_aald {k0 n r kd : Nat} {i : Int32} (h : At cc pc .aaload 1 pc') (hk : k0 < nx) (hS : SH k0 = (kd, n)) (hkd : kd = 2 ∨ kd = 3) (hi : vp_in i n) (hr : rf k0 i.toNatClampNeg = some r) (k : G sx y cc nL ret d n0 n1 Q nx rf mem pc' L (.ref r :: st)) : G sx y cc nL ret d n0 n1 Q nx rf mem pc L (.int i :: .ref k0 :: st) := by
  intro p l e R s m args below meth c Z D dA base sa hC hF hR hret H locs lsr hH hL
  obtain ⟨hd, rfl⟩ := h
  have K := (k p l e R s m args below meth c Z D dA base sa hC hF hR hret H locs lsr hH hL)
  have ev : va_rf ((rf k0 i.toNatClampNeg).map (KS base sa)) = .ref (KS base sa r) := by rw [hr]; rfl
  rcases hkd with rfl | rfl
  · have he : (world dA base sa nx rf mem)[k0]? = some (KS base sa k0, .inl (dA 2, n, .inr (.inr (.inr (.inr (fun j => (rf k0 j).map (KS base sa))))))) := by rw [world_at hk, celw_of hS]; rfl
    exact va_aldq hC.1 hC.2.1 hF.1 hH.1 k0 2 he rfl hi hd (by rw [ev]; exact K)
  · have he : (world dA base sa nx rf mem)[k0]? = some (KS base sa k0, .inl (dA 3, n, .inr (.inr (.inr (.inr (fun j => (rf k0 j).map (KS base sa))))))) := by rw [world_at hk, celw_of hS]; rfl
    exact va_aldq hC.1 hC.2.1 hF.1 hH.1 k0 3 he rfl hi hd (by rw [ev]; exact K)
theorem G_alen {k0 n kd : Nat} {v : Int32} (h : At cc pc .arraylength 1 pc') (hk : k0 < nx) (hS : SH k0 = (kd, n)) (hkd : kd < 4) (hv : Int32.ofNat n = v) (k : G sx y cc nL ret d n0 n1 Q nx rf mem pc' L (.int v :: st)) : G sx y cc nL ret d n0 n1 Q nx rf mem pc L (.ref k0 :: st) := by
  intro p l e R s m args below meth c Z D dA base sa hC hF hR hret H locs lsr hH hL
  obtain ⟨hd, rfl⟩ := h
  have K := (k p l e R s m args below meth c Z D dA base sa hC hF hR hret H locs lsr hH hL)
  match kd, hkd, hS with
  | 0, _, hS => 
    have he : (world dA base sa nx rf mem)[k0]? = some (KS base sa k0, .inl (dA 0, n, .inl (mem k0))) := by rw [world_at hk, celw_of hS]; rfl
    exact va_alen hC.1 hC.2.1 hF.1 hH.1 k0 0 he rfl hv hd K
  | 1, _, hS => 
    have he : (world dA base sa nx rf mem)[k0]? = some (KS base sa k0, .inl (dA 1, n, .inl (mem k0))) := by rw [world_at hk, celw_of hS]; rfl
    exact va_alen hC.1 hC.2.1 hF.1 hH.1 k0 1 he rfl hv hd K
  | 2, _, hS => 
    have he : (world dA base sa nx rf mem)[k0]? = some (KS base sa k0, .inl (dA 2, n, .inr (.inr (.inr (.inr (fun j => (rf k0 j).map (KS base sa))))))) := by rw [world_at hk, celw_of hS]; rfl
    exact va_alen hC.1 hC.2.1 hF.1 hH.1 k0 2 he rfl hv hd K
  | 3, _, hS => 
    have he : (world dA base sa nx rf mem)[k0]? = some (KS base sa k0, .inl (dA 3, n, .inr (.inr (.inr (.inr (fun j => (rf k0 j).map (KS base sa))))))) := by rw [world_at hk, celw_of hS]; rfl
    exact va_alen hC.1 hC.2.1 hF.1 hH.1 k0 3 he rfl hv hd K
theorem G_iast {k0 n : Nat} {i x : Int32} (h : At cc pc .iastore 1 pc') (hk : k0 < nx) (hS : SH k0 = (0, n)) (hi : vp_in i n) (k : G sx y cc nL ret d n0 n1 Q nx rf (up2 mem k0 i.toNatClampNeg x) pc' L st) : G sx y cc nL ret d n0 n1 Q nx rf mem pc L (.int x :: .int i :: .ref k0 :: st) := by
  intro p l e R s m args below meth c Z D dA base sa hC hF hR hret H locs lsr hH hL
  obtain ⟨hd, rfl⟩ := h
  have he : (world dA base sa nx rf mem)[k0]? = some (KS base sa k0, .inl (dA 0, n, .inl (mem k0))) := by rw [world_at hk, celw_of hS]; rfl
  obtain ⟨hP, hz, hx, hS0⟩ := hH
  have hD : va_D (Ab base) (world dA base sa nx rf mem) := world_D hx
  refine W.iast hC.1 hC.2.1 (hP k0 _ he) ((hF.1.2 0 _ rfl).1 n (fun j => .int (mem k0 j))) (fun q => by cases q) (by show ¬ (i < 0 ∨ (arrV _ _ _).slots.size ≤ _); rw [arrV_size]; exact hi) rfl rfl hd fun H1 e1 e2 e3 => ?_
  refine k p l e R s m args below meth c Z D dA base sa hC hF hR hret H1 _ lsr ⟨?_, e2.trans hz, hx, hS0.put1 e2 e3 (KS_Ab hk hx)⟩ hL
  have h7 := hP.set (e := .inl (dA 0, n, .inl (upd (mem k0) i.toNatClampNeg (x)))) hD he (H1 := H1) ?_ e3
  · rw [world_set (rf' := rf) (mem' := up2 mem k0 i.toNatClampNeg (x)) hk (fun a i h8 => rfl) (fun a i h8 => up2_ne h8) (by rw [celw_of hS]; show _ = Sum.inl (dA 0, n, Sum.inl _); rw [up2_row])] at h7
    exact h7
  · show H1[KS base sa k0]? = some (vp_cell _ _)
    rw [e1]
    rw [vp_cell_i, vp_cell_i, arrV_store]
    congr 2
    funext q
    by_cases hq : q = i.toNatClampNeg
    · subst hq
      simp [updV, upd]
    · simp [updV, upd, hq]
theorem G_bast {k0 n : Nat} {i x : Int32} (h : At cc pc .bastore 1 pc') (hk : k0 < nx) (hS : SH k0 = (1, n)) (hi : vp_in i n) (k : G sx y cc nL ret d n0 n1 Q nx rf (up2 mem k0 i.toNatClampNeg (x.toInt8.toInt32)) pc' L st) : G sx y cc nL ret d n0 n1 Q nx rf mem pc L (.int x :: .int i :: .ref k0 :: st) := by
  intro p l e R s m args below meth c Z D dA base sa hC hF hR hret H locs lsr hH hL
  obtain ⟨hd, rfl⟩ := h
  have he : (world dA base sa nx rf mem)[k0]? = some (KS base sa k0, .inl (dA 1, n, .inl (mem k0))) := by rw [world_at hk, celw_of hS]; rfl
  obtain ⟨hP, hz, hx, hS0⟩ := hH
  have hD : va_D (Ab base) (world dA base sa nx rf mem) := world_D hx
  refine W.bast hC.1 hC.2.1 (hP k0 _ he) ((hF.1.2 1 _ rfl).1 n (fun j => .int (mem k0 j))) (fun q => by cases q) (by show ¬ (i < 0 ∨ (arrV _ _ _).slots.size ≤ _); rw [arrV_size]; exact hi) rfl rfl hd fun H1 e1 e2 e3 => ?_
  refine k p l e R s m args below meth c Z D dA base sa hC hF hR hret H1 _ lsr ⟨?_, e2.trans hz, hx, hS0.put1 e2 e3 (KS_Ab hk hx)⟩ hL
  have h7 := hP.set (e := .inl (dA 1, n, .inl (upd (mem k0) i.toNatClampNeg (x.toInt8.toInt32)))) hD he (H1 := H1) ?_ e3
  · rw [world_set (rf' := rf) (mem' := up2 mem k0 i.toNatClampNeg (x.toInt8.toInt32)) hk (fun a i h8 => rfl) (fun a i h8 => up2_ne h8) (by rw [celw_of hS]; show _ = Sum.inl (dA 1, n, Sum.inl _); rw [up2_row])] at h7
    exact h7
  · show H1[KS base sa k0]? = some (vp_cell _ _)
    rw [e1]
    rw [vp_cell_i, vp_cell_i, arrV_store]
    congr 2
    funext q
    by_cases hq : q = i.toNatClampNeg
    · subst hq
      simp [updV, upd]
      try rfl
    · simp [updV, upd, hq]
theorem G_aast {k0 n v kd ci N : Nat} {i : Int32} (h : At cc pc .aastore 1 pc') (hk : k0 < nx) (hS : SH k0 = (kd, n)) (hkd : (kd = 2 ∧ ci = 1) ∨ (kd = 3 ∧ ci = 6)) (hi : vp_in i n) (hv : v < nx) (hSv : SH v = (ci + 10, N)) (k : G sx y cc nL ret d n0 n1 Q nx (upr rf k0 i.toNatClampNeg (some v)) mem pc' L st) : G sx y cc nL ret d n0 n1 Q nx rf mem pc L (.ref v :: .int i :: .ref k0 :: st) := by
  intro p l e R s m args below meth c Z D dA base sa hC hF hR hret H locs lsr hH hL
  obtain ⟨hd, rfl⟩ := h
  obtain ⟨hP, hz, hx, hS0⟩ := hH
  have hD : va_D (Ab base) (world dA base sa nx rf mem) := world_D hx
  have hev : (world dA base sa nx rf mem)[v]? = some (KS base sa v, .inr (ci, (List.range N).map (fldv base sa rf mem ci v))) := by rw [world_at hv, celw_of hSv]; rfl
  have hlt : i.toNatClampNeg < n := Nat.not_le.mp fun q => hi (Or.inr q)
  have hi0 : ¬ i < 0 := fun q => hi (Or.inl q)
  obtain ⟨r, hr1, cellV, g1, g2, g3, -⟩ := hP v _ hev
  have key : ∀ (cn : String) (cA : ClassId) (kk0 : Nat), kk0 = kd → (tys dA)[kk0]? = some (cA, .object cn) → vwCl[ci]? = some r → r.1 = cn → celk dA base sa rf mem k0 n kd = .inl (cA, n, .inr (.inr (.inr (.inr (fun j => (rf k0 j).map (KS base sa)))))) → (∀ rf2, celk dA base sa rf2 mem k0 n kd = .inl (cA, n, .inr (.inr (.inr (.inr (fun j => (rf2 k0 j).map (KS base sa))))))) → W p l e R s m args below meth c H locs (nx - n0) (ss nx - ss n0) Z (F0 m pc lsr ((.ref v :: .int i :: .ref k0 :: st).map (re base sa))) := by
    intro cn cA kk0 hkk ht hvr hcn hce hce2
    have he : (world dA base sa nx rf mem)[k0]? = some (KS base sa k0, .inl (cA, n, .inr (.inr (.inr (.inr (fun j => (rf k0 j).map (KS base sa))))))) := by rw [world_at hk, celw_of hS, hce]
    have hcls := (hF.1.1 ci r hvr).2
    obtain ⟨kA, comp, k1, k2, k3, -⟩ := (hF.1.2 kk0 _ ht).2
    have hcomp : comp = D.1 ci := Option.some.inj (k3.symm.trans (by rw [← hcn]; exact hcls.1))
    subst hcomp
    obtain ⟨kC, hkC, -⟩ := hcls.2
    refine W.aast hC.1 hC.2.1 (hP k0 _ he) (fun q h => by cases h) (fun h => by cases h) k1 k2 rfl hkC ⟨hi0, by show _ < (arrV _ _ _).slots.size; rw [arrV_size]; exact hlt⟩ g1 (fun q h => by rw [g3] at h; cases h) (by rw [g2]; exact hkC) (by rw [g2]; exact va_assign hcls) rfl rfl hd fun H1 e1 e2 e3 => ?_
    refine k p l e R s m args below meth c Z D dA base sa hC hF hR hret H1 _ lsr ⟨?_, e2.trans hz, hx, hS0.put1 e2 e3 (KS_Ab hk hx)⟩ hL
    have h7 := hP.set (e := .inl (cA, n, .inr (.inr (.inr (.inr (va_up (fun j => (rf k0 j).map (KS base sa)) i.toNatClampNeg (some (KS base sa v)))))))) hD he (H1 := H1) ?_ e3
    · rw [world_set (rf' := upr rf k0 i.toNatClampNeg (some v)) (mem' := mem) hk (fun a i h8 => upr_ne h8) (fun a i h8 => rfl) ?_] at h7
      · exact h7
      · rw [celw_of hS, hce2]
        have ef : va_up (fun j => (rf k0 j).map (KS base sa)) i.toNatClampNeg (some (KS base sa v)) = fun j => (upr rf k0 i.toNatClampNeg (some v) k0 j).map (KS base sa) := by
          funext q
          by_cases hq : q = i.toNatClampNeg
          · subst hq; simp [va_up, upr]
          · simp [va_up, upr, hq]
        rw [ef]
    · show H1[KS base sa k0]? = some (vp_cell _ _)
      rw [e1]
      rw [vp_cell_q, vp_cell_q, arrV_store]
      congr 2
      funext q
      by_cases hq : q = i.toNatClampNeg
      · subst hq
        simp [updV, va_up, va_rf]
      · simp [updV, va_up, hq]
  rcases hkd with ⟨rfl, rfl⟩ | ⟨rfl, rfl⟩
  · cases hr1
    exact key RX1 (dA 2) 2 rfl rfl rfl rfl rfl (fun _ => rfl)
  · cases hr1
    exact key RX6 (dA 3) 3 rfl rfl rfl rfl rfl (fun _ => rfl)
/-- the static arrays: 1000 ABOVE, 1001 BODIES -/
theorem G_gsAbove {idx : Nat} (h : At cc pc (.getstatic idx) 3 pc') (hy : y.cls = RX8) (hi : idx = 48) (k : G sx y cc nL ret d n0 n1 Q nx rf mem pc' L (.ref 1000 :: st)) : G sx y cc nL ret d n0 n1 Q nx rf mem pc L st := by
  intro p l e R s m args below meth c Z D dA base sa hC hF hR hret H locs lsr hH hL
  obtain ⟨hd, rfl⟩ := h
  subst hi
  exact va_getsN hC.1 hC.2.1 hF.2.2.2.2.2.1.1 hH.2.2.2 (by have h9 := hC.2.2.2.1; rw [hy] at h9; exact h9) (va_Nw.use rfl hF.2.2.1) (fun _ h9 => h9) hd (k p l e R s m args below meth c Z D dA base sa hC hF hR hret H locs lsr hH hL)
theorem G_gsAboveO {idx : Nat} (h : At cc pc (.getstatic idx) 3 pc') (hw : Cond.fieldLink y.cls idx "NeckWorlds" "ABOVE" "[I" ∈ lw_g) (k : G sx y cc nL ret d n0 n1 Q nx rf mem pc' L (.ref 1000 :: st)) : G sx y cc nL ret d n0 n1 Q nx rf mem pc L st := by
  intro p l e R s m args below meth c Z D dA base sa hC hF hR hret H locs lsr hH hL
  obtain ⟨hd, rfl⟩ := h
  exact va_gets hC.1 hC.2.1 hF.2.2.2.2.2.1.1 hH.2.2.2 hC.2.2.2.1 (hC.2.2.2.2.1 _ hw) (fun _ h9 => h9) hd (k p l e R s m args below meth c Z D dA base sa hC hF hR hret H locs lsr hH hL)
theorem G_gsBodies {idx : Nat} (h : At cc pc (.getstatic idx) 3 pc') (hw : Cond.fieldLink y.cls idx RX8 "BODIES" "[I" ∈ lw_g) (k : G sx y cc nL ret d n0 n1 Q nx rf mem pc' L (.ref 1001 :: st)) : G sx y cc nL ret d n0 n1 Q nx rf mem pc L st := by
  intro p l e R s m args below meth c Z D dA base sa hC hF hR hret H locs lsr hH hL
  obtain ⟨hd, rfl⟩ := h
  exact va_gets hC.1 hC.2.1 hF.2.2.2.2.2.2.1.1 hH.2.2.2 hC.2.2.2.1 (hC.2.2.2.2.1 _ hw) (fun _ h9 => h9) hd (k p l e R s m args below meth c Z D dA base sa hC hF hR hret H locs lsr hH hL)
theorem G_gsCompact {idx : Nat} (h : At cc pc (.getstatic idx) 3 pc') (hw : Cond.fieldLink y.cls idx "java/lang/String" "COMPACT_STRINGS" "Z" ∈ lw_g) (k : G sx y cc nL ret d n0 n1 Q nx rf mem pc' L (.int 1 :: st)) : G sx y cc nL ret d n0 n1 Q nx rf mem pc L st := by
  intro p l e R s m args below meth c Z D dA base sa hC hF hR hret H locs lsr hH hL
  obtain ⟨hd, rfl⟩ := h
  exact va_gets hC.1 hC.2.1 hF.2.2.2.2.2.2.2.1 hH.2.2.2 hC.2.2.2.1 (hC.2.2.2.2.1 _ hw) (fun _ h9 => h9) hd (k p l e R s m args below meth c Z D dA base sa hC hF hR hret H locs lsr hH hL)
theorem G_ldAbove {i : Int32} (h : At cc pc .iaload 1 pc') (hi : vp_in i 7) (k : G sx y cc nL ret d n0 n1 Q nx rf mem pc' L (.int (aboveF i.toNatClampNeg) :: st)) : G sx y cc nL ret d n0 n1 Q nx rf mem pc L (.int i :: .ref 1000 :: st) := by
  intro p l e R s m args below meth c Z D dA base sa hC hF hR hret H locs lsr hH hL
  obtain ⟨hd, rfl⟩ := h
  exact va_ti hC.1 hC.2.1 hF.2.2.2.2.2.1.2 hH.2.2.2 hi rfl hd (k p l e R s m args below meth c Z D dA base sa hC hF hR hret H locs lsr hH hL)
theorem G_ldBodies {i : Int32} (h : At cc pc .iaload 1 pc') (hi : vp_in i 28) (k : G sx y cc nL ret d n0 n1 Q nx rf mem pc' L (.int (bodiesF i.toNatClampNeg) :: st)) : G sx y cc nL ret d n0 n1 Q nx rf mem pc L (.int i :: .ref 1001 :: st) := by
  intro p l e R s m args below meth c Z D dA base sa hC hF hR hret H locs lsr hH hL
  obtain ⟨hd, rfl⟩ := h
  exact va_ti hC.1 hC.2.1 hF.2.2.2.2.2.2.1.2 hH.2.2.2 hi rfl hd (k p l e R s m args below meth c Z D dA base sa hC hF hR hret H locs lsr hH hL)
theorem G_sld {i : Int32} (h : At cc pc .iaload 1 pc') (hi : vp_in i sx.1) (k : G sx y cc nL ret d n0 n1 Q nx rf mem pc' L (.int (sx.2 i.toNatClampNeg) :: st)) : G sx y cc nL ret d n0 n1 Q nx rf mem pc L (.int i :: .ref 1008 :: st) := by
  intro p l e R s m args below meth c Z D dA base sa hC hF hR hret H locs lsr hH hL
  obtain ⟨hd, rfl⟩ := h
  have h8 := hF.2.2.2.2.2.2.2.2.2
  exact va_sld hC.1 hC.2.1 h8.1 (Nat.lt_of_lt_of_le h8.2.1 h8.2.2.1) (Nat.not_le.mpr h8.2.1) hH.2.2.2 hi hd (k p l e R s m args below meth c Z D dA base sa hC hF hR hret H locs lsr hH hL)
theorem G_slen (h : At cc pc .arraylength 1 pc') (k : G sx y cc nL ret d n0 n1 Q nx rf mem pc' L (.int (Int32.ofNat sx.1) :: st)) : G sx y cc nL ret d n0 n1 Q nx rf mem pc L (.ref 1008 :: st) := by
  intro p l e R s m args below meth c Z D dA base sa hC hF hR hret H locs lsr hH hL
  obtain ⟨hd, rfl⟩ := h
  have h8 := hF.2.2.2.2.2.2.2.2.2
  exact va_slen hC.1 hC.2.1 h8.1 (Nat.lt_of_lt_of_le h8.2.1 h8.2.2.1) (Nat.not_le.mpr h8.2.1) hH.2.2.2 hd (k p l e R s m args below meth c Z D dA base sa hC hF hR hret H locs lsr hH hL)
theorem G_ldcS0 (h : At cc pc (.ldc 35) 2 pc') (hy : y.cls = RX4) (k : G sx y cc nL ret d n0 n1 Q nx rf mem pc' L (.ref 1002 :: st)) : G sx y cc nL ret d n0 n1 Q nx rf mem pc L st := by
  intro p l e R s m args below meth c Z D dA base sa hC hF hR hret H locs lsr hH hL
  obtain ⟨hd, rfl⟩ := h
  exact va_ldcS hC.1 hC.2.1 (by have h9 := hC.2.2.2.1; rw [hy] at h9; exact h9) hF.2.2.2.2.1.1 hd (k p l e R s m args below meth c Z D dA base sa hC hF hR hret H locs lsr hH hL)
theorem G_ldcS1 (h : At cc pc (.ldc 37) 2 pc') (hy : y.cls = RX4) (k : G sx y cc nL ret d n0 n1 Q nx rf mem pc' L (.ref 1003 :: st)) : G sx y cc nL ret d n0 n1 Q nx rf mem pc L st := by
  intro p l e R s m args below meth c Z D dA base sa hC hF hR hret H locs lsr hH hL
  obtain ⟨hd, rfl⟩ := h
  exact va_ldcS hC.1 hC.2.1 (by have h9 := hC.2.2.2.1; rw [hy] at h9; exact h9) hF.2.2.2.2.1.2.1 hd (k p l e R s m args below meth c Z D dA base sa hC hF hR hret H locs lsr hH hL)
theorem G_ldcS2 (h : At cc pc (.ldc 19) 2 pc') (hy : y.cls = RX4) (k : G sx y cc nL ret d n0 n1 Q nx rf mem pc' L (.ref 1004 :: st)) : G sx y cc nL ret d n0 n1 Q nx rf mem pc L st := by
  intro p l e R s m args below meth c Z D dA base sa hC hF hR hret H locs lsr hH hL
  obtain ⟨hd, rfl⟩ := h
  exact va_ldcS hC.1 hC.2.1 (by have h9 := hC.2.2.2.1; rw [hy] at h9; exact h9) hF.2.2.2.2.1.2.2 hd (k p l e R s m args below meth c Z D dA base sa hC hF hR hret H locs lsr hH hL)
theorem G_sCoder {i idx : Nat} (h : At cc pc (.getfield idx) 3 pc') (hi : i < 3) (hw : Cond.fieldLink y.cls idx "java/lang/String" "coder" "B" ∈ lw_g) (k : G sx y cc nL ret d n0 n1 Q nx rf mem pc' L (.int 0 :: st)) : G sx y cc nL ret d n0 n1 Q nx rf mem pc L (.ref (1002 + i) :: st) := by
  intro p l e R s m args below meth c Z D dA base sa hC hF hR hret H locs lsr hH hL
  obtain ⟨hd, rfl⟩ := h
  have e1 : KS base sa (1002 + i) = sa (1002 + i) := if_neg (by omega)
  show W p l e R s m args below meth c H locs (nx - n0) (ss nx - ss n0) Z (F0 m pc lsr (.ref (KS base sa (1002 + i)) :: st.map (re base sa)))
  rw [e1]
  exact vk_getf hC.1 hC.2.1 (hF.2.2.2.2.2.2.2.2.1.1 i hi).2.1 hH.2.2.2 hC.2.2.2.1 (hC.2.2.2.2.1 _ hw) (fun _ h9 => h9) hd (k p l e R s m args below meth c Z D dA base sa hC hF hR hret H locs lsr hH hL)
theorem G_sValue {i idx : Nat} (h : At cc pc (.getfield idx) 3 pc') (hi : i < 3) (hw : Cond.fieldLink y.cls idx "java/lang/String" "value" "[B" ∈ lw_g) (k : G sx y cc nL ret d n0 n1 Q nx rf mem pc' L (.ref (1005 + i) :: st)) : G sx y cc nL ret d n0 n1 Q nx rf mem pc L (.ref (1002 + i) :: st) := by
  intro p l e R s m args below meth c Z D dA base sa hC hF hR hret H locs lsr hH hL
  obtain ⟨hd, rfl⟩ := h
  have e1 : KS base sa (1002 + i) = sa (1002 + i) := if_neg (by omega)
  have e2 : KS base sa (1005 + i) = sa (1005 + i) := if_neg (by omega)
  have K : W p l e R s m args below meth c H locs (nx - n0) (ss nx - ss n0) Z (F0 m (pc + 3) lsr (.ref (KS base sa (1005 + i)) :: st.map (re base sa))) := (k p l e R s m args below meth c Z D dA base sa hC hF hR hret H locs lsr hH hL)
  rw [e2] at K
  show W p l e R s m args below meth c H locs (nx - n0) (ss nx - ss n0) Z (F0 m pc lsr (.ref (KS base sa (1002 + i)) :: st.map (re base sa)))
  rw [e1]
  exact vk_getf hC.1 hC.2.1 (hF.2.2.2.2.2.2.2.2.1.1 i hi).2.2.1 hH.2.2.2 hC.2.2.2.1 (hC.2.2.2.2.1 _ hw) (fun _ h9 => h9) hd K
theorem G_sbld {i : Nat} {j : Int32} (h : At cc pc .baload 1 pc') (hi : i < 3) (hj : vp_in j (strLen.getD i 0)) (k : G sx y cc nL ret d n0 n1 Q nx rf mem pc' L (.int ((strByt.getD i []).getD j.toNatClampNeg 0) :: st)) : G sx y cc nL ret d n0 n1 Q nx rf mem pc L (.int j :: .ref (1005 + i) :: st) := by
  intro p l e R s m args below meth c Z D dA base sa hC hF hR hret H locs lsr hH hL
  obtain ⟨hd, rfl⟩ := h
  have e2 : KS base sa (1005 + i) = sa (1005 + i) := if_neg (by omega)
  show W p l e R s m args below meth c H locs (nx - n0) (ss nx - ss n0) Z (F0 m pc lsr (.int j :: .ref (KS base sa (1005 + i)) :: st.map (re base sa)))
  rw [e2]
  exact va_tb hC.1 hC.2.1 (hF.2.2.2.2.2.2.2.2.1.1 i hi).2.2.2 hH.2.2.2 hj rfl hd (k p l e R s m args below meth c Z D dA base sa hC hF hR hret H locs lsr hH hL)
theorem G_sblen {i : Nat} (h : At cc pc .arraylength 1 pc') (hi : i < 3) (k : G sx y cc nL ret d n0 n1 Q nx rf mem pc' L (.int (Int32.ofNat (strLen.getD i 0)) :: st)) : G sx y cc nL ret d n0 n1 Q nx rf mem pc L (.ref (1005 + i) :: st) := by
  intro p l e R s m args below meth c Z D dA base sa hC hF hR hret H locs lsr hH hL
  obtain ⟨hd, rfl⟩ := h
  have e2 : KS base sa (1005 + i) = sa (1005 + i) := if_neg (by omega)
  show W p l e R s m args below meth c H locs (nx - n0) (ss nx - ss n0) Z (F0 m pc lsr (.ref (KS base sa (1005 + i)) :: st.map (re base sa)))
  rw [e2]
  exact va_tlen hC.1 hC.2.1 (hF.2.2.2.2.2.2.2.2.1.1 i hi).2.2.2 hH.2.2.2 rfl hd (k p l e R s m args below meth c Z D dA base sa hC hF hR hret H locs lsr hH hL)
theorem G_ireturn {x : Int32} {len : Nat} (h : At cc pc .ireturn 1 pc') (hq : Q (some (.int x)) rf mem) (hrt : RT ret (some (.int x))) : G sx y cc nL ret d n0 n1 Q n1 rf mem pc L [.int x] := by
  intro p l e R s m args below meth c Z D dA base sa hC hF hR hret H locs lsr hH hL
  exact hret (some (.int x)) rf mem H locs pc lsr hq hrt h.1 hH
theorem G_areturn {x : Nat} {len : Nat} (h : At cc pc .areturn 1 pc') (hq : Q (some (.ref x)) rf mem) (hrt : RT ret (some (.ref x))) : G sx y cc nL ret d n0 n1 Q n1 rf mem pc L [.ref x] := by
  intro p l e R s m args below meth c Z D dA base sa hC hF hR hret H locs lsr hH hL
  exact hret (some (.ref x)) rf mem H locs pc lsr hq hrt h.1 hH
theorem G_return {len : Nat} (h : At cc pc .return_ 1 pc') (hq : Q none rf mem) (hrt : RT ret none) : G sx y cc nL ret d n0 n1 Q n1 rf mem pc L [] := by
  intro p l e R s m args below meth c Z D dA base sa hC hF hR hret H locs lsr hH hL
  exact hret none rf mem H locs pc lsr hq hrt h.1 hH
end RULES2

theorem entry_LV {base : Nat} {sa : Nat → Nat} {nL : Nat} {L : List (Option Value)} {args : List Value} (hle : (Lof args).length ≤ nL) (hL : Lof args ++ List.replicate (nL - (Lof args).length) none = L) :
    LV base sa ((lg_sl (args.map (re base sa)) ++ List.replicate (nL - (lg_sl (args.map (re base sa))).length) Slot.unset).toArray) nL L := by
  have hlen : ∀ vs : List Value, (lg_sl (vs.map (re base sa))).length = (Lof vs).length := by
    intro vs
    induction vs with
    | nil => rfl
    | cons v t ih =>
      unfold Lof
      have e1 : lg_sl ((v :: t).map (re base sa)) = (if (re base sa v).category = 2 then [Slot.val (re base sa v), Slot.second] else [Slot.val (re base sa v)]) ++ lg_sl (t.map (re base sa)) := rfl
      rw [e1, re_cat]
      by_cases c2 : v.category = 2
      · rw [if_pos c2, if_pos c2]; simp [ih]
      · rw [if_neg c2, if_neg c2]; simp [ih]
  have h := lv_entry (args.map (re base sa)) (n := nL) (by rw [hlen]; exact hle)
  refine ⟨h.1, h.2.1, by rw [← hL]; simp; omega, fun i v hi => ?_⟩
  rw [← hL] at hi
  by_cases c : i < (Lof args).length
  · rw [List.getElem?_append_left c] at hi
    have h2 := Lof_args base sa args 0 i v hi
    rw [Nat.zero_add] at h2
    exact h.2.2 _ h2
  · rw [List.getElem?_append_right (by omega), List.getElem?_replicate] at hi
    split at hi <;> cases hi
theorem Ct_of {sx : Nat × (Nat → Int32)} {y : MethodName} {cc : ByteArray} {nL : Nat} {ret : Option FieldType} {d nx nx' : Nat} {args : List Value} {Q : Option Value → RFt → MMt → Prop} {rf : RFt} {mem : MMt} (L : List (Option Value)) (hy : plainFor y = true) (hle : (Lof args).length ≤ nL) (hL : Lof args ++ List.replicate (nL - (Lof args).length) none = L)
    (g : G sx y cc nL ret d nx nx' Q nx rf mem 0 L []) : Ct sx y cc nL ret d args nx nx' rf mem Q := by
  intro l D dA base sa
  refine MetFree.of_bodySF (code := cc) (maxLocals := nL) (ret := ret) hy ?_ ?_
  · intro args' s m h hn
    obtain ⟨meth, c, h1, h2, h3, h4, h5, h6, -, -⟩ := Cond.code_spec hn (atoms_spec (ws := Cond.code y cc nL ret :: lw_g) h _ List.mem_cons_self)
    exact ⟨meth, c, h1, h2, h3, h4, h5, h6⟩
  intro p e s m args' below meth c s₁ B hml hv _
  have hh0 : s₁.heap = s.heap := by rw [B.state]; rfl
  obtain ⟨hva, hP, hsz, hx, hF⟩ := hv
  have hown : s.vm.findClass y.cls = some m.cls := findClass_of_methodNamed B.named
  have hts : ∀ w ∈ (Cond.code y cc nL ret :: lw_g), w.before _ s = true := atoms_spec (ws := Cond.code y cc nL ret :: lw_g) B.pre
  have fin : W p l e (rom d (nx' - nx) (ss nx' - ss nx)) s m args' below meth c s.heap [] 0 0 (MQ below (Qct ret D dA base sa nx' Q) args' s (nx' - nx) (ss nx' - ss nx) (Ab base)) (entryFrame m args' nL) → ∃ s₂ o, Steps p.tables e below (s₁.setTop (entryFrame m args' nL)) s₂ ∧ s₂.status = .running ∧ Ended s₂ below o ∧ (Qct ret D dA base sa nx' Q args' s o s₂ ∧ ∃ L, FrameEnd s o s₂ L (nx' - nx) (ss nx' - ss nx) ∧ ∀ q ∈ L, Ab base q.base) := by
    intro K
    obtain ⟨t, a1, o, b1, b2, b3⟩ := K s₁ hh0 (Stand.of_body B)
    exact ⟨t, o, a1, b1, b2, b3.1, b3.2⟩
  subst hva
  refine fin ?_
  rw [lg_entry_eq]
  have K := g p l e (rom d (nx' - nx) (ss nx' - ss nx)) s m _ below meth c (MQ below (Qct ret D dA base sa nx' Q) (args.map (re base sa)).toArray s (nx' - nx) (ss nx' - ss nx) (Ab base)) D dA base sa
    ⟨B.exec, B.bytes, hml, hown, fun w h => hts w (List.mem_cons_of_mem _ h), B.returns, B.notSynchronized, fun hq => (name_of_methodNamed B.named B.method).1.trans hq⟩ hF ⟨Nat.le_refl _, Nat.le_refl _, Nat.le_refl _, Nat.le_refl _⟩ ?_ s.heap [] _ ⟨hP, hsz, hx, va_S.rf⟩ (entry_LV hle hL)
  · rw [Nat.sub_self, Nat.sub_self] at K
    exact K
  · intro v rf' mem' H locs pc lsr hq hrt hri hH
    have post : ∀ t : State, t.heap = H → s.WarmedH t.vm → Qct ret D dA base sa nx' Q (args.map (re base sa)).toArray s (.returned (v.map (re base sa))) t := fun t ht hW =>
      ⟨⟨v, rf', mem', rfl, hrt, hq, by rw [ht]; exact hH.1, by rw [ht]; exact hH.2.1, hH.2.2.1⟩, hH.2.2.2.F ht⟩
    match v, hrt, hri, post with
    | none, hrt, hri, post => exact W.vret B.exec B.bytes (B.returns.trans hrt) post hH.2.2.2.2.2 hri (hlocks := B.notSynchronized)
    | some (.int x), hrt, hri, post =>
      obtain ⟨ty, h1, h2⟩ := hrt
      exact W.zret B.exec B.bytes (B.returns.trans h1) h2 post hH.2.2.2.2.2 hri (hlocks := B.notSynchronized)
    | some (.ref x), hrt, hri, post =>
      obtain ⟨ty, h1, h2⟩ := hrt
      exact W.aret B.exec B.bytes (B.returns.trans h1) h2 (Or.inr ⟨_, rfl⟩) post hH.2.2.2.2.2 hri (hlocks := B.notSynchronized)
/-- behind a call -/
theorem G_after {sx : Nat × (Nat → Int32)} {ret' : Option FieldType} {n0 n1 nx nx1 : Nat} {Q' : Option Value → RFt → MMt → Prop} {p : Program} {l : Launch} {e : Env} {R : Room} {s : State} {m : MethodId} {args : Array Value} {below : List Frame} {meth : Method} {c : Code} {Z : State → Prop} {D : va_G} {dA : Nat → ClassId} {base : Nat} {sa : Nat → Nat} {pc : Nat} {lsr : Array Slot} {stk rest : List Value} {H : Heap} {locs : List Loc} {av : Array Value} {rf : RFt} {mem : MMt}
    (hn : n0 ≤ nx ∧ nx ≤ nx1 ∧ nx1 ≤ n1) (hF : SF sx D dA base sa s s.heap) (hH : HP D dA base sa nx rf mem s H locs)
    (hr : va_Run p l e R s m args below meth c H locs (nx - n0) (ss nx - ss n0) (nx1 - nx) (ss nx1 - ss nx) (F0 m pc lsr stk) rest (Qct ret' D dA base sa nx1 Q' av) (Ab base))
    (k : ∀ (v : Option Value) (rf' : RFt) (mem' : MMt) (H1 : Heap) (locs1 : List Loc), Q' v rf' mem' → RT ret' v → HP D dA base sa nx1 rf' mem' s H1 locs1 → W p l e R s m args below meth c H1 locs1 (nx1 - n0) (ss nx1 - ss n0) Z (F0 m (pc + 3) lsr ((v.map (re base sa)).toList ++ rest))) :
    W p l e R s m args below meth c H locs (nx - n0) (ss nx - ss n0) Z (F0 m pc lsr stk) := by
  intro T hT X
  obtain ⟨v, st₀, t, T', L, h0, X', hL, e1, e2, ⟨⟨v2, rf', mem', hv, hrt, hq, hP, hz, hx⟩, hz2, hk⟩, st⟩ := hr T hT X
  cases hv
  rw [h0] at hz2 hk
  have hS := hH.2.2.2
  have hS1 : va_S (Ab base) s.heap T'.heap (locs ++ L) := ⟨Nat.le_trans hS.1 (by rw [e1]; exact hz2), fun q h1 h2 => by rw [e1, hk q (Nat.lt_of_lt_of_le h1 hS.1) h2]; exact hS.2.1 q h1 h2, fun q hq => by
      rcases List.mem_append.mp hq with h | h
      · exact hS.2.2 q h
      · exact hL q h⟩
  have K := k v2 rf' mem' T'.heap (locs ++ L) hq hrt ⟨by rw [e1]; exact hP, by rw [e1]; exact hz, hx, hS1⟩
  have c1 : nx - n0 + (nx1 - nx) = nx1 - n0 := by omega
  have c2 : ss nx - ss n0 + (ss nx1 - ss nx) = ss nx1 - ss n0 := by
    have := ss_mono hn.1
    have := ss_mono hn.2.1
    omega
  rw [c1, c2] at X'
  obtain ⟨t2, a1, b1⟩ := K T' rfl X'
  exact ⟨t2, st t2 a1, b1⟩
/-- a method's own words -/
def MB (y : MethodName) (cc : ByteArray) (nL : Nat) (ret : Option FieldType) (n : Nat) : Prop := Cond.code y cc nL ret ∈ lw_g ∧ Cond.initialized y.cls ∈ lw_g ∧ (y.cls ≠ "java/lang/invoke/MethodHandle" ∧ y.cls ≠ "java/lang/invoke/VarHandle") ∧ (parseMethodDescriptor y.desc).map (fun d => d.parameters.length) = some n ∧ nL ≤ 60
def MS (y : MethodName) (cc : ByteArray) (nL : Nat) (ret : Option FieldType) (n : Nat) : Prop := MB y cc nL ret n ∧ Cond.static y ∈ lw_g
def MV (y : MethodName) (cc : ByteArray) (nL : Nat) (ret : Option FieldType) (n : Nat) : Prop := MB y cc nL ret n ∧ Cond.instanceMethod y ∈ lw_g ∧ Cond.selects y.cls y y ∈ lw_g
def MI (y : MethodName) (cc : ByteArray) (nL : Nat) (n : Nat) : Prop := MB y cc nL none n ∧ Cond.instanceMethod y ∈ lw_g ∧ y.name = "<init>"
def ML (own : String) (idx : Nat) (y : MethodName) : Prop := Cond.methodLink own idx y ∈ lw_g
theorem code_in {y : MethodName} {cc : ByteArray} {nL : Nat} {ret : Option FieldType} (h : Cond.code y cc nL ret ∈ lw_g) : GoodIn lw_g (Cond.code y cc nL ret :: lw_g) := fun w hw => by
  rcases List.mem_cons.mp hw with rfl | hw
  · exact lw_gG _ h
  · exact lw_gG _ hw
theorem MB.call {y y' : MethodName} {cc' : ByteArray} {nL' n idx : Nat} {ret' : Option FieldType} {R : Room} {s : State} {args : Array Value} {d d' mc ms : Nat} (h : MB y' cc' nL' ret' n) (hl : ML y.cls idx y') (ht : ∀ w ∈ lw_g, w.before args s = true) (hd : d' + 1 ≤ d) (hR : d ≤ R.frames ∧ 100 * d + 100 ≤ R.locals) :
    CallB R s args y.cls idx y' cc' nL' ret' (.code y' cc' nL' ret' :: lw_g) (rom d' mc ms) mc ms n := by
  obtain ⟨h1, h2, h3, h4, h5⟩ := h
  refine callB_of (ws' := lw_g) n ht (code_in h1) rfl rfl rfl (ht _ h2) (ht _ hl) ⟨h3.1, h3.2, h4⟩ ⟨?_, ?_⟩
  · show d' + 1 ≤ R.frames
    omega
  · show 8 + (nL' + 11) + (100 * d' + 100) ≤ R.locals
    omega

section CALLS
variable {sx : Nat × (Nat → Int32)} {y : MethodName} {cc : ByteArray} {nL : Nat} {ret : Option FieldType} {d n0 n1 : Nat} {Q : Option Value → RFt → MMt → Prop} {nx : Nat} {rf : RFt} {mem : MMt} {pc pc' : Nat} {L L' : List (Option Value)} {st : List Value}
variable {y' : MethodName} {cc' : ByteArray} {nL' d' nx1 idx : Nat} {ret' : Option FieldType} {Q' : Option Value → RFt → MMt → Prop}
theorem G_callS0 (h : At cc pc (.invokestatic idx) 3 pc') (C : Ct sx y' cc' nL' ret' d' [] nx nx1 rf mem Q') (w : MS y' cc' nL' ret' 0) (hl : ML y.cls idx y') (hd : d' + 1 ≤ d) (hn : n0 ≤ nx ∧ nx ≤ nx1 ∧ nx1 ≤ n1) (hst : (st.map fun v => v.category).sum ≤ 8) (k : ∀ (v : Option Value) (rf' : RFt) (mem' : MMt), Q' v rf' mem' → RT ret' v → G sx y cc nL ret d n0 n1 Q nx1 rf' mem' pc' L (v.toList ++ st)) : G sx y cc nL ret d n0 n1 Q nx rf mem pc L (st) := by
  intro p l e R s m args below meth c Z D dA base sa hC hF hR hret H locs lsr hH hL
  obtain ⟨hdc, rfl⟩ := h
  have hst2 : ((st.map (re base sa)).map fun v => v.category).sum ≤ 8 := by rw [List.map_map]; simpa [Function.comp_def, re_cat] using hst
  have hx1 := hn.2.1
  have hm1 := ss_mono hn.1; have hm2 := ss_mono hn.2.1; have hm3 := ss_mono hn.2.2
  have hf : nx - n0 + (nx1 - nx) ≤ R.cells ∧ ss nx - ss n0 + (ss nx1 - ss nx) ≤ R.slots := ⟨by omega, by omega⟩
  have hpc : ∀ U : State, U.heap = H → s.WarmedH U.vm → va_Pc (List.map (re base sa) []) (OKs sx D dA base sa nx rf mem) ([]).toArray U := fun U hU hW => ⟨rfl, by rw [hU]; exact hH.1, by rw [hU]; exact hH.2.1, hH.2.2.1, hF.moved hW (by rw [hU]; exact hH.2.2.2.1) (fun q h1 h2 => by rw [hU]; exact hH.2.2.2.2.1 q h1 h2)⟩
  refine G_after hn hF hH (va_runS (As := []) (rest := st.map (re base sa)) ⟨hC.1, hC.2.1, hC.2.2.1, hC.2.2.2.1, hC.2.2.2.2.1⟩ (C l D dA base sa) ⟨w.1.call hl hC.2.2.2.2.1 hd ⟨hR.1, hR.2.1⟩, hC.2.2.2.2.1 _ w.2⟩ ⟨Ct.blind, hpc⟩ rfl rfl hL.1 rfl (lv_room hst2) hdc hf) (fun v rf' mem' H1 locs1 hq hrt hH1 => ?_)
  have K := k v rf' mem' hq hrt p l e R s m args below meth c Z D dA base sa hC hF hR hret H1 locs1 lsr hH1 hL
  have e9 : (v.toList ++ st).map (re base sa) = (v.map (re base sa)).toList ++ st.map (re base sa) := by cases v <;> rfl
  rw [e9] at K
  exact K
theorem G_callS1 {a1 : Value} (h : At cc pc (.invokestatic idx) 3 pc') (C : Ct sx y' cc' nL' ret' d' [a1] nx nx1 rf mem Q') (w : MS y' cc' nL' ret' 1) (hl : ML y.cls idx y') (hd : d' + 1 ≤ d) (hn : n0 ≤ nx ∧ nx ≤ nx1 ∧ nx1 ≤ n1) (hst : (st.map fun v => v.category).sum ≤ 8) (k : ∀ (v : Option Value) (rf' : RFt) (mem' : MMt), Q' v rf' mem' → RT ret' v → G sx y cc nL ret d n0 n1 Q nx1 rf' mem' pc' L (v.toList ++ st)) : G sx y cc nL ret d n0 n1 Q nx rf mem pc L (a1 :: st) := by
  intro p l e R s m args below meth c Z D dA base sa hC hF hR hret H locs lsr hH hL
  obtain ⟨hdc, rfl⟩ := h
  have hst2 : ((st.map (re base sa)).map fun v => v.category).sum ≤ 8 := by rw [List.map_map]; simpa [Function.comp_def, re_cat] using hst
  have hx1 := hn.2.1
  have hm1 := ss_mono hn.1; have hm2 := ss_mono hn.2.1; have hm3 := ss_mono hn.2.2
  have hf : nx - n0 + (nx1 - nx) ≤ R.cells ∧ ss nx - ss n0 + (ss nx1 - ss nx) ≤ R.slots := ⟨by omega, by omega⟩
  have hpc : ∀ U : State, U.heap = H → s.WarmedH U.vm → va_Pc (List.map (re base sa) [a1]) (OKs sx D dA base sa nx rf mem) ([re base sa a1]).toArray U := fun U hU hW => ⟨rfl, by rw [hU]; exact hH.1, by rw [hU]; exact hH.2.1, hH.2.2.1, hF.moved hW (by rw [hU]; exact hH.2.2.2.1) (fun q h1 h2 => by rw [hU]; exact hH.2.2.2.2.1 q h1 h2)⟩
  refine G_after hn hF hH (va_runS (As := [re base sa a1]) (rest := st.map (re base sa)) ⟨hC.1, hC.2.1, hC.2.2.1, hC.2.2.2.1, hC.2.2.2.2.1⟩ (C l D dA base sa) ⟨w.1.call hl hC.2.2.2.2.1 hd ⟨hR.1, hR.2.1⟩, hC.2.2.2.2.1 _ w.2⟩ ⟨Ct.blind, hpc⟩ rfl rfl hL.1 rfl (lv_room hst2) hdc hf) (fun v rf' mem' H1 locs1 hq hrt hH1 => ?_)
  have K := k v rf' mem' hq hrt p l e R s m args below meth c Z D dA base sa hC hF hR hret H1 locs1 lsr hH1 hL
  have e9 : (v.toList ++ st).map (re base sa) = (v.map (re base sa)).toList ++ st.map (re base sa) := by cases v <;> rfl
  rw [e9] at K
  exact K
theorem G_callS2 {a1 a2 : Value} (h : At cc pc (.invokestatic idx) 3 pc') (C : Ct sx y' cc' nL' ret' d' [a1, a2] nx nx1 rf mem Q') (w : MS y' cc' nL' ret' 2) (hl : ML y.cls idx y') (hd : d' + 1 ≤ d) (hn : n0 ≤ nx ∧ nx ≤ nx1 ∧ nx1 ≤ n1) (hst : (st.map fun v => v.category).sum ≤ 8) (k : ∀ (v : Option Value) (rf' : RFt) (mem' : MMt), Q' v rf' mem' → RT ret' v → G sx y cc nL ret d n0 n1 Q nx1 rf' mem' pc' L (v.toList ++ st)) : G sx y cc nL ret d n0 n1 Q nx rf mem pc L (a2 :: a1 :: st) := by
  intro p l e R s m args below meth c Z D dA base sa hC hF hR hret H locs lsr hH hL
  obtain ⟨hdc, rfl⟩ := h
  have hst2 : ((st.map (re base sa)).map fun v => v.category).sum ≤ 8 := by rw [List.map_map]; simpa [Function.comp_def, re_cat] using hst
  have hx1 := hn.2.1
  have hm1 := ss_mono hn.1; have hm2 := ss_mono hn.2.1; have hm3 := ss_mono hn.2.2
  have hf : nx - n0 + (nx1 - nx) ≤ R.cells ∧ ss nx - ss n0 + (ss nx1 - ss nx) ≤ R.slots := ⟨by omega, by omega⟩
  have hpc : ∀ U : State, U.heap = H → s.WarmedH U.vm → va_Pc (List.map (re base sa) [a1, a2]) (OKs sx D dA base sa nx rf mem) ([re base sa a1, re base sa a2]).toArray U := fun U hU hW => ⟨rfl, by rw [hU]; exact hH.1, by rw [hU]; exact hH.2.1, hH.2.2.1, hF.moved hW (by rw [hU]; exact hH.2.2.2.1) (fun q h1 h2 => by rw [hU]; exact hH.2.2.2.2.1 q h1 h2)⟩
  refine G_after hn hF hH (va_runS (As := [re base sa a1, re base sa a2]) (rest := st.map (re base sa)) ⟨hC.1, hC.2.1, hC.2.2.1, hC.2.2.2.1, hC.2.2.2.2.1⟩ (C l D dA base sa) ⟨w.1.call hl hC.2.2.2.2.1 hd ⟨hR.1, hR.2.1⟩, hC.2.2.2.2.1 _ w.2⟩ ⟨Ct.blind, hpc⟩ rfl rfl hL.1 rfl (lv_room hst2) hdc hf) (fun v rf' mem' H1 locs1 hq hrt hH1 => ?_)
  have K := k v rf' mem' hq hrt p l e R s m args below meth c Z D dA base sa hC hF hR hret H1 locs1 lsr hH1 hL
  have e9 : (v.toList ++ st).map (re base sa) = (v.map (re base sa)).toList ++ st.map (re base sa) := by cases v <;> rfl
  rw [e9] at K
  exact K
theorem G_callS3 {a1 a2 a3 : Value} (h : At cc pc (.invokestatic idx) 3 pc') (C : Ct sx y' cc' nL' ret' d' [a1, a2, a3] nx nx1 rf mem Q') (w : MS y' cc' nL' ret' 3) (hl : ML y.cls idx y') (hd : d' + 1 ≤ d) (hn : n0 ≤ nx ∧ nx ≤ nx1 ∧ nx1 ≤ n1) (hst : (st.map fun v => v.category).sum ≤ 8) (k : ∀ (v : Option Value) (rf' : RFt) (mem' : MMt), Q' v rf' mem' → RT ret' v → G sx y cc nL ret d n0 n1 Q nx1 rf' mem' pc' L (v.toList ++ st)) : G sx y cc nL ret d n0 n1 Q nx rf mem pc L (a3 :: a2 :: a1 :: st) := by
  intro p l e R s m args below meth c Z D dA base sa hC hF hR hret H locs lsr hH hL
  obtain ⟨hdc, rfl⟩ := h
  have hst2 : ((st.map (re base sa)).map fun v => v.category).sum ≤ 8 := by rw [List.map_map]; simpa [Function.comp_def, re_cat] using hst
  have hx1 := hn.2.1
  have hm1 := ss_mono hn.1; have hm2 := ss_mono hn.2.1; have hm3 := ss_mono hn.2.2
  have hf : nx - n0 + (nx1 - nx) ≤ R.cells ∧ ss nx - ss n0 + (ss nx1 - ss nx) ≤ R.slots := ⟨by omega, by omega⟩
  have hpc : ∀ U : State, U.heap = H → s.WarmedH U.vm → va_Pc (List.map (re base sa) [a1, a2, a3]) (OKs sx D dA base sa nx rf mem) ([re base sa a1, re base sa a2, re base sa a3]).toArray U := fun U hU hW => ⟨rfl, by rw [hU]; exact hH.1, by rw [hU]; exact hH.2.1, hH.2.2.1, hF.moved hW (by rw [hU]; exact hH.2.2.2.1) (fun q h1 h2 => by rw [hU]; exact hH.2.2.2.2.1 q h1 h2)⟩
  refine G_after hn hF hH (va_runS (As := [re base sa a1, re base sa a2, re base sa a3]) (rest := st.map (re base sa)) ⟨hC.1, hC.2.1, hC.2.2.1, hC.2.2.2.1, hC.2.2.2.2.1⟩ (C l D dA base sa) ⟨w.1.call hl hC.2.2.2.2.1 hd ⟨hR.1, hR.2.1⟩, hC.2.2.2.2.1 _ w.2⟩ ⟨Ct.blind, hpc⟩ rfl rfl hL.1 rfl (lv_room hst2) hdc hf) (fun v rf' mem' H1 locs1 hq hrt hH1 => ?_)
  have K := k v rf' mem' hq hrt p l e R s m args below meth c Z D dA base sa hC hF hR hret H1 locs1 lsr hH1 hL
  have e9 : (v.toList ++ st).map (re base sa) = (v.map (re base sa)).toList ++ st.map (re base sa) := by cases v <;> rfl
  rw [e9] at K
  exact K
theorem G_callS4 {a1 a2 a3 a4 : Value} (h : At cc pc (.invokestatic idx) 3 pc') (C : Ct sx y' cc' nL' ret' d' [a1, a2, a3, a4] nx nx1 rf mem Q') (w : MS y' cc' nL' ret' 4) (hl : ML y.cls idx y') (hd : d' + 1 ≤ d) (hn : n0 ≤ nx ∧ nx ≤ nx1 ∧ nx1 ≤ n1) (hst : (st.map fun v => v.category).sum ≤ 8) (k : ∀ (v : Option Value) (rf' : RFt) (mem' : MMt), Q' v rf' mem' → RT ret' v → G sx y cc nL ret d n0 n1 Q nx1 rf' mem' pc' L (v.toList ++ st)) : G sx y cc nL ret d n0 n1 Q nx rf mem pc L (a4 :: a3 :: a2 :: a1 :: st) := by
  intro p l e R s m args below meth c Z D dA base sa hC hF hR hret H locs lsr hH hL
  obtain ⟨hdc, rfl⟩ := h
  have hst2 : ((st.map (re base sa)).map fun v => v.category).sum ≤ 8 := by rw [List.map_map]; simpa [Function.comp_def, re_cat] using hst
  have hx1 := hn.2.1
  have hm1 := ss_mono hn.1; have hm2 := ss_mono hn.2.1; have hm3 := ss_mono hn.2.2
  have hf : nx - n0 + (nx1 - nx) ≤ R.cells ∧ ss nx - ss n0 + (ss nx1 - ss nx) ≤ R.slots := ⟨by omega, by omega⟩
  have hpc : ∀ U : State, U.heap = H → s.WarmedH U.vm → va_Pc (List.map (re base sa) [a1, a2, a3, a4]) (OKs sx D dA base sa nx rf mem) ([re base sa a1, re base sa a2, re base sa a3, re base sa a4]).toArray U := fun U hU hW => ⟨rfl, by rw [hU]; exact hH.1, by rw [hU]; exact hH.2.1, hH.2.2.1, hF.moved hW (by rw [hU]; exact hH.2.2.2.1) (fun q h1 h2 => by rw [hU]; exact hH.2.2.2.2.1 q h1 h2)⟩
  refine G_after hn hF hH (va_runS (As := [re base sa a1, re base sa a2, re base sa a3, re base sa a4]) (rest := st.map (re base sa)) ⟨hC.1, hC.2.1, hC.2.2.1, hC.2.2.2.1, hC.2.2.2.2.1⟩ (C l D dA base sa) ⟨w.1.call hl hC.2.2.2.2.1 hd ⟨hR.1, hR.2.1⟩, hC.2.2.2.2.1 _ w.2⟩ ⟨Ct.blind, hpc⟩ rfl rfl hL.1 rfl (lv_room hst2) hdc hf) (fun v rf' mem' H1 locs1 hq hrt hH1 => ?_)
  have K := k v rf' mem' hq hrt p l e R s m args below meth c Z D dA base sa hC hF hR hret H1 locs1 lsr hH1 hL
  have e9 : (v.toList ++ st).map (re base sa) = (v.map (re base sa)).toList ++ st.map (re base sa) := by cases v <;> rfl
  rw [e9] at K
  exact K
theorem G_callS5 {a1 a2 a3 a4 a5 : Value} (h : At cc pc (.invokestatic idx) 3 pc') (C : Ct sx y' cc' nL' ret' d' [a1, a2, a3, a4, a5] nx nx1 rf mem Q') (w : MS y' cc' nL' ret' 5) (hl : ML y.cls idx y') (hd : d' + 1 ≤ d) (hn : n0 ≤ nx ∧ nx ≤ nx1 ∧ nx1 ≤ n1) (hst : (st.map fun v => v.category).sum ≤ 8) (k : ∀ (v : Option Value) (rf' : RFt) (mem' : MMt), Q' v rf' mem' → RT ret' v → G sx y cc nL ret d n0 n1 Q nx1 rf' mem' pc' L (v.toList ++ st)) : G sx y cc nL ret d n0 n1 Q nx rf mem pc L (a5 :: a4 :: a3 :: a2 :: a1 :: st) := by
  intro p l e R s m args below meth c Z D dA base sa hC hF hR hret H locs lsr hH hL
  obtain ⟨hdc, rfl⟩ := h
  have hst2 : ((st.map (re base sa)).map fun v => v.category).sum ≤ 8 := by rw [List.map_map]; simpa [Function.comp_def, re_cat] using hst
  have hx1 := hn.2.1
  have hm1 := ss_mono hn.1; have hm2 := ss_mono hn.2.1; have hm3 := ss_mono hn.2.2
  have hf : nx - n0 + (nx1 - nx) ≤ R.cells ∧ ss nx - ss n0 + (ss nx1 - ss nx) ≤ R.slots := ⟨by omega, by omega⟩
  have hpc : ∀ U : State, U.heap = H → s.WarmedH U.vm → va_Pc (List.map (re base sa) [a1, a2, a3, a4, a5]) (OKs sx D dA base sa nx rf mem) ([re base sa a1, re base sa a2, re base sa a3, re base sa a4, re base sa a5]).toArray U := fun U hU hW => ⟨rfl, by rw [hU]; exact hH.1, by rw [hU]; exact hH.2.1, hH.2.2.1, hF.moved hW (by rw [hU]; exact hH.2.2.2.1) (fun q h1 h2 => by rw [hU]; exact hH.2.2.2.2.1 q h1 h2)⟩
  refine G_after hn hF hH (va_runS (As := [re base sa a1, re base sa a2, re base sa a3, re base sa a4, re base sa a5]) (rest := st.map (re base sa)) ⟨hC.1, hC.2.1, hC.2.2.1, hC.2.2.2.1, hC.2.2.2.2.1⟩ (C l D dA base sa) ⟨w.1.call hl hC.2.2.2.2.1 hd ⟨hR.1, hR.2.1⟩, hC.2.2.2.2.1 _ w.2⟩ ⟨Ct.blind, hpc⟩ rfl rfl hL.1 rfl (lv_room hst2) hdc hf) (fun v rf' mem' H1 locs1 hq hrt hH1 => ?_)
  have K := k v rf' mem' hq hrt p l e R s m args below meth c Z D dA base sa hC hF hR hret H1 locs1 lsr hH1 hL
  have e9 : (v.toList ++ st).map (re base sa) = (v.map (re base sa)).toList ++ st.map (re base sa) := by cases v <;> rfl
  rw [e9] at K
  exact K
theorem G_callSN2 {a1 a2 : Value} (h : At cc pc (.invokestatic idx) 3 pc') (C : Ct sx y' cc' nL' ret' d' [a1, a2] nx nx1 rf mem Q') (w : MS y' cc' nL' ret' 2) (hl : (y.cls, idx, y') ∈ nestL) (hd : d' + 1 ≤ d) (hn : n0 ≤ nx ∧ nx ≤ nx1 ∧ nx1 ≤ n1) (hst : (st.map fun v => v.category).sum ≤ 8) (k : ∀ (v : Option Value) (rf' : RFt) (mem' : MMt), Q' v rf' mem' → RT ret' v → G sx y cc nL ret d n0 n1 Q nx1 rf' mem' pc' L (v.toList ++ st)) : G sx y cc nL ret d n0 n1 Q nx rf mem pc L (a2 :: a1 :: st) := by
  intro p l e R s m args below meth c Z D dA base sa hC hF hR hret H locs lsr hH hL
  obtain ⟨hdc, rfl⟩ := h
  have hst2 : ((st.map (re base sa)).map fun v => v.category).sum ≤ 8 := by rw [List.map_map]; simpa [Function.comp_def, re_cat] using hst
  have hx1 := hn.2.1
  have hm1 := ss_mono hn.1; have hm2 := ss_mono hn.2.1; have hm3 := ss_mono hn.2.2
  have hf : nx - n0 + (nx1 - nx) ≤ R.cells ∧ ss nx - ss n0 + (ss nx1 - ss nx) ≤ R.slots := ⟨by omega, by omega⟩
  have hpc : ∀ U : State, U.heap = H → s.WarmedH U.vm → va_Pc (List.map (re base sa) [a1, a2]) (OKs sx D dA base sa nx rf mem) ([re base sa a1, re base sa a2]).toArray U := fun U hU hW => ⟨rfl, by rw [hU]; exact hH.1, by rw [hU]; exact hH.2.1, hH.2.2.1, hF.moved hW (by rw [hU]; exact hH.2.2.2.1) (fun q h1 h2 => by rw [hU]; exact hH.2.2.2.2.1 q h1 h2)⟩
  have hcn : va_CN R s args y.cls idx y' "NeckWorlds" cc' nL' ret' (.code y' cc' nL' ret' :: lw_g) (rom d' (nx1 - nx) (ss nx1 - ss nx)) (nx1 - nx) (ss nx1 - ss nx) 2 := va_cnB (ws' := lw_g) 2 hC.2.2.2.2.1 (code_in w.1.1) rfl rfl rfl (hF.2.1 _ hl) (hC.2.2.2.2.1 _ w.1.2.1) ⟨w.1.2.2.1.1, w.1.2.2.1.2, w.1.2.2.2.1⟩ ⟨by show d' + 1 ≤ R.frames; omega, by have := w.1.2.2.2.2; show 8 + (nL' + 11) + (100 * d' + 100) ≤ R.locals; omega⟩
  refine G_after hn hF hH (va_runSN (As := [re base sa a1, re base sa a2]) (rest := st.map (re base sa)) ⟨hC.1, hC.2.1, hC.2.2.1, hC.2.2.2.1, hC.2.2.2.2.1⟩ (C l D dA base sa) ⟨hcn, hC.2.2.2.2.1 _ w.2, trivial⟩ ⟨Ct.blind, hpc⟩ rfl rfl hL.1 rfl (lv_room hst2) hdc hf) (fun v rf' mem' H1 locs1 hq hrt hH1 => ?_)
  have K := k v rf' mem' hq hrt p l e R s m args below meth c Z D dA base sa hC hF hR hret H1 locs1 lsr hH1 hL
  have e9 : (v.toList ++ st).map (re base sa) = (v.map (re base sa)).toList ++ st.map (re base sa) := by cases v <;> rfl
  rw [e9] at K
  exact K
theorem G_callSN3 {a1 a2 a3 : Value} (h : At cc pc (.invokestatic idx) 3 pc') (C : Ct sx y' cc' nL' ret' d' [a1, a2, a3] nx nx1 rf mem Q') (w : MS y' cc' nL' ret' 3) (hl : (y.cls, idx, y') ∈ nestL) (hd : d' + 1 ≤ d) (hn : n0 ≤ nx ∧ nx ≤ nx1 ∧ nx1 ≤ n1) (hst : (st.map fun v => v.category).sum ≤ 8) (k : ∀ (v : Option Value) (rf' : RFt) (mem' : MMt), Q' v rf' mem' → RT ret' v → G sx y cc nL ret d n0 n1 Q nx1 rf' mem' pc' L (v.toList ++ st)) : G sx y cc nL ret d n0 n1 Q nx rf mem pc L (a3 :: a2 :: a1 :: st) := by
  intro p l e R s m args below meth c Z D dA base sa hC hF hR hret H locs lsr hH hL
  obtain ⟨hdc, rfl⟩ := h
  have hst2 : ((st.map (re base sa)).map fun v => v.category).sum ≤ 8 := by rw [List.map_map]; simpa [Function.comp_def, re_cat] using hst
  have hx1 := hn.2.1
  have hm1 := ss_mono hn.1; have hm2 := ss_mono hn.2.1; have hm3 := ss_mono hn.2.2
  have hf : nx - n0 + (nx1 - nx) ≤ R.cells ∧ ss nx - ss n0 + (ss nx1 - ss nx) ≤ R.slots := ⟨by omega, by omega⟩
  have hpc : ∀ U : State, U.heap = H → s.WarmedH U.vm → va_Pc (List.map (re base sa) [a1, a2, a3]) (OKs sx D dA base sa nx rf mem) ([re base sa a1, re base sa a2, re base sa a3]).toArray U := fun U hU hW => ⟨rfl, by rw [hU]; exact hH.1, by rw [hU]; exact hH.2.1, hH.2.2.1, hF.moved hW (by rw [hU]; exact hH.2.2.2.1) (fun q h1 h2 => by rw [hU]; exact hH.2.2.2.2.1 q h1 h2)⟩
  have hcn : va_CN R s args y.cls idx y' "NeckWorlds" cc' nL' ret' (.code y' cc' nL' ret' :: lw_g) (rom d' (nx1 - nx) (ss nx1 - ss nx)) (nx1 - nx) (ss nx1 - ss nx) 3 := va_cnB (ws' := lw_g) 3 hC.2.2.2.2.1 (code_in w.1.1) rfl rfl rfl (hF.2.1 _ hl) (hC.2.2.2.2.1 _ w.1.2.1) ⟨w.1.2.2.1.1, w.1.2.2.1.2, w.1.2.2.2.1⟩ ⟨by show d' + 1 ≤ R.frames; omega, by have := w.1.2.2.2.2; show 8 + (nL' + 11) + (100 * d' + 100) ≤ R.locals; omega⟩
  refine G_after hn hF hH (va_runSN (As := [re base sa a1, re base sa a2, re base sa a3]) (rest := st.map (re base sa)) ⟨hC.1, hC.2.1, hC.2.2.1, hC.2.2.2.1, hC.2.2.2.2.1⟩ (C l D dA base sa) ⟨hcn, hC.2.2.2.2.1 _ w.2, trivial⟩ ⟨Ct.blind, hpc⟩ rfl rfl hL.1 rfl (lv_room hst2) hdc hf) (fun v rf' mem' H1 locs1 hq hrt hH1 => ?_)
  have K := k v rf' mem' hq hrt p l e R s m args below meth c Z D dA base sa hC hF hR hret H1 locs1 lsr hH1 hL
  have e9 : (v.toList ++ st).map (re base sa) = (v.map (re base sa)).toList ++ st.map (re base sa) := by cases v <;> rfl
  rw [e9] at K
  exact K
theorem G_callV0 {b ci N : Nat} (h : At cc pc (.invokevirtual idx) 3 pc') (C : Ct sx y' cc' nL' ret' d' (.ref b :: []) nx nx1 rf mem Q') (w : MV y' cc' nL' ret' 0) (hl : ML y.cls idx y') (hd : d' + 1 ≤ d) (hn : n0 ≤ nx ∧ nx ≤ nx1 ∧ nx1 ≤ n1) (hst : (st.map fun v => v.category).sum ≤ 8) (hb : b < nx) (hSb : SH b = (ci + 10, N)) (hcb : (vwCl[ci]?).map (fun q => q.1) = some y'.cls) (k : ∀ (v : Option Value) (rf' : RFt) (mem' : MMt), Q' v rf' mem' → RT ret' v → G sx y cc nL ret d n0 n1 Q nx1 rf' mem' pc' L (v.toList ++ st)) : G sx y cc nL ret d n0 n1 Q nx rf mem pc L (.ref b :: st) := by
  intro p l e R s m args below meth c Z D dA base sa hC hF hR hret H locs lsr hH hL
  obtain ⟨hdc, rfl⟩ := h
  have hst2 : ((st.map (re base sa)).map fun v => v.category).sum ≤ 8 := by rw [List.map_map]; simpa [Function.comp_def, re_cat] using hst
  have hx1 := hn.2.1
  have hm1 := ss_mono hn.1; have hm2 := ss_mono hn.2.1; have hm3 := ss_mono hn.2.2
  have hf : nx - n0 + (nx1 - nx) ≤ R.cells ∧ ss nx - ss n0 + (ss nx1 - ss nx) ≤ R.slots := ⟨by omega, by omega⟩
  have hpc : ∀ U : State, U.heap = H → s.WarmedH U.vm → va_Pc (List.map (re base sa) (.ref b :: [])) (OKs sx D dA base sa nx rf mem) (.ref (KS base sa b) :: []).toArray U := fun U hU hW => ⟨rfl, by rw [hU]; exact hH.1, by rw [hU]; exact hH.2.1, hH.2.2.1, hF.moved hW (by rw [hU]; exact hH.2.2.2.1) (fun q h1 h2 => by rw [hU]; exact hH.2.2.2.2.1 q h1 h2)⟩
  have hrv : ∃ cellB : Cell, H[KS base sa b]? = some cellB ∧ cellB.vm.isStatics = false ∧ s.vm.findClass y'.cls = some cellB.cls := by
    cases hq : vwCl[ci]? with
    | none => rw [hq] at hcb; cases hcb
    | some q =>
      rw [hq] at hcb
      have e0 : q.1 = y'.cls := Option.some.inj hcb
      rw [← e0]
      exact va_recv hF.1 hH.1 hq (q0 := b) (ci := ci) (fs := (List.range N).map (fldv base sa rf mem ci b)) (by rw [world_at hb, celw_of hSb]; rfl)
  refine G_after hn hF hH (va_runV (As := []) (rest := st.map (re base sa)) ⟨hC.1, hC.2.1, hC.2.2.1, hC.2.2.2.1, hC.2.2.2.2.1⟩ (C l D dA base sa) ⟨w.1.call hl hC.2.2.2.2.1 hd ⟨hR.1, hR.2.1⟩, hC.2.2.2.2.1 _ w.2.1, hC.2.2.2.2.1 _ w.2.2⟩ ⟨Ct.blind, hrv, hpc⟩ rfl rfl hL.1 rfl (lv_room hst2) hdc hf) (fun v rf' mem' H1 locs1 hq hrt hH1 => ?_)
  have K := k v rf' mem' hq hrt p l e R s m args below meth c Z D dA base sa hC hF hR hret H1 locs1 lsr hH1 hL
  have e9 : (v.toList ++ st).map (re base sa) = (v.map (re base sa)).toList ++ st.map (re base sa) := by cases v <;> rfl
  rw [e9] at K
  exact K
theorem G_callV1 {a1 : Value} {b ci N : Nat} (h : At cc pc (.invokevirtual idx) 3 pc') (C : Ct sx y' cc' nL' ret' d' (.ref b :: [a1]) nx nx1 rf mem Q') (w : MV y' cc' nL' ret' 1) (hl : ML y.cls idx y') (hd : d' + 1 ≤ d) (hn : n0 ≤ nx ∧ nx ≤ nx1 ∧ nx1 ≤ n1) (hst : (st.map fun v => v.category).sum ≤ 8) (hb : b < nx) (hSb : SH b = (ci + 10, N)) (hcb : (vwCl[ci]?).map (fun q => q.1) = some y'.cls) (k : ∀ (v : Option Value) (rf' : RFt) (mem' : MMt), Q' v rf' mem' → RT ret' v → G sx y cc nL ret d n0 n1 Q nx1 rf' mem' pc' L (v.toList ++ st)) : G sx y cc nL ret d n0 n1 Q nx rf mem pc L (a1 :: .ref b :: st) := by
  intro p l e R s m args below meth c Z D dA base sa hC hF hR hret H locs lsr hH hL
  obtain ⟨hdc, rfl⟩ := h
  have hst2 : ((st.map (re base sa)).map fun v => v.category).sum ≤ 8 := by rw [List.map_map]; simpa [Function.comp_def, re_cat] using hst
  have hx1 := hn.2.1
  have hm1 := ss_mono hn.1; have hm2 := ss_mono hn.2.1; have hm3 := ss_mono hn.2.2
  have hf : nx - n0 + (nx1 - nx) ≤ R.cells ∧ ss nx - ss n0 + (ss nx1 - ss nx) ≤ R.slots := ⟨by omega, by omega⟩
  have hpc : ∀ U : State, U.heap = H → s.WarmedH U.vm → va_Pc (List.map (re base sa) (.ref b :: [a1])) (OKs sx D dA base sa nx rf mem) (.ref (KS base sa b) :: [re base sa a1]).toArray U := fun U hU hW => ⟨rfl, by rw [hU]; exact hH.1, by rw [hU]; exact hH.2.1, hH.2.2.1, hF.moved hW (by rw [hU]; exact hH.2.2.2.1) (fun q h1 h2 => by rw [hU]; exact hH.2.2.2.2.1 q h1 h2)⟩
  have hrv : ∃ cellB : Cell, H[KS base sa b]? = some cellB ∧ cellB.vm.isStatics = false ∧ s.vm.findClass y'.cls = some cellB.cls := by
    cases hq : vwCl[ci]? with
    | none => rw [hq] at hcb; cases hcb
    | some q =>
      rw [hq] at hcb
      have e0 : q.1 = y'.cls := Option.some.inj hcb
      rw [← e0]
      exact va_recv hF.1 hH.1 hq (q0 := b) (ci := ci) (fs := (List.range N).map (fldv base sa rf mem ci b)) (by rw [world_at hb, celw_of hSb]; rfl)
  refine G_after hn hF hH (va_runV (As := [re base sa a1]) (rest := st.map (re base sa)) ⟨hC.1, hC.2.1, hC.2.2.1, hC.2.2.2.1, hC.2.2.2.2.1⟩ (C l D dA base sa) ⟨w.1.call hl hC.2.2.2.2.1 hd ⟨hR.1, hR.2.1⟩, hC.2.2.2.2.1 _ w.2.1, hC.2.2.2.2.1 _ w.2.2⟩ ⟨Ct.blind, hrv, hpc⟩ rfl rfl hL.1 rfl (lv_room hst2) hdc hf) (fun v rf' mem' H1 locs1 hq hrt hH1 => ?_)
  have K := k v rf' mem' hq hrt p l e R s m args below meth c Z D dA base sa hC hF hR hret H1 locs1 lsr hH1 hL
  have e9 : (v.toList ++ st).map (re base sa) = (v.map (re base sa)).toList ++ st.map (re base sa) := by cases v <;> rfl
  rw [e9] at K
  exact K
theorem G_callV2 {a1 a2 : Value} {b ci N : Nat} (h : At cc pc (.invokevirtual idx) 3 pc') (C : Ct sx y' cc' nL' ret' d' (.ref b :: [a1, a2]) nx nx1 rf mem Q') (w : MV y' cc' nL' ret' 2) (hl : ML y.cls idx y') (hd : d' + 1 ≤ d) (hn : n0 ≤ nx ∧ nx ≤ nx1 ∧ nx1 ≤ n1) (hst : (st.map fun v => v.category).sum ≤ 8) (hb : b < nx) (hSb : SH b = (ci + 10, N)) (hcb : (vwCl[ci]?).map (fun q => q.1) = some y'.cls) (k : ∀ (v : Option Value) (rf' : RFt) (mem' : MMt), Q' v rf' mem' → RT ret' v → G sx y cc nL ret d n0 n1 Q nx1 rf' mem' pc' L (v.toList ++ st)) : G sx y cc nL ret d n0 n1 Q nx rf mem pc L (a2 :: a1 :: .ref b :: st) := by
  intro p l e R s m args below meth c Z D dA base sa hC hF hR hret H locs lsr hH hL
  obtain ⟨hdc, rfl⟩ := h
  have hst2 : ((st.map (re base sa)).map fun v => v.category).sum ≤ 8 := by rw [List.map_map]; simpa [Function.comp_def, re_cat] using hst
  have hx1 := hn.2.1
  have hm1 := ss_mono hn.1; have hm2 := ss_mono hn.2.1; have hm3 := ss_mono hn.2.2
  have hf : nx - n0 + (nx1 - nx) ≤ R.cells ∧ ss nx - ss n0 + (ss nx1 - ss nx) ≤ R.slots := ⟨by omega, by omega⟩
  have hpc : ∀ U : State, U.heap = H → s.WarmedH U.vm → va_Pc (List.map (re base sa) (.ref b :: [a1, a2])) (OKs sx D dA base sa nx rf mem) (.ref (KS base sa b) :: [re base sa a1, re base sa a2]).toArray U := fun U hU hW => ⟨rfl, by rw [hU]; exact hH.1, by rw [hU]; exact hH.2.1, hH.2.2.1, hF.moved hW (by rw [hU]; exact hH.2.2.2.1) (fun q h1 h2 => by rw [hU]; exact hH.2.2.2.2.1 q h1 h2)⟩
  have hrv : ∃ cellB : Cell, H[KS base sa b]? = some cellB ∧ cellB.vm.isStatics = false ∧ s.vm.findClass y'.cls = some cellB.cls := by
    cases hq : vwCl[ci]? with
    | none => rw [hq] at hcb; cases hcb
    | some q =>
      rw [hq] at hcb
      have e0 : q.1 = y'.cls := Option.some.inj hcb
      rw [← e0]
      exact va_recv hF.1 hH.1 hq (q0 := b) (ci := ci) (fs := (List.range N).map (fldv base sa rf mem ci b)) (by rw [world_at hb, celw_of hSb]; rfl)
  refine G_after hn hF hH (va_runV (As := [re base sa a1, re base sa a2]) (rest := st.map (re base sa)) ⟨hC.1, hC.2.1, hC.2.2.1, hC.2.2.2.1, hC.2.2.2.2.1⟩ (C l D dA base sa) ⟨w.1.call hl hC.2.2.2.2.1 hd ⟨hR.1, hR.2.1⟩, hC.2.2.2.2.1 _ w.2.1, hC.2.2.2.2.1 _ w.2.2⟩ ⟨Ct.blind, hrv, hpc⟩ rfl rfl hL.1 rfl (lv_room hst2) hdc hf) (fun v rf' mem' H1 locs1 hq hrt hH1 => ?_)
  have K := k v rf' mem' hq hrt p l e R s m args below meth c Z D dA base sa hC hF hR hret H1 locs1 lsr hH1 hL
  have e9 : (v.toList ++ st).map (re base sa) = (v.map (re base sa)).toList ++ st.map (re base sa) := by cases v <;> rfl
  rw [e9] at K
  exact K
theorem G_callV3 {a1 a2 a3 : Value} {b ci N : Nat} (h : At cc pc (.invokevirtual idx) 3 pc') (C : Ct sx y' cc' nL' ret' d' (.ref b :: [a1, a2, a3]) nx nx1 rf mem Q') (w : MV y' cc' nL' ret' 3) (hl : ML y.cls idx y') (hd : d' + 1 ≤ d) (hn : n0 ≤ nx ∧ nx ≤ nx1 ∧ nx1 ≤ n1) (hst : (st.map fun v => v.category).sum ≤ 8) (hb : b < nx) (hSb : SH b = (ci + 10, N)) (hcb : (vwCl[ci]?).map (fun q => q.1) = some y'.cls) (k : ∀ (v : Option Value) (rf' : RFt) (mem' : MMt), Q' v rf' mem' → RT ret' v → G sx y cc nL ret d n0 n1 Q nx1 rf' mem' pc' L (v.toList ++ st)) : G sx y cc nL ret d n0 n1 Q nx rf mem pc L (a3 :: a2 :: a1 :: .ref b :: st) := by
  intro p l e R s m args below meth c Z D dA base sa hC hF hR hret H locs lsr hH hL
  obtain ⟨hdc, rfl⟩ := h
  have hst2 : ((st.map (re base sa)).map fun v => v.category).sum ≤ 8 := by rw [List.map_map]; simpa [Function.comp_def, re_cat] using hst
  have hx1 := hn.2.1
  have hm1 := ss_mono hn.1; have hm2 := ss_mono hn.2.1; have hm3 := ss_mono hn.2.2
  have hf : nx - n0 + (nx1 - nx) ≤ R.cells ∧ ss nx - ss n0 + (ss nx1 - ss nx) ≤ R.slots := ⟨by omega, by omega⟩
  have hpc : ∀ U : State, U.heap = H → s.WarmedH U.vm → va_Pc (List.map (re base sa) (.ref b :: [a1, a2, a3])) (OKs sx D dA base sa nx rf mem) (.ref (KS base sa b) :: [re base sa a1, re base sa a2, re base sa a3]).toArray U := fun U hU hW => ⟨rfl, by rw [hU]; exact hH.1, by rw [hU]; exact hH.2.1, hH.2.2.1, hF.moved hW (by rw [hU]; exact hH.2.2.2.1) (fun q h1 h2 => by rw [hU]; exact hH.2.2.2.2.1 q h1 h2)⟩
  have hrv : ∃ cellB : Cell, H[KS base sa b]? = some cellB ∧ cellB.vm.isStatics = false ∧ s.vm.findClass y'.cls = some cellB.cls := by
    cases hq : vwCl[ci]? with
    | none => rw [hq] at hcb; cases hcb
    | some q =>
      rw [hq] at hcb
      have e0 : q.1 = y'.cls := Option.some.inj hcb
      rw [← e0]
      exact va_recv hF.1 hH.1 hq (q0 := b) (ci := ci) (fs := (List.range N).map (fldv base sa rf mem ci b)) (by rw [world_at hb, celw_of hSb]; rfl)
  refine G_after hn hF hH (va_runV (As := [re base sa a1, re base sa a2, re base sa a3]) (rest := st.map (re base sa)) ⟨hC.1, hC.2.1, hC.2.2.1, hC.2.2.2.1, hC.2.2.2.2.1⟩ (C l D dA base sa) ⟨w.1.call hl hC.2.2.2.2.1 hd ⟨hR.1, hR.2.1⟩, hC.2.2.2.2.1 _ w.2.1, hC.2.2.2.2.1 _ w.2.2⟩ ⟨Ct.blind, hrv, hpc⟩ rfl rfl hL.1 rfl (lv_room hst2) hdc hf) (fun v rf' mem' H1 locs1 hq hrt hH1 => ?_)
  have K := k v rf' mem' hq hrt p l e R s m args below meth c Z D dA base sa hC hF hR hret H1 locs1 lsr hH1 hL
  have e9 : (v.toList ++ st).map (re base sa) = (v.map (re base sa)).toList ++ st.map (re base sa) := by cases v <;> rfl
  rw [e9] at K
  exact K
theorem G_callV4 {a1 a2 a3 a4 : Value} {b ci N : Nat} (h : At cc pc (.invokevirtual idx) 3 pc') (C : Ct sx y' cc' nL' ret' d' (.ref b :: [a1, a2, a3, a4]) nx nx1 rf mem Q') (w : MV y' cc' nL' ret' 4) (hl : ML y.cls idx y') (hd : d' + 1 ≤ d) (hn : n0 ≤ nx ∧ nx ≤ nx1 ∧ nx1 ≤ n1) (hst : (st.map fun v => v.category).sum ≤ 8) (hb : b < nx) (hSb : SH b = (ci + 10, N)) (hcb : (vwCl[ci]?).map (fun q => q.1) = some y'.cls) (k : ∀ (v : Option Value) (rf' : RFt) (mem' : MMt), Q' v rf' mem' → RT ret' v → G sx y cc nL ret d n0 n1 Q nx1 rf' mem' pc' L (v.toList ++ st)) : G sx y cc nL ret d n0 n1 Q nx rf mem pc L (a4 :: a3 :: a2 :: a1 :: .ref b :: st) := by
  intro p l e R s m args below meth c Z D dA base sa hC hF hR hret H locs lsr hH hL
  obtain ⟨hdc, rfl⟩ := h
  have hst2 : ((st.map (re base sa)).map fun v => v.category).sum ≤ 8 := by rw [List.map_map]; simpa [Function.comp_def, re_cat] using hst
  have hx1 := hn.2.1
  have hm1 := ss_mono hn.1; have hm2 := ss_mono hn.2.1; have hm3 := ss_mono hn.2.2
  have hf : nx - n0 + (nx1 - nx) ≤ R.cells ∧ ss nx - ss n0 + (ss nx1 - ss nx) ≤ R.slots := ⟨by omega, by omega⟩
  have hpc : ∀ U : State, U.heap = H → s.WarmedH U.vm → va_Pc (List.map (re base sa) (.ref b :: [a1, a2, a3, a4])) (OKs sx D dA base sa nx rf mem) (.ref (KS base sa b) :: [re base sa a1, re base sa a2, re base sa a3, re base sa a4]).toArray U := fun U hU hW => ⟨rfl, by rw [hU]; exact hH.1, by rw [hU]; exact hH.2.1, hH.2.2.1, hF.moved hW (by rw [hU]; exact hH.2.2.2.1) (fun q h1 h2 => by rw [hU]; exact hH.2.2.2.2.1 q h1 h2)⟩
  have hrv : ∃ cellB : Cell, H[KS base sa b]? = some cellB ∧ cellB.vm.isStatics = false ∧ s.vm.findClass y'.cls = some cellB.cls := by
    cases hq : vwCl[ci]? with
    | none => rw [hq] at hcb; cases hcb
    | some q =>
      rw [hq] at hcb
      have e0 : q.1 = y'.cls := Option.some.inj hcb
      rw [← e0]
      exact va_recv hF.1 hH.1 hq (q0 := b) (ci := ci) (fs := (List.range N).map (fldv base sa rf mem ci b)) (by rw [world_at hb, celw_of hSb]; rfl)
  refine G_after hn hF hH (va_runV (As := [re base sa a1, re base sa a2, re base sa a3, re base sa a4]) (rest := st.map (re base sa)) ⟨hC.1, hC.2.1, hC.2.2.1, hC.2.2.2.1, hC.2.2.2.2.1⟩ (C l D dA base sa) ⟨w.1.call hl hC.2.2.2.2.1 hd ⟨hR.1, hR.2.1⟩, hC.2.2.2.2.1 _ w.2.1, hC.2.2.2.2.1 _ w.2.2⟩ ⟨Ct.blind, hrv, hpc⟩ rfl rfl hL.1 rfl (lv_room hst2) hdc hf) (fun v rf' mem' H1 locs1 hq hrt hH1 => ?_)
  have K := k v rf' mem' hq hrt p l e R s m args below meth c Z D dA base sa hC hF hR hret H1 locs1 lsr hH1 hL
  have e9 : (v.toList ++ st).map (re base sa) = (v.map (re base sa)).toList ++ st.map (re base sa) := by cases v <;> rfl
  rw [e9] at K
  exact K
theorem G_callV5 {a1 a2 a3 a4 a5 : Value} {b ci N : Nat} (h : At cc pc (.invokevirtual idx) 3 pc') (C : Ct sx y' cc' nL' ret' d' (.ref b :: [a1, a2, a3, a4, a5]) nx nx1 rf mem Q') (w : MV y' cc' nL' ret' 5) (hl : ML y.cls idx y') (hd : d' + 1 ≤ d) (hn : n0 ≤ nx ∧ nx ≤ nx1 ∧ nx1 ≤ n1) (hst : (st.map fun v => v.category).sum ≤ 8) (hb : b < nx) (hSb : SH b = (ci + 10, N)) (hcb : (vwCl[ci]?).map (fun q => q.1) = some y'.cls) (k : ∀ (v : Option Value) (rf' : RFt) (mem' : MMt), Q' v rf' mem' → RT ret' v → G sx y cc nL ret d n0 n1 Q nx1 rf' mem' pc' L (v.toList ++ st)) : G sx y cc nL ret d n0 n1 Q nx rf mem pc L (a5 :: a4 :: a3 :: a2 :: a1 :: .ref b :: st) := by
  intro p l e R s m args below meth c Z D dA base sa hC hF hR hret H locs lsr hH hL
  obtain ⟨hdc, rfl⟩ := h
  have hst2 : ((st.map (re base sa)).map fun v => v.category).sum ≤ 8 := by rw [List.map_map]; simpa [Function.comp_def, re_cat] using hst
  have hx1 := hn.2.1
  have hm1 := ss_mono hn.1; have hm2 := ss_mono hn.2.1; have hm3 := ss_mono hn.2.2
  have hf : nx - n0 + (nx1 - nx) ≤ R.cells ∧ ss nx - ss n0 + (ss nx1 - ss nx) ≤ R.slots := ⟨by omega, by omega⟩
  have hpc : ∀ U : State, U.heap = H → s.WarmedH U.vm → va_Pc (List.map (re base sa) (.ref b :: [a1, a2, a3, a4, a5])) (OKs sx D dA base sa nx rf mem) (.ref (KS base sa b) :: [re base sa a1, re base sa a2, re base sa a3, re base sa a4, re base sa a5]).toArray U := fun U hU hW => ⟨rfl, by rw [hU]; exact hH.1, by rw [hU]; exact hH.2.1, hH.2.2.1, hF.moved hW (by rw [hU]; exact hH.2.2.2.1) (fun q h1 h2 => by rw [hU]; exact hH.2.2.2.2.1 q h1 h2)⟩
  have hrv : ∃ cellB : Cell, H[KS base sa b]? = some cellB ∧ cellB.vm.isStatics = false ∧ s.vm.findClass y'.cls = some cellB.cls := by
    cases hq : vwCl[ci]? with
    | none => rw [hq] at hcb; cases hcb
    | some q =>
      rw [hq] at hcb
      have e0 : q.1 = y'.cls := Option.some.inj hcb
      rw [← e0]
      exact va_recv hF.1 hH.1 hq (q0 := b) (ci := ci) (fs := (List.range N).map (fldv base sa rf mem ci b)) (by rw [world_at hb, celw_of hSb]; rfl)
  refine G_after hn hF hH (va_runV (As := [re base sa a1, re base sa a2, re base sa a3, re base sa a4, re base sa a5]) (rest := st.map (re base sa)) ⟨hC.1, hC.2.1, hC.2.2.1, hC.2.2.2.1, hC.2.2.2.2.1⟩ (C l D dA base sa) ⟨w.1.call hl hC.2.2.2.2.1 hd ⟨hR.1, hR.2.1⟩, hC.2.2.2.2.1 _ w.2.1, hC.2.2.2.2.1 _ w.2.2⟩ ⟨Ct.blind, hrv, hpc⟩ rfl rfl hL.1 rfl (lv_room hst2) hdc hf) (fun v rf' mem' H1 locs1 hq hrt hH1 => ?_)
  have K := k v rf' mem' hq hrt p l e R s m args below meth c Z D dA base sa hC hF hR hret H1 locs1 lsr hH1 hL
  have e9 : (v.toList ++ st).map (re base sa) = (v.map (re base sa)).toList ++ st.map (re base sa) := by cases v <;> rfl
  rw [e9] at K
  exact K
theorem G_callVS0 {b : Nat} (h : At cc pc (.invokevirtual idx) 3 pc') (C : Ct sx y' cc' nL' ret' d' (.ref (1002 + b) :: []) nx nx1 rf mem Q') (w : MV y' cc' nL' ret' 0) (hl : ML y.cls idx y') (hd : d' + 1 ≤ d) (hn : n0 ≤ nx ∧ nx ≤ nx1 ∧ nx1 ≤ n1) (hst : (st.map fun v => v.category).sum ≤ 8) (hb : b < 3) (hcb : y'.cls = "java/lang/String") (k : ∀ (v : Option Value) (rf' : RFt) (mem' : MMt), Q' v rf' mem' → RT ret' v → G sx y cc nL ret d n0 n1 Q nx1 rf' mem' pc' L (v.toList ++ st)) : G sx y cc nL ret d n0 n1 Q nx rf mem pc L (.ref (1002 + b) :: st) := by
  intro p l e R s m args below meth c Z D dA base sa hC hF hR hret H locs lsr hH hL
  obtain ⟨hdc, rfl⟩ := h
  have hst2 : ((st.map (re base sa)).map fun v => v.category).sum ≤ 8 := by rw [List.map_map]; simpa [Function.comp_def, re_cat] using hst
  have hx1 := hn.2.1
  have hm1 := ss_mono hn.1; have hm2 := ss_mono hn.2.1; have hm3 := ss_mono hn.2.2
  have hf : nx - n0 + (nx1 - nx) ≤ R.cells ∧ ss nx - ss n0 + (ss nx1 - ss nx) ≤ R.slots := ⟨by omega, by omega⟩
  have hpc : ∀ U : State, U.heap = H → s.WarmedH U.vm → va_Pc (List.map (re base sa) (.ref (1002 + b) :: [])) (OKs sx D dA base sa nx rf mem) (.ref (KS base sa (1002 + b)) :: []).toArray U := fun U hU hW => ⟨rfl, by rw [hU]; exact hH.1, by rw [hU]; exact hH.2.1, hH.2.2.1, hF.moved hW (by rw [hU]; exact hH.2.2.2.1) (fun q h1 h2 => by rw [hU]; exact hH.2.2.2.2.1 q h1 h2)⟩
  have hrv : ∃ cellB : Cell, H[KS base sa (1002 + b)]? = some cellB ∧ cellB.vm.isStatics = false ∧ s.vm.findClass y'.cls = some cellB.cls := by
    rw [hcb, show KS base sa (1002 + b) = sa (1002 + b) from if_neg (by omega)]
    exact vk_recv (i := b) (adK := fun i => sa (1002 + i)) hF.2.2.2.2.2.2.2.2.1 hb hH.2.2.2
  refine G_after hn hF hH (va_runV (As := []) (rest := st.map (re base sa)) ⟨hC.1, hC.2.1, hC.2.2.1, hC.2.2.2.1, hC.2.2.2.2.1⟩ (C l D dA base sa) ⟨w.1.call hl hC.2.2.2.2.1 hd ⟨hR.1, hR.2.1⟩, hC.2.2.2.2.1 _ w.2.1, hC.2.2.2.2.1 _ w.2.2⟩ ⟨Ct.blind, hrv, hpc⟩ rfl rfl hL.1 rfl (lv_room hst2) hdc hf) (fun v rf' mem' H1 locs1 hq hrt hH1 => ?_)
  have K := k v rf' mem' hq hrt p l e R s m args below meth c Z D dA base sa hC hF hR hret H1 locs1 lsr hH1 hL
  have e9 : (v.toList ++ st).map (re base sa) = (v.map (re base sa)).toList ++ st.map (re base sa) := by cases v <;> rfl
  rw [e9] at K
  exact K
theorem G_callVS1 {a1 : Value} {b : Nat} (h : At cc pc (.invokevirtual idx) 3 pc') (C : Ct sx y' cc' nL' ret' d' (.ref (1002 + b) :: [a1]) nx nx1 rf mem Q') (w : MV y' cc' nL' ret' 1) (hl : ML y.cls idx y') (hd : d' + 1 ≤ d) (hn : n0 ≤ nx ∧ nx ≤ nx1 ∧ nx1 ≤ n1) (hst : (st.map fun v => v.category).sum ≤ 8) (hb : b < 3) (hcb : y'.cls = "java/lang/String") (k : ∀ (v : Option Value) (rf' : RFt) (mem' : MMt), Q' v rf' mem' → RT ret' v → G sx y cc nL ret d n0 n1 Q nx1 rf' mem' pc' L (v.toList ++ st)) : G sx y cc nL ret d n0 n1 Q nx rf mem pc L (a1 :: .ref (1002 + b) :: st) := by
  intro p l e R s m args below meth c Z D dA base sa hC hF hR hret H locs lsr hH hL
  obtain ⟨hdc, rfl⟩ := h
  have hst2 : ((st.map (re base sa)).map fun v => v.category).sum ≤ 8 := by rw [List.map_map]; simpa [Function.comp_def, re_cat] using hst
  have hx1 := hn.2.1
  have hm1 := ss_mono hn.1; have hm2 := ss_mono hn.2.1; have hm3 := ss_mono hn.2.2
  have hf : nx - n0 + (nx1 - nx) ≤ R.cells ∧ ss nx - ss n0 + (ss nx1 - ss nx) ≤ R.slots := ⟨by omega, by omega⟩
  have hpc : ∀ U : State, U.heap = H → s.WarmedH U.vm → va_Pc (List.map (re base sa) (.ref (1002 + b) :: [a1])) (OKs sx D dA base sa nx rf mem) (.ref (KS base sa (1002 + b)) :: [re base sa a1]).toArray U := fun U hU hW => ⟨rfl, by rw [hU]; exact hH.1, by rw [hU]; exact hH.2.1, hH.2.2.1, hF.moved hW (by rw [hU]; exact hH.2.2.2.1) (fun q h1 h2 => by rw [hU]; exact hH.2.2.2.2.1 q h1 h2)⟩
  have hrv : ∃ cellB : Cell, H[KS base sa (1002 + b)]? = some cellB ∧ cellB.vm.isStatics = false ∧ s.vm.findClass y'.cls = some cellB.cls := by
    rw [hcb, show KS base sa (1002 + b) = sa (1002 + b) from if_neg (by omega)]
    exact vk_recv (i := b) (adK := fun i => sa (1002 + i)) hF.2.2.2.2.2.2.2.2.1 hb hH.2.2.2
  refine G_after hn hF hH (va_runV (As := [re base sa a1]) (rest := st.map (re base sa)) ⟨hC.1, hC.2.1, hC.2.2.1, hC.2.2.2.1, hC.2.2.2.2.1⟩ (C l D dA base sa) ⟨w.1.call hl hC.2.2.2.2.1 hd ⟨hR.1, hR.2.1⟩, hC.2.2.2.2.1 _ w.2.1, hC.2.2.2.2.1 _ w.2.2⟩ ⟨Ct.blind, hrv, hpc⟩ rfl rfl hL.1 rfl (lv_room hst2) hdc hf) (fun v rf' mem' H1 locs1 hq hrt hH1 => ?_)
  have K := k v rf' mem' hq hrt p l e R s m args below meth c Z D dA base sa hC hF hR hret H1 locs1 lsr hH1 hL
  have e9 : (v.toList ++ st).map (re base sa) = (v.map (re base sa)).toList ++ st.map (re base sa) := by cases v <;> rfl
  rw [e9] at K
  exact K
theorem G_callVS2 {a1 a2 : Value} {b : Nat} (h : At cc pc (.invokevirtual idx) 3 pc') (C : Ct sx y' cc' nL' ret' d' (.ref (1002 + b) :: [a1, a2]) nx nx1 rf mem Q') (w : MV y' cc' nL' ret' 2) (hl : ML y.cls idx y') (hd : d' + 1 ≤ d) (hn : n0 ≤ nx ∧ nx ≤ nx1 ∧ nx1 ≤ n1) (hst : (st.map fun v => v.category).sum ≤ 8) (hb : b < 3) (hcb : y'.cls = "java/lang/String") (k : ∀ (v : Option Value) (rf' : RFt) (mem' : MMt), Q' v rf' mem' → RT ret' v → G sx y cc nL ret d n0 n1 Q nx1 rf' mem' pc' L (v.toList ++ st)) : G sx y cc nL ret d n0 n1 Q nx rf mem pc L (a2 :: a1 :: .ref (1002 + b) :: st) := by
  intro p l e R s m args below meth c Z D dA base sa hC hF hR hret H locs lsr hH hL
  obtain ⟨hdc, rfl⟩ := h
  have hst2 : ((st.map (re base sa)).map fun v => v.category).sum ≤ 8 := by rw [List.map_map]; simpa [Function.comp_def, re_cat] using hst
  have hx1 := hn.2.1
  have hm1 := ss_mono hn.1; have hm2 := ss_mono hn.2.1; have hm3 := ss_mono hn.2.2
  have hf : nx - n0 + (nx1 - nx) ≤ R.cells ∧ ss nx - ss n0 + (ss nx1 - ss nx) ≤ R.slots := ⟨by omega, by omega⟩
  have hpc : ∀ U : State, U.heap = H → s.WarmedH U.vm → va_Pc (List.map (re base sa) (.ref (1002 + b) :: [a1, a2])) (OKs sx D dA base sa nx rf mem) (.ref (KS base sa (1002 + b)) :: [re base sa a1, re base sa a2]).toArray U := fun U hU hW => ⟨rfl, by rw [hU]; exact hH.1, by rw [hU]; exact hH.2.1, hH.2.2.1, hF.moved hW (by rw [hU]; exact hH.2.2.2.1) (fun q h1 h2 => by rw [hU]; exact hH.2.2.2.2.1 q h1 h2)⟩
  have hrv : ∃ cellB : Cell, H[KS base sa (1002 + b)]? = some cellB ∧ cellB.vm.isStatics = false ∧ s.vm.findClass y'.cls = some cellB.cls := by
    rw [hcb, show KS base sa (1002 + b) = sa (1002 + b) from if_neg (by omega)]
    exact vk_recv (i := b) (adK := fun i => sa (1002 + i)) hF.2.2.2.2.2.2.2.2.1 hb hH.2.2.2
  refine G_after hn hF hH (va_runV (As := [re base sa a1, re base sa a2]) (rest := st.map (re base sa)) ⟨hC.1, hC.2.1, hC.2.2.1, hC.2.2.2.1, hC.2.2.2.2.1⟩ (C l D dA base sa) ⟨w.1.call hl hC.2.2.2.2.1 hd ⟨hR.1, hR.2.1⟩, hC.2.2.2.2.1 _ w.2.1, hC.2.2.2.2.1 _ w.2.2⟩ ⟨Ct.blind, hrv, hpc⟩ rfl rfl hL.1 rfl (lv_room hst2) hdc hf) (fun v rf' mem' H1 locs1 hq hrt hH1 => ?_)
  have K := k v rf' mem' hq hrt p l e R s m args below meth c Z D dA base sa hC hF hR hret H1 locs1 lsr hH1 hL
  have e9 : (v.toList ++ st).map (re base sa) = (v.map (re base sa)).toList ++ st.map (re base sa) := by cases v <;> rfl
  rw [e9] at K
  exact K
theorem G_callI0 {b : Nat} (h : At cc pc (.invokespecial idx) 3 pc') (C : Ct sx y' cc' nL' none d' (.ref b :: []) nx nx1 rf mem Q') (w : MI y' cc' nL' 0) (hl : ML y.cls idx y') (hd : d' + 1 ≤ d) (hn : n0 ≤ nx ∧ nx ≤ nx1 ∧ nx1 ≤ n1) (hst : (st.map fun v => v.category).sum ≤ 8) (k : ∀ (v : Option Value) (rf' : RFt) (mem' : MMt), Q' v rf' mem' → RT none v → G sx y cc nL ret d n0 n1 Q nx1 rf' mem' pc' L (v.toList ++ st)) : G sx y cc nL ret d n0 n1 Q nx rf mem pc L (.ref b :: st) := by
  intro p l e R s m args below meth c Z D dA base sa hC hF hR hret H locs lsr hH hL
  obtain ⟨hdc, rfl⟩ := h
  have hst2 : ((st.map (re base sa)).map fun v => v.category).sum ≤ 8 := by rw [List.map_map]; simpa [Function.comp_def, re_cat] using hst
  have hx1 := hn.2.1
  have hm1 := ss_mono hn.1; have hm2 := ss_mono hn.2.1; have hm3 := ss_mono hn.2.2
  have hf : nx - n0 + (nx1 - nx) ≤ R.cells ∧ ss nx - ss n0 + (ss nx1 - ss nx) ≤ R.slots := ⟨by omega, by omega⟩
  have hpc : ∀ U : State, U.heap = H → s.WarmedH U.vm → va_Pc (List.map (re base sa) (.ref b :: [])) (OKs sx D dA base sa nx rf mem) (.ref (KS base sa b) :: []).toArray U := fun U hU hW => ⟨rfl, by rw [hU]; exact hH.1, by rw [hU]; exact hH.2.1, hH.2.2.1, hF.moved hW (by rw [hU]; exact hH.2.2.2.1) (fun q h1 h2 => by rw [hU]; exact hH.2.2.2.2.1 q h1 h2)⟩
  refine G_after hn hF hH (va_runI (As := []) (rest := st.map (re base sa)) ⟨hC.1, hC.2.1, hC.2.2.1, hC.2.2.2.1, hC.2.2.2.2.1⟩ (C l D dA base sa) ⟨w.1.call hl hC.2.2.2.2.1 hd ⟨hR.1, hR.2.1⟩, w.2.2, hC.2.2.2.2.1 _ w.2.1⟩ ⟨Ct.blind, hpc⟩ rfl rfl hL.1 rfl (lv_room hst2) hdc hf) (fun v rf' mem' H1 locs1 hq hrt hH1 => ?_)
  have K := k v rf' mem' hq hrt p l e R s m args below meth c Z D dA base sa hC hF hR hret H1 locs1 lsr hH1 hL
  have e9 : (v.toList ++ st).map (re base sa) = (v.map (re base sa)).toList ++ st.map (re base sa) := by cases v <;> rfl
  rw [e9] at K
  exact K
theorem G_callI1 {a1 : Value} {b : Nat} (h : At cc pc (.invokespecial idx) 3 pc') (C : Ct sx y' cc' nL' none d' (.ref b :: [a1]) nx nx1 rf mem Q') (w : MI y' cc' nL' 1) (hl : ML y.cls idx y') (hd : d' + 1 ≤ d) (hn : n0 ≤ nx ∧ nx ≤ nx1 ∧ nx1 ≤ n1) (hst : (st.map fun v => v.category).sum ≤ 8) (k : ∀ (v : Option Value) (rf' : RFt) (mem' : MMt), Q' v rf' mem' → RT none v → G sx y cc nL ret d n0 n1 Q nx1 rf' mem' pc' L (v.toList ++ st)) : G sx y cc nL ret d n0 n1 Q nx rf mem pc L (a1 :: .ref b :: st) := by
  intro p l e R s m args below meth c Z D dA base sa hC hF hR hret H locs lsr hH hL
  obtain ⟨hdc, rfl⟩ := h
  have hst2 : ((st.map (re base sa)).map fun v => v.category).sum ≤ 8 := by rw [List.map_map]; simpa [Function.comp_def, re_cat] using hst
  have hx1 := hn.2.1
  have hm1 := ss_mono hn.1; have hm2 := ss_mono hn.2.1; have hm3 := ss_mono hn.2.2
  have hf : nx - n0 + (nx1 - nx) ≤ R.cells ∧ ss nx - ss n0 + (ss nx1 - ss nx) ≤ R.slots := ⟨by omega, by omega⟩
  have hpc : ∀ U : State, U.heap = H → s.WarmedH U.vm → va_Pc (List.map (re base sa) (.ref b :: [a1])) (OKs sx D dA base sa nx rf mem) (.ref (KS base sa b) :: [re base sa a1]).toArray U := fun U hU hW => ⟨rfl, by rw [hU]; exact hH.1, by rw [hU]; exact hH.2.1, hH.2.2.1, hF.moved hW (by rw [hU]; exact hH.2.2.2.1) (fun q h1 h2 => by rw [hU]; exact hH.2.2.2.2.1 q h1 h2)⟩
  refine G_after hn hF hH (va_runI (As := [re base sa a1]) (rest := st.map (re base sa)) ⟨hC.1, hC.2.1, hC.2.2.1, hC.2.2.2.1, hC.2.2.2.2.1⟩ (C l D dA base sa) ⟨w.1.call hl hC.2.2.2.2.1 hd ⟨hR.1, hR.2.1⟩, w.2.2, hC.2.2.2.2.1 _ w.2.1⟩ ⟨Ct.blind, hpc⟩ rfl rfl hL.1 rfl (lv_room hst2) hdc hf) (fun v rf' mem' H1 locs1 hq hrt hH1 => ?_)
  have K := k v rf' mem' hq hrt p l e R s m args below meth c Z D dA base sa hC hF hR hret H1 locs1 lsr hH1 hL
  have e9 : (v.toList ++ st).map (re base sa) = (v.map (re base sa)).toList ++ st.map (re base sa) := by cases v <;> rfl
  rw [e9] at K
  exact K
end CALLS
