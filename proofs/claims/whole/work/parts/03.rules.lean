abbrev At (cc : ByteArray) (pc : Nat) (i : Instr) (len pc' : Nat) : Prop := decode cc pc = .ok (i, len) ∧ pc + len = pc'
abbrev Bt (cc : ByteArray) (pc : Nat) (i : Instr) (off : Int) (tgt pc' : Nat) : Prop := decode cc pc = .ok (i, 3) ∧ (pc : Int) + off = (tgt : Int) ∧ pc + 3 = pc'
def okst (L : List (Option Value)) (i : Nat) : Bool := match i with
  | 0 => true
  | j + 1 => match L[j]? with
    | some (some w) => w.category == 1
    | _ => true
def stor (L : List (Option Value)) (i : Nat) (v : Value) : Option (List (Option Value)) := if i < L.length ∧ okst L i = true then some (L.set i (some v)) else none
def prs (base : Nat) (sa : Nat → Nat) (L : List (Option Value)) : List (Nat × Value) := (List.range L.length).filterMap fun i => match L[i]? with
  | some (some v) => some (i, re base sa v)
  | _ => none
theorem prs_in {base : Nat} {sa : Nat → Nat} {L : List (Option Value)} {i : Nat} {v : Value} (h : L[i]? = some (some v)) : (i, re base sa v) ∈ prs base sa L := by
  refine List.mem_filterMap.mpr ⟨i, List.mem_range.mpr (List.getElem?_eq_some_iff.mp h).1, ?_⟩
  rw [h]
theorem prs_of {base : Nat} {sa : Nat → Nat} {L : List (Option Value)} {q : Nat × Value} (h : q ∈ prs base sa L) : ∃ v, L[q.1]? = some (some v) ∧ q.2 = re base sa v := by
  obtain ⟨i, -, hi⟩ := List.mem_filterMap.mp h
  split at hi
  · rename_i v hv
    cases hi
    exact ⟨v, hv, rfl⟩
  · cases hi
theorem LV.has {base : Nat} {sa : Nat → Nat} {lsr : Array Slot} {nL : Nat} {L : List (Option Value)} (h : LV base sa lsr nL L) : lv_has lsr nL (prs base sa L) := by
  refine ⟨h.1, h.2.1, fun q hq => ?_⟩
  obtain ⟨v, h1, h2⟩ := prs_of hq
  rw [h2]
  exact h.2.2.2 q.1 v h1
theorem LV.stored {base : Nat} {sa : Nat → Nat} {lsr : Array Slot} {nL i : Nat} {v : Value} {L L' : List (Option Value)} (h : LV base sa lsr nL L) (hs : stor L i v = some L') :
    i < nL ∧ ∀ ls' : Array Slot, lv_has ls' nL ((i, re base sa v) :: (prs base sa L).filter (fun q => !(q.1 == i) && !(q.1 + 1 == i && q.2.category == 2))) → LV base sa ls' nL L' := by
  unfold stor at hs
  split at hs
  · rename_i hc
    cases hs
    obtain ⟨hc1, hc2⟩ := hc
    refine ⟨Nat.lt_of_lt_of_le hc1 h.2.2.1, fun ls' hh => ⟨hh.1, hh.2.1, by rw [List.length_set]; exact h.2.2.1, fun k w hk => ?_⟩⟩
    rw [List.getElem?_set] at hk
    by_cases e : i = k
    · subst e
      rw [if_pos rfl, if_pos hc1] at hk
      cases hk
      exact hh.2.2 _ List.mem_cons_self
    · rw [if_neg e] at hk
      refine hh.2.2 (k, re base sa w) (List.mem_cons_of_mem _ (List.mem_filter.mpr ⟨prs_in hk, ?_⟩))
      have e1 : (k == i) = false := by simpa using fun q : k = i => e q.symm
      simp only [e1, Bool.not_false, Bool.true_and, Bool.not_eq_true', Bool.and_eq_false_iff]
      by_cases e2 : k + 1 = i
      · right
        subst e2
        have hc3 : (w.category == 1) = true := by
          have h7 := hc2
          unfold okst at h7
          simp only [hk] at h7
          exact h7
        rw [re_cat]
        have : w.category = 1 := by simpa using hc3
        simp [this]
      · left
        simpa using e2
  · cases hs
theorem HPat {D : va_G} {dA : Nat → ClassId} {base : Nat} {sa : Nat → Nat} {nx : Nat} {rf : RFt} {mem : MMt} {s : State} {H : Heap} {locs : List Loc} (h : HP D dA base sa nx rf mem s H locs) : ∀ q, s.heap.size ≤ q → s.heap.size ≤ q := fun _ h => h

section RULES
variable {sx : Nat × (Nat → Int32)} {y : MethodName} {cc : ByteArray} {nL : Nat} {ret : Option FieldType} {d n0 n1 : Nat} {Q : Option Value → RFt → MMt → Prop} {nx : Nat} {rf : RFt} {mem : MMt} {pc pc' : Nat} {L L' : List (Option Value)} {st : List Value}
theorem G_iadd {x z : Int32} (h : At cc pc .iadd 1 pc') (k : G sx y cc nL ret d n0 n1 Q nx rf mem pc' L (.int (x + z) :: st)) : G sx y cc nL ret d n0 n1 Q nx rf mem pc L (.int z :: .int x :: st) := by
  intro p l e R s m args below meth c Z D dA base sa hC hF hR hret H locs lsr hH hL
  obtain ⟨hd, rfl⟩ := h
  exact lv_iadd hC.1 hC.2.1 hd (k p l e R s m args below meth c Z D dA base sa hC hF hR hret H locs lsr hH hL)
theorem G_isub {x z : Int32} (h : At cc pc .isub 1 pc') (k : G sx y cc nL ret d n0 n1 Q nx rf mem pc' L (.int (x - z) :: st)) : G sx y cc nL ret d n0 n1 Q nx rf mem pc L (.int z :: .int x :: st) := by
  intro p l e R s m args below meth c Z D dA base sa hC hF hR hret H locs lsr hH hL
  obtain ⟨hd, rfl⟩ := h
  exact lv_isub hC.1 hC.2.1 hd (k p l e R s m args below meth c Z D dA base sa hC hF hR hret H locs lsr hH hL)
theorem G_imul {x z : Int32} (h : At cc pc .imul 1 pc') (k : G sx y cc nL ret d n0 n1 Q nx rf mem pc' L (.int (x * z) :: st)) : G sx y cc nL ret d n0 n1 Q nx rf mem pc L (.int z :: .int x :: st) := by
  intro p l e R s m args below meth c Z D dA base sa hC hF hR hret H locs lsr hH hL
  obtain ⟨hd, rfl⟩ := h
  exact lv_imul hC.1 hC.2.1 hd (k p l e R s m args below meth c Z D dA base sa hC hF hR hret H locs lsr hH hL)
theorem G_iand {x z : Int32} (h : At cc pc .iand 1 pc') (k : G sx y cc nL ret d n0 n1 Q nx rf mem pc' L (.int (x &&& z) :: st)) : G sx y cc nL ret d n0 n1 Q nx rf mem pc L (.int z :: .int x :: st) := by
  intro p l e R s m args below meth c Z D dA base sa hC hF hR hret H locs lsr hH hL
  obtain ⟨hd, rfl⟩ := h
  exact lv_iand hC.1 hC.2.1 hd (k p l e R s m args below meth c Z D dA base sa hC hF hR hret H locs lsr hH hL)
theorem G_ior {x z : Int32} (h : At cc pc .ior 1 pc') (k : G sx y cc nL ret d n0 n1 Q nx rf mem pc' L (.int (x ||| z) :: st)) : G sx y cc nL ret d n0 n1 Q nx rf mem pc L (.int z :: .int x :: st) := by
  intro p l e R s m args below meth c Z D dA base sa hC hF hR hret H locs lsr hH hL
  obtain ⟨hd, rfl⟩ := h
  exact lv_ior hC.1 hC.2.1 hd (k p l e R s m args below meth c Z D dA base sa hC hF hR hret H locs lsr hH hL)
theorem G_ixor {x z : Int32} (h : At cc pc .ixor 1 pc') (k : G sx y cc nL ret d n0 n1 Q nx rf mem pc' L (.int (x ^^^ z) :: st)) : G sx y cc nL ret d n0 n1 Q nx rf mem pc L (.int z :: .int x :: st) := by
  intro p l e R s m args below meth c Z D dA base sa hC hF hR hret H locs lsr hH hL
  obtain ⟨hd, rfl⟩ := h
  exact lv_ixor hC.1 hC.2.1 hd (k p l e R s m args below meth c Z D dA base sa hC hF hR hret H locs lsr hH hL)
theorem G_ishl {x z : Int32} (h : At cc pc .ishl 1 pc') (k : G sx y cc nL ret d n0 n1 Q nx rf mem pc' L (.int (x <<< (z &&& 31)) :: st)) : G sx y cc nL ret d n0 n1 Q nx rf mem pc L (.int z :: .int x :: st) := by
  intro p l e R s m args below meth c Z D dA base sa hC hF hR hret H locs lsr hH hL
  obtain ⟨hd, rfl⟩ := h
  exact lv_ishl hC.1 hC.2.1 hd (k p l e R s m args below meth c Z D dA base sa hC hF hR hret H locs lsr hH hL)
theorem G_ishr {x z : Int32} (h : At cc pc .ishr 1 pc') (k : G sx y cc nL ret d n0 n1 Q nx rf mem pc' L (.int (x >>> (z &&& 31)) :: st)) : G sx y cc nL ret d n0 n1 Q nx rf mem pc L (.int z :: .int x :: st) := by
  intro p l e R s m args below meth c Z D dA base sa hC hF hR hret H locs lsr hH hL
  obtain ⟨hd, rfl⟩ := h
  exact lv_ishr hC.1 hC.2.1 hd (k p l e R s m args below meth c Z D dA base sa hC hF hR hret H locs lsr hH hL)
theorem G_idiv {x z : Int32} (h : At cc pc .idiv 1 pc') (hz : ¬ z = 0) (k : G sx y cc nL ret d n0 n1 Q nx rf mem pc' L (.int (x / z) :: st)) : G sx y cc nL ret d n0 n1 Q nx rf mem pc L (.int z :: .int x :: st) := by
  intro p l e R s m args below meth c Z D dA base sa hC hF hR hret H locs lsr hH hL
  obtain ⟨hd, rfl⟩ := h
  exact lv_idiv hC.1 hC.2.1 hd hz (k p l e R s m args below meth c Z D dA base sa hC hF hR hret H locs lsr hH hL)
theorem G_irem {x z : Int32} (h : At cc pc .irem 1 pc') (hz : ¬ z = 0) (k : G sx y cc nL ret d n0 n1 Q nx rf mem pc' L (.int (x - x / z * z) :: st)) : G sx y cc nL ret d n0 n1 Q nx rf mem pc L (.int z :: .int x :: st) := by
  intro p l e R s m args below meth c Z D dA base sa hC hF hR hret H locs lsr hH hL
  obtain ⟨hd, rfl⟩ := h
  exact lv_irem hC.1 hC.2.1 hd hz (k p l e R s m args below meth c Z D dA base sa hC hF hR hret H locs lsr hH hL)
theorem G_ineg {x : Int32} (h : At cc pc .ineg 1 pc') (k : G sx y cc nL ret d n0 n1 Q nx rf mem pc' L (.int (-x) :: st)) : G sx y cc nL ret d n0 n1 Q nx rf mem pc L (.int x :: st) := by
  intro p l e R s m args below meth c Z D dA base sa hC hF hR hret H locs lsr hH hL
  obtain ⟨hd, rfl⟩ := h
  exact lv_ineg hC.1 hC.2.1 hd (k p l e R s m args below meth c Z D dA base sa hC hF hR hret H locs lsr hH hL)
theorem G_iushr {x z : Int32} (h : At cc pc .iushr 1 pc') (k : G sx y cc nL ret d n0 n1 Q nx rf mem pc' L (.int (x.toUInt32 >>> (z.toUInt32 &&& Int32.toUInt32 31)).toInt32 :: st)) : G sx y cc nL ret d n0 n1 Q nx rf mem pc L (.int z :: .int x :: st) := by
  intro p l e R s m args below meth c Z D dA base sa hC hF hR hret H locs lsr hH hL
  obtain ⟨hd, rfl⟩ := h
  exact lv_iushr hC.1 hC.2.1 hd rfl (k p l e R s m args below meth c Z D dA base sa hC hF hR hret H locs lsr hH hL)
theorem G_land {x z : Int64} (h : At cc pc .land 1 pc') (k : G sx y cc nL ret d n0 n1 Q nx rf mem pc' L (.long (x &&& z) :: st)) : G sx y cc nL ret d n0 n1 Q nx rf mem pc L (.long z :: .long x :: st) := by
  intro p l e R s m args below meth c Z D dA base sa hC hF hR hret H locs lsr hH hL
  obtain ⟨hd, rfl⟩ := h
  exact lv_land hC.1 hC.2.1 hd (k p l e R s m args below meth c Z D dA base sa hC hF hR hret H locs lsr hH hL)
theorem G_lor {x z : Int64} (h : At cc pc .lor 1 pc') (k : G sx y cc nL ret d n0 n1 Q nx rf mem pc' L (.long (x ||| z) :: st)) : G sx y cc nL ret d n0 n1 Q nx rf mem pc L (.long z :: .long x :: st) := by
  intro p l e R s m args below meth c Z D dA base sa hC hF hR hret H locs lsr hH hL
  obtain ⟨hd, rfl⟩ := h
  exact lv_lor hC.1 hC.2.1 hd (k p l e R s m args below meth c Z D dA base sa hC hF hR hret H locs lsr hH hL)
theorem G_lshl {x : Int64} {z : Int32} (h : At cc pc .lshl 1 pc') (k : G sx y cc nL ret d n0 n1 Q nx rf mem pc' L (.long (x <<< (z.toInt64 &&& 63)) :: st)) : G sx y cc nL ret d n0 n1 Q nx rf mem pc L (.int z :: .long x :: st) := by
  intro p l e R s m args below meth c Z D dA base sa hC hF hR hret H locs lsr hH hL
  obtain ⟨hd, rfl⟩ := h
  exact lv_lshl hC.1 hC.2.1 hd rfl (k p l e R s m args below meth c Z D dA base sa hC hF hR hret H locs lsr hH hL)
theorem G_lshr {x : Int64} {z : Int32} (h : At cc pc .lshr 1 pc') (k : G sx y cc nL ret d n0 n1 Q nx rf mem pc' L (.long (x >>> (z.toInt64 &&& 63)) :: st)) : G sx y cc nL ret d n0 n1 Q nx rf mem pc L (.int z :: .long x :: st) := by
  intro p l e R s m args below meth c Z D dA base sa hC hF hR hret H locs lsr hH hL
  obtain ⟨hd, rfl⟩ := h
  exact lv_lshr hC.1 hC.2.1 hd rfl (k p l e R s m args below meth c Z D dA base sa hC hF hR hret H locs lsr hH hL)
theorem G_lushr {x : Int64} {z : Int32} (h : At cc pc .lushr 1 pc') (k : G sx y cc nL ret d n0 n1 Q nx rf mem pc' L (.long (x.toUInt64 >>> (z.toInt64.toUInt64 &&& Int64.toUInt64 63)).toInt64 :: st)) : G sx y cc nL ret d n0 n1 Q nx rf mem pc L (.int z :: .long x :: st) := by
  intro p l e R s m args below meth c Z D dA base sa hC hF hR hret H locs lsr hH hL
  obtain ⟨hd, rfl⟩ := h
  exact lv_lushr hC.1 hC.2.1 hd rfl (k p l e R s m args below meth c Z D dA base sa hC hF hR hret H locs lsr hH hL)
theorem G_i2l {x : Int32} (h : At cc pc .i2l 1 pc') (k : G sx y cc nL ret d n0 n1 Q nx rf mem pc' L (.long x.toInt64 :: st)) : G sx y cc nL ret d n0 n1 Q nx rf mem pc L (.int x :: st) := by
  intro p l e R s m args below meth c Z D dA base sa hC hF hR hret H locs lsr hH hL
  obtain ⟨hd, rfl⟩ := h
  exact lv_i2l hC.1 hC.2.1 hd rfl (k p l e R s m args below meth c Z D dA base sa hC hF hR hret H locs lsr hH hL)
theorem G_l2i {x : Int64} (h : At cc pc .l2i 1 pc') (k : G sx y cc nL ret d n0 n1 Q nx rf mem pc' L (.int x.toInt32 :: st)) : G sx y cc nL ret d n0 n1 Q nx rf mem pc L (.long x :: st) := by
  intro p l e R s m args below meth c Z D dA base sa hC hF hR hret H locs lsr hH hL
  obtain ⟨hd, rfl⟩ := h
  exact lv_l2i hC.1 hC.2.1 hd rfl (k p l e R s m args below meth c Z D dA base sa hC hF hR hret H locs lsr hH hL)
theorem G_i2b {x : Int32} (h : At cc pc .i2b 1 pc') (k : G sx y cc nL ret d n0 n1 Q nx rf mem pc' L (.int x.toInt8.toInt32 :: st)) : G sx y cc nL ret d n0 n1 Q nx rf mem pc L (.int x :: st) := by
  intro p l e R s m args below meth c Z D dA base sa hC hF hR hret H locs lsr hH hL
  obtain ⟨hd, rfl⟩ := h
  exact lv_i2b hC.1 hC.2.1 hd rfl (k p l e R s m args below meth c Z D dA base sa hC hF hR hret H locs lsr hH hL)
theorem G_i2s {x : Int32} (h : At cc pc .i2s 1 pc') (k : G sx y cc nL ret d n0 n1 Q nx rf mem pc' L (.int x.toInt16.toInt32 :: st)) : G sx y cc nL ret d n0 n1 Q nx rf mem pc L (.int x :: st) := by
  intro p l e R s m args below meth c Z D dA base sa hC hF hR hret H locs lsr hH hL
  obtain ⟨hd, rfl⟩ := h
  exact lv_i2s hC.1 hC.2.1 hd rfl (k p l e R s m args below meth c Z D dA base sa hC hF hR hret H locs lsr hH hL)
theorem G_i2c {x : Int32} (h : At cc pc .i2c 1 pc') (k : G sx y cc nL ret d n0 n1 Q nx rf mem pc' L (.int (x.toUInt32 % 65536).toInt32 :: st)) : G sx y cc nL ret d n0 n1 Q nx rf mem pc L (.int x :: st) := by
  intro p l e R s m args below meth c Z D dA base sa hC hF hR hret H locs lsr hH hL
  obtain ⟨hd, rfl⟩ := h
  exact lv_i2c hC.1 hC.2.1 hd rfl (k p l e R s m args below meth c Z D dA base sa hC hF hR hret H locs lsr hH hL)
theorem G_iconst {n : Int} {v : Int32} (h : At cc pc (.iconst n) 1 pc') (hv : Int32.ofInt n = v) (k : G sx y cc nL ret d n0 n1 Q nx rf mem pc' L (.int v :: st)) : G sx y cc nL ret d n0 n1 Q nx rf mem pc L st := by
  intro p l e R s m args below meth c Z D dA base sa hC hF hR hret H locs lsr hH hL
  obtain ⟨hd, rfl⟩ := h
  exact lv_iconst hC.1 hC.2.1 hd hv (k p l e R s m args below meth c Z D dA base sa hC hF hR hret H locs lsr hH hL)
theorem G_bipush {n : Int} {v : Int32} (h : At cc pc (.bipush n) 2 pc') (hv : (Int8.ofInt n).toInt32 = v) (k : G sx y cc nL ret d n0 n1 Q nx rf mem pc' L (.int v :: st)) : G sx y cc nL ret d n0 n1 Q nx rf mem pc L st := by
  intro p l e R s m args below meth c Z D dA base sa hC hF hR hret H locs lsr hH hL
  obtain ⟨hd, rfl⟩ := h
  exact lv_bipush hC.1 hC.2.1 hd hv (k p l e R s m args below meth c Z D dA base sa hC hF hR hret H locs lsr hH hL)
theorem G_sipush {n : Int} {v : Int32} (h : At cc pc (.sipush n) 3 pc') (hv : (Int16.ofInt n).toInt32 = v) (k : G sx y cc nL ret d n0 n1 Q nx rf mem pc' L (.int v :: st)) : G sx y cc nL ret d n0 n1 Q nx rf mem pc L st := by
  intro p l e R s m args below meth c Z D dA base sa hC hF hR hret H locs lsr hH hL
  obtain ⟨hd, rfl⟩ := h
  exact lv_sipush hC.1 hC.2.1 hd hv (k p l e R s m args below meth c Z D dA base sa hC hF hR hret H locs lsr hH hL)
theorem G_lconst {n : Fin 2} {v : Int64} (h : At cc pc (.lconst n) 1 pc') (hv : Int64.ofNat (n : Nat) = v) (k : G sx y cc nL ret d n0 n1 Q nx rf mem pc' L (.long v :: st)) : G sx y cc nL ret d n0 n1 Q nx rf mem pc L st := by
  intro p l e R s m args below meth c Z D dA base sa hC hF hR hret H locs lsr hH hL
  obtain ⟨hd, rfl⟩ := h
  exact lv_lconst hC.1 hC.2.1 hd hv (k p l e R s m args below meth c Z D dA base sa hC hF hR hret H locs lsr hH hL)
theorem G_iload_n {k0 : Fin 4} {i : Nat} {x : Int32} (h : At cc pc (.iload_n k0) 1 pc') (hi : (k0 : Nat) = i) (hl : L[i]? = some (some (.int x))) (k : G sx y cc nL ret d n0 n1 Q nx rf mem pc' L (.int x :: st)) : G sx y cc nL ret d n0 n1 Q nx rf mem pc L st := by
  intro p l e R s m args below meth c Z D dA base sa hC hF hR hret H locs lsr hH hL
  obtain ⟨hd, rfl⟩ := h
  exact lv_iload_n hC.1 hC.2.1 hd hi (hL.2.2.2 i _ hl) (k p l e R s m args below meth c Z D dA base sa hC hF hR hret H locs lsr hH hL)
theorem G_iload {i : Nat} {x : Int32} (h : At cc pc (.iload i) 2 pc') (hl : L[i]? = some (some (.int x))) (k : G sx y cc nL ret d n0 n1 Q nx rf mem pc' L (.int x :: st)) : G sx y cc nL ret d n0 n1 Q nx rf mem pc L st := by
  intro p l e R s m args below meth c Z D dA base sa hC hF hR hret H locs lsr hH hL
  obtain ⟨hd, rfl⟩ := h
  exact lv_iload hC.1 hC.2.1 hd (hL.2.2.2 i _ hl) (k p l e R s m args below meth c Z D dA base sa hC hF hR hret H locs lsr hH hL)
theorem G_lload_n {k0 : Fin 4} {i : Nat} {x : Int64} (h : At cc pc (.lload_n k0) 1 pc') (hi : (k0 : Nat) = i) (hl : L[i]? = some (some (.long x))) (k : G sx y cc nL ret d n0 n1 Q nx rf mem pc' L (.long x :: st)) : G sx y cc nL ret d n0 n1 Q nx rf mem pc L st := by
  intro p l e R s m args below meth c Z D dA base sa hC hF hR hret H locs lsr hH hL
  obtain ⟨hd, rfl⟩ := h
  exact lv_lload_n hC.1 hC.2.1 hd hi (hL.2.2.2 i _ hl) (k p l e R s m args below meth c Z D dA base sa hC hF hR hret H locs lsr hH hL)
theorem G_lload {i : Nat} {x : Int64} (h : At cc pc (.lload i) 2 pc') (hl : L[i]? = some (some (.long x))) (k : G sx y cc nL ret d n0 n1 Q nx rf mem pc' L (.long x :: st)) : G sx y cc nL ret d n0 n1 Q nx rf mem pc L st := by
  intro p l e R s m args below meth c Z D dA base sa hC hF hR hret H locs lsr hH hL
  obtain ⟨hd, rfl⟩ := h
  exact lv_lload hC.1 hC.2.1 hd (hL.2.2.2 i _ hl) (k p l e R s m args below meth c Z D dA base sa hC hF hR hret H locs lsr hH hL)
theorem G_aload_n {k0 : Fin 4} {i : Nat} {x : Nat} (h : At cc pc (.aload_n k0) 1 pc') (hi : (k0 : Nat) = i) (hl : L[i]? = some (some (.ref x))) (k : G sx y cc nL ret d n0 n1 Q nx rf mem pc' L (.ref x :: st)) : G sx y cc nL ret d n0 n1 Q nx rf mem pc L st := by
  intro p l e R s m args below meth c Z D dA base sa hC hF hR hret H locs lsr hH hL
  obtain ⟨hd, rfl⟩ := h
  exact lv_aload_n hC.1 hC.2.1 hd hi (hL.2.2.2 i _ hl) (k p l e R s m args below meth c Z D dA base sa hC hF hR hret H locs lsr hH hL)
theorem G_aload {i : Nat} {x : Nat} (h : At cc pc (.aload i) 2 pc') (hl : L[i]? = some (some (.ref x))) (k : G sx y cc nL ret d n0 n1 Q nx rf mem pc' L (.ref x :: st)) : G sx y cc nL ret d n0 n1 Q nx rf mem pc L st := by
  intro p l e R s m args below meth c Z D dA base sa hC hF hR hret H locs lsr hH hL
  obtain ⟨hd, rfl⟩ := h
  exact lv_aload hC.1 hC.2.1 hd (hL.2.2.2 i _ hl) (k p l e R s m args below meth c Z D dA base sa hC hF hR hret H locs lsr hH hL)
theorem G_istore_n {k0 : Fin 4} {i : Nat} {x : Int32} (h : At cc pc (.istore_n k0) 1 pc') (hi : (k0 : Nat) = i) (hs : stor L i (.int x) = some L') (k : G sx y cc nL ret d n0 n1 Q nx rf mem pc' L' st) : G sx y cc nL ret d n0 n1 Q nx rf mem pc L (.int x :: st) := by
  intro p l e R s m args below meth c Z D dA base sa hC hF hR hret H locs lsr hH hL
  obtain ⟨hd, rfl⟩ := h
  obtain ⟨h1, h2⟩ := hL.stored hs
  exact lv_istore_n hC.1 hC.2.1 hd hi hL.has h1 rfl (fun ls' h' => k p l e R s m args below meth c Z D dA base sa hC hF hR hret H locs ls' hH (h2 ls' h'))
theorem G_istore {i : Nat} {x : Int32} (h : At cc pc (.istore i) 2 pc') (hs : stor L i (.int x) = some L') (k : G sx y cc nL ret d n0 n1 Q nx rf mem pc' L' st) : G sx y cc nL ret d n0 n1 Q nx rf mem pc L (.int x :: st) := by
  intro p l e R s m args below meth c Z D dA base sa hC hF hR hret H locs lsr hH hL
  obtain ⟨hd, rfl⟩ := h
  obtain ⟨h1, h2⟩ := hL.stored hs
  exact lv_istore hC.1 hC.2.1 hd hL.has h1 rfl (fun ls' h' => k p l e R s m args below meth c Z D dA base sa hC hF hR hret H locs ls' hH (h2 ls' h'))
theorem G_astore_n {k0 : Fin 4} {i : Nat} {x : Nat} (h : At cc pc (.astore_n k0) 1 pc') (hi : (k0 : Nat) = i) (hs : stor L i (.ref x) = some L') (k : G sx y cc nL ret d n0 n1 Q nx rf mem pc' L' st) : G sx y cc nL ret d n0 n1 Q nx rf mem pc L (.ref x :: st) := by
  intro p l e R s m args below meth c Z D dA base sa hC hF hR hret H locs lsr hH hL
  obtain ⟨hd, rfl⟩ := h
  obtain ⟨h1, h2⟩ := hL.stored hs
  exact lv_astore_n hC.1 hC.2.1 hd hi hL.has h1 rfl (fun ls' h' => k p l e R s m args below meth c Z D dA base sa hC hF hR hret H locs ls' hH (h2 ls' h'))
theorem G_astore {i : Nat} {x : Nat} (h : At cc pc (.astore i) 2 pc') (hs : stor L i (.ref x) = some L') (k : G sx y cc nL ret d n0 n1 Q nx rf mem pc' L' st) : G sx y cc nL ret d n0 n1 Q nx rf mem pc L (.ref x :: st) := by
  intro p l e R s m args below meth c Z D dA base sa hC hF hR hret H locs lsr hH hL
  obtain ⟨hd, rfl⟩ := h
  obtain ⟨h1, h2⟩ := hL.stored hs
  exact lv_astore hC.1 hC.2.1 hd hL.has h1 rfl (fun ls' h' => k p l e R s m args below meth c Z D dA base sa hC hF hR hret H locs ls' hH (h2 ls' h'))
theorem G_iinc {i : Nat} {n : Int} {x v : Int32} (h : At cc pc (.iinc i n) 3 pc') (hl : L[i]? = some (some (.int x))) (hv : Int32.ofInt n = v) (hs : stor L i (.int (x + v)) = some L') (k : G sx y cc nL ret d n0 n1 Q nx rf mem pc' L' st) : G sx y cc nL ret d n0 n1 Q nx rf mem pc L st := by
  intro p l e R s m args below meth c Z D dA base sa hC hF hR hret H locs lsr hH hL
  obtain ⟨hd, rfl⟩ := h
  subst hv
  obtain ⟨h1, h2⟩ := hL.stored hs
  obtain ⟨k1, hk1⟩ := List.getElem?_of_mem (prs_in (base := base) (sa := sa) hl)
  exact lv_iinc hC.1 hC.2.1 hd hL.has hk1 rfl h1 rfl (fun ls' h' => k p l e R s m args below meth c Z D dA base sa hC hF hR hret H locs ls' hH (h2 ls' h'))
theorem G_dup {v : Value} (h : At cc pc .dup 1 pc') (hv : v.category = 1) (k : G sx y cc nL ret d n0 n1 Q nx rf mem pc' L (v :: v :: st)) : G sx y cc nL ret d n0 n1 Q nx rf mem pc L (v :: st) := by
  intro p l e R s m args below meth c Z D dA base sa hC hF hR hret H locs lsr hH hL
  obtain ⟨hd, rfl⟩ := h
  exact lv_dup hC.1 hC.2.1 hd ((re_cat base sa v).trans hv) (k p l e R s m args below meth c Z D dA base sa hC hF hR hret H locs lsr hH hL)
theorem G_dup2 {v w : Value} (h : At cc pc .dup2 1 pc') (hv : v.category = 1) (hw : w.category = 1) (k : G sx y cc nL ret d n0 n1 Q nx rf mem pc' L (v :: w :: v :: w :: st)) : G sx y cc nL ret d n0 n1 Q nx rf mem pc L (v :: w :: st) := by
  intro p l e R s m args below meth c Z D dA base sa hC hF hR hret H locs lsr hH hL
  obtain ⟨hd, rfl⟩ := h
  exact lv_dup2_11 hC.1 hC.2.1 hd ((re_cat base sa _).trans hv) ((re_cat base sa _).trans hw) (k p l e R s m args below meth c Z D dA base sa hC hF hR hret H locs lsr hH hL)
theorem G_pop {v : Value} (h : At cc pc .pop 1 pc') (hv : v.category = 1) (k : G sx y cc nL ret d n0 n1 Q nx rf mem pc' L st) : G sx y cc nL ret d n0 n1 Q nx rf mem pc L (v :: st) := by
  intro p l e R s m args below meth c Z D dA base sa hC hF hR hret H locs lsr hH hL
  obtain ⟨hd, rfl⟩ := h
  exact lv_pop hC.1 hC.2.1 hd ((re_cat base sa v).trans hv) (k p l e R s m args below meth c Z D dA base sa hC hF hR hret H locs lsr hH hL)
theorem G_if_eq {x : Int32} {off : Int} {tgt : Nat} (h : Bt cc pc (.ifCond .eq off) off tgt pc') (kt : x = 0 → G sx y cc nL ret d n0 n1 Q nx rf mem tgt L st) (kf : ¬ x = 0 → G sx y cc nL ret d n0 n1 Q nx rf mem pc' L st) : G sx y cc nL ret d n0 n1 Q nx rf mem pc L (.int x :: st) := by
  intro p l e R s m args below meth c Z D dA base sa hC hF hR hret H locs lsr hH hL
  obtain ⟨hd, ht, rfl⟩ := h
  exact lv_if_eq hC.1 hC.2.1 hd ht (fun q => kt q p l e R s m args below meth c Z D dA base sa hC hF hR hret H locs lsr hH hL) (fun q => kf q p l e R s m args below meth c Z D dA base sa hC hF hR hret H locs lsr hH hL)
theorem G_if_ne {x : Int32} {off : Int} {tgt : Nat} (h : Bt cc pc (.ifCond .ne off) off tgt pc') (kt : ¬ x = 0 → G sx y cc nL ret d n0 n1 Q nx rf mem tgt L st) (kf : x = 0 → G sx y cc nL ret d n0 n1 Q nx rf mem pc' L st) : G sx y cc nL ret d n0 n1 Q nx rf mem pc L (.int x :: st) := by
  intro p l e R s m args below meth c Z D dA base sa hC hF hR hret H locs lsr hH hL
  obtain ⟨hd, ht, rfl⟩ := h
  exact lv_if_ne hC.1 hC.2.1 hd ht (fun q => kt q p l e R s m args below meth c Z D dA base sa hC hF hR hret H locs lsr hH hL) (fun q => kf q p l e R s m args below meth c Z D dA base sa hC hF hR hret H locs lsr hH hL)
theorem G_if_lt {x : Int32} {off : Int} {tgt : Nat} (h : Bt cc pc (.ifCond .lt off) off tgt pc') (kt : x < 0 → G sx y cc nL ret d n0 n1 Q nx rf mem tgt L st) (kf : ¬ x < 0 → G sx y cc nL ret d n0 n1 Q nx rf mem pc' L st) : G sx y cc nL ret d n0 n1 Q nx rf mem pc L (.int x :: st) := by
  intro p l e R s m args below meth c Z D dA base sa hC hF hR hret H locs lsr hH hL
  obtain ⟨hd, ht, rfl⟩ := h
  exact lv_if_lt hC.1 hC.2.1 hd ht (fun q => kt q p l e R s m args below meth c Z D dA base sa hC hF hR hret H locs lsr hH hL) (fun q => kf q p l e R s m args below meth c Z D dA base sa hC hF hR hret H locs lsr hH hL)
theorem G_if_ge {x : Int32} {off : Int} {tgt : Nat} (h : Bt cc pc (.ifCond .ge off) off tgt pc') (kt : 0 ≤ x → G sx y cc nL ret d n0 n1 Q nx rf mem tgt L st) (kf : ¬ 0 ≤ x → G sx y cc nL ret d n0 n1 Q nx rf mem pc' L st) : G sx y cc nL ret d n0 n1 Q nx rf mem pc L (.int x :: st) := by
  intro p l e R s m args below meth c Z D dA base sa hC hF hR hret H locs lsr hH hL
  obtain ⟨hd, ht, rfl⟩ := h
  exact lv_if_ge hC.1 hC.2.1 hd ht (fun q => kt q p l e R s m args below meth c Z D dA base sa hC hF hR hret H locs lsr hH hL) (fun q => kf q p l e R s m args below meth c Z D dA base sa hC hF hR hret H locs lsr hH hL)
theorem G_if_gt {x : Int32} {off : Int} {tgt : Nat} (h : Bt cc pc (.ifCond .gt off) off tgt pc') (kt : 0 < x → G sx y cc nL ret d n0 n1 Q nx rf mem tgt L st) (kf : ¬ 0 < x → G sx y cc nL ret d n0 n1 Q nx rf mem pc' L st) : G sx y cc nL ret d n0 n1 Q nx rf mem pc L (.int x :: st) := by
  intro p l e R s m args below meth c Z D dA base sa hC hF hR hret H locs lsr hH hL
  obtain ⟨hd, ht, rfl⟩ := h
  exact lv_if_gt hC.1 hC.2.1 hd ht (fun q => kt q p l e R s m args below meth c Z D dA base sa hC hF hR hret H locs lsr hH hL) (fun q => kf q p l e R s m args below meth c Z D dA base sa hC hF hR hret H locs lsr hH hL)
theorem G_if_le {x : Int32} {off : Int} {tgt : Nat} (h : Bt cc pc (.ifCond .le off) off tgt pc') (kt : x ≤ 0 → G sx y cc nL ret d n0 n1 Q nx rf mem tgt L st) (kf : ¬ x ≤ 0 → G sx y cc nL ret d n0 n1 Q nx rf mem pc' L st) : G sx y cc nL ret d n0 n1 Q nx rf mem pc L (.int x :: st) := by
  intro p l e R s m args below meth c Z D dA base sa hC hF hR hret H locs lsr hH hL
  obtain ⟨hd, ht, rfl⟩ := h
  exact lv_if_le hC.1 hC.2.1 hd ht (fun q => kt q p l e R s m args below meth c Z D dA base sa hC hF hR hret H locs lsr hH hL) (fun q => kf q p l e R s m args below meth c Z D dA base sa hC hF hR hret H locs lsr hH hL)
theorem G_icmp_eq {x z : Int32} {off : Int} {tgt : Nat} (h : Bt cc pc (.if_icmp .eq off) off tgt pc') (kt : x = z → G sx y cc nL ret d n0 n1 Q nx rf mem tgt L st) (kf : ¬ x = z → G sx y cc nL ret d n0 n1 Q nx rf mem pc' L st) : G sx y cc nL ret d n0 n1 Q nx rf mem pc L (.int z :: .int x :: st) := by
  intro p l e R s m args below meth c Z D dA base sa hC hF hR hret H locs lsr hH hL
  obtain ⟨hd, ht, rfl⟩ := h
  exact lv_icmp_eq hC.1 hC.2.1 hd ht (fun q => kt q p l e R s m args below meth c Z D dA base sa hC hF hR hret H locs lsr hH hL) (fun q => kf q p l e R s m args below meth c Z D dA base sa hC hF hR hret H locs lsr hH hL)
theorem G_icmp_ne {x z : Int32} {off : Int} {tgt : Nat} (h : Bt cc pc (.if_icmp .ne off) off tgt pc') (kt : ¬ x = z → G sx y cc nL ret d n0 n1 Q nx rf mem tgt L st) (kf : x = z → G sx y cc nL ret d n0 n1 Q nx rf mem pc' L st) : G sx y cc nL ret d n0 n1 Q nx rf mem pc L (.int z :: .int x :: st) := by
  intro p l e R s m args below meth c Z D dA base sa hC hF hR hret H locs lsr hH hL
  obtain ⟨hd, ht, rfl⟩ := h
  exact lv_icmp_ne hC.1 hC.2.1 hd ht (fun q => kt q p l e R s m args below meth c Z D dA base sa hC hF hR hret H locs lsr hH hL) (fun q => kf q p l e R s m args below meth c Z D dA base sa hC hF hR hret H locs lsr hH hL)
theorem G_icmp_lt {x z : Int32} {off : Int} {tgt : Nat} (h : Bt cc pc (.if_icmp .lt off) off tgt pc') (kt : x < z → G sx y cc nL ret d n0 n1 Q nx rf mem tgt L st) (kf : ¬ x < z → G sx y cc nL ret d n0 n1 Q nx rf mem pc' L st) : G sx y cc nL ret d n0 n1 Q nx rf mem pc L (.int z :: .int x :: st) := by
  intro p l e R s m args below meth c Z D dA base sa hC hF hR hret H locs lsr hH hL
  obtain ⟨hd, ht, rfl⟩ := h
  exact lv_icmp_lt hC.1 hC.2.1 hd ht (fun q => kt q p l e R s m args below meth c Z D dA base sa hC hF hR hret H locs lsr hH hL) (fun q => kf q p l e R s m args below meth c Z D dA base sa hC hF hR hret H locs lsr hH hL)
theorem G_icmp_ge {x z : Int32} {off : Int} {tgt : Nat} (h : Bt cc pc (.if_icmp .ge off) off tgt pc') (kt : z ≤ x → G sx y cc nL ret d n0 n1 Q nx rf mem tgt L st) (kf : ¬ z ≤ x → G sx y cc nL ret d n0 n1 Q nx rf mem pc' L st) : G sx y cc nL ret d n0 n1 Q nx rf mem pc L (.int z :: .int x :: st) := by
  intro p l e R s m args below meth c Z D dA base sa hC hF hR hret H locs lsr hH hL
  obtain ⟨hd, ht, rfl⟩ := h
  exact lv_icmp_ge hC.1 hC.2.1 hd ht (fun q => kt q p l e R s m args below meth c Z D dA base sa hC hF hR hret H locs lsr hH hL) (fun q => kf q p l e R s m args below meth c Z D dA base sa hC hF hR hret H locs lsr hH hL)
theorem G_icmp_gt {x z : Int32} {off : Int} {tgt : Nat} (h : Bt cc pc (.if_icmp .gt off) off tgt pc') (kt : z < x → G sx y cc nL ret d n0 n1 Q nx rf mem tgt L st) (kf : ¬ z < x → G sx y cc nL ret d n0 n1 Q nx rf mem pc' L st) : G sx y cc nL ret d n0 n1 Q nx rf mem pc L (.int z :: .int x :: st) := by
  intro p l e R s m args below meth c Z D dA base sa hC hF hR hret H locs lsr hH hL
  obtain ⟨hd, ht, rfl⟩ := h
  exact lv_icmp_gt hC.1 hC.2.1 hd ht (fun q => kt q p l e R s m args below meth c Z D dA base sa hC hF hR hret H locs lsr hH hL) (fun q => kf q p l e R s m args below meth c Z D dA base sa hC hF hR hret H locs lsr hH hL)
theorem G_icmp_le {x z : Int32} {off : Int} {tgt : Nat} (h : Bt cc pc (.if_icmp .le off) off tgt pc') (kt : x ≤ z → G sx y cc nL ret d n0 n1 Q nx rf mem tgt L st) (kf : ¬ x ≤ z → G sx y cc nL ret d n0 n1 Q nx rf mem pc' L st) : G sx y cc nL ret d n0 n1 Q nx rf mem pc L (.int z :: .int x :: st) := by
  intro p l e R s m args below meth c Z D dA base sa hC hF hR hret H locs lsr hH hL
  obtain ⟨hd, ht, rfl⟩ := h
  exact lv_icmp_le hC.1 hC.2.1 hd ht (fun q => kt q p l e R s m args below meth c Z D dA base sa hC hF hR hret H locs lsr hH hL) (fun q => kf q p l e R s m args below meth c Z D dA base sa hC hF hR hret H locs lsr hH hL)
theorem G_goto {off : Int} {tgt : Nat} (h : Bt cc pc (.goto off) off tgt pc') (k : G sx y cc nL ret d n0 n1 Q nx rf mem tgt L st) : G sx y cc nL ret d n0 n1 Q nx rf mem pc L st := by
  intro p l e R s m args below meth c Z D dA base sa hC hF hR hret H locs lsr hH hL
  obtain ⟨hd, ht, rfl⟩ := h
  exact lv_goto hC.1 hC.2.1 hd ht (k p l e R s m args below meth c Z D dA base sa hC hF hR hret H locs lsr hH hL)
theorem G_tsOut {dflt lo hi : Int} {offs : Array Int} {len : Nat} {x : Int32} {tgt : Nat} (h : decode cc pc = .ok (.tableswitch dflt lo hi offs, len)) (hx : x.toInt < lo ∨ hi < x.toInt) (ht : (pc : Int) + dflt = (tgt : Int)) (k : G sx y cc nL ret d n0 n1 Q nx rf mem tgt L st) : G sx y cc nL ret d n0 n1 Q nx rf mem pc L (.int x :: st) := by
  intro p l e R s m args below meth c Z D dA base sa hC hF hR hret H locs lsr hH hL
  exact lv_tableOut hC.1 hC.2.1 h hx ht (k p l e R s m args below meth c Z D dA base sa hC hF hR hret H locs lsr hH hL)
theorem G_tsIn {dflt lo hi : Int} {offs : Array Int} {len : Nat} {x : Int32} {off : Int} {tgt : Nat} (h : decode cc pc = .ok (.tableswitch dflt lo hi offs, len)) (h1 : ¬ x.toInt < lo ∧ ¬ hi < x.toInt ∧ offs[(x.toInt - lo).toNat]? = some off ∧ (pc : Int) + off = (tgt : Int)) (k : G sx y cc nL ret d n0 n1 Q nx rf mem tgt L st) : G sx y cc nL ret d n0 n1 Q nx rf mem pc L (.int x :: st) := by
  intro p l e R s m args below meth c Z D dA base sa hC hF hR hret H locs lsr hH hL
  exact lv_tableIn hC.1 hC.2.1 h h1.1 h1.2.1 h1.2.2.1 h1.2.2.2 (k p l e R s m args below meth c Z D dA base sa hC hF hR hret H locs lsr hH hL)
theorem G_ls {dflt : Int} {ps : Array (Int × Int)} {len : Nat} {x : Int32} {off : Int} {tgt : Nat} (h : decode cc pc = .ok (.lookupswitch dflt ps, len)) (hp : (ps.toList.zip (ps.toList.drop 1)).all (fun (a, next) => a.1 < next.1) = true) (ho : Op.lookupswitch.offset ps.toList dflt x.toInt = off) (ht : (pc : Int) + off = (tgt : Int)) (k : G sx y cc nL ret d n0 n1 Q nx rf mem tgt L st) : G sx y cc nL ret d n0 n1 Q nx rf mem pc L (.int x :: st) := by
  intro p l e R s m args below meth c Z D dA base sa hC hF hR hret H locs lsr hH hL
  exact lv_lookup hC.1 hC.2.1 h hp ho ht (k p l e R s m args below meth c Z D dA base sa hC hF hR hret H locs lsr hH hL)
theorem G_ldc {own : String} {idx : Nat} {v : Int32} (h : At cc pc (.ldc idx) 2 pc') (hy : y.cls = own) (hw : Cond.constant own idx v ∈ lw_g) (k : G sx y cc nL ret d n0 n1 Q nx rf mem pc' L (.int v :: st)) : G sx y cc nL ret d n0 n1 Q nx rf mem pc L st := by
  intro p l e R s m args below meth c Z D dA base sa hC hF hR hret H locs lsr hH hL
  obtain ⟨hd, rfl⟩ := h
  subst hy
  exact lv_ldc hC.1 hC.2.1 hC.2.2.2.1 (hC.2.2.2.2.1 _ hw) hd (k p l e R s m args below meth c Z D dA base sa hC hF hR hret H locs lsr hH hL)
theorem G_ldc2 {own : String} {idx : Nat} {v : Int64} (h : At cc pc (.ldc2_w idx) 3 pc') (hy : y.cls = own) (hw : Cond.constantLong own idx v ∈ lw_g) (k : G sx y cc nL ret d n0 n1 Q nx rf mem pc' L (.long v :: st)) : G sx y cc nL ret d n0 n1 Q nx rf mem pc L st := by
  intro p l e R s m args below meth c Z D dA base sa hC hF hR hret H locs lsr hH hL
  obtain ⟨hd, rfl⟩ := h
  subst hy
  exact lv_ldc2 hC.1 hC.2.1 hC.2.2.2.1 (hC.2.2.2.2.1 _ hw) hd (k p l e R s m args below meth c Z D dA base sa hC hF hR hret H locs lsr hH hL)
/-- a field by its link: the class own's entry idx names field j of class ci -/
def FL (own : String) (idx ci j : Nat) : Prop := ∃ (C : String) (T : u_T) (N : Nat), vwCl[ci]? = some (C, T, N) ∧ j < N ∧ Cond.fieldLink own idx (T j).1 (T j).2.1 (T j).2.2.1 ∈ lw_g ∧ ∀ w ∈ u_ws C T N, w ∈ lw_g
theorem FL.of {own : String} {idx ci j : Nat} (C : String) (T : u_T) (N : Nat) (h1 : vwCl[ci]? = some (C, T, N)) (h2 : j < N) (h3 : Cond.fieldLink own idx (T j).1 (T j).2.1 (T j).2.2.1 ∈ lw_g) (h4 : ∀ w ∈ u_ws C T N, w ∈ lw_g) : FL own idx ci j := ⟨C, T, N, h1, h2, h3, h4⟩
theorem fld_get {base : Nat} {sa : Nat → Nat} {rf : RFt} {mem : MMt} {ci k j N : Nat} (hj : j < N) : ((List.range N).map (fldv base sa rf mem ci k))[j]? = some (fldv base sa rf mem ci k j) := by
  rw [List.getElem?_map, List.getElem?_range hj]
  rfl
theorem G_getI {own : String} {idx ci j k0 N : Nat} (h : At cc pc (.getfield idx) 3 pc') (hf : FL own idx ci j) (hy : y.cls = own) (hk : k0 < nx) (hS : SH k0 = (ci + 10, N)) (hjN : j < N) (hr : isR ci j = false) (k : G sx y cc nL ret d n0 n1 Q nx rf mem pc' L (.int (mem k0 j) :: st)) : G sx y cc nL ret d n0 n1 Q nx rf mem pc L (.ref k0 :: st) := by
  intro p l e R s m args below meth c Z D dA base sa hC hF hR hret H locs lsr hH hL
  obtain ⟨hd, rfl⟩ := h
  subst hy
  obtain ⟨C, T, N1, f1, f2, f3, f4⟩ := hf
  have he : (world dA base sa nx rf mem)[k0]? = some (KS base sa k0, .inr (ci, (List.range N).map (fldv base sa rf mem ci k0))) := by rw [world_at hk, celw_of hS]; rfl
  have hv0 : fldv base sa rf mem ci k0 j = .int (mem k0 j) := by unfold fldv; rw [if_neg (by rw [hr]; decide)]
  exact va_get (D := D) (ci := ci) hC.1 hC.2.1 hC.2.2.2.2.1 f4 hC.2.2.2.1 hF.1 hH.1 k0 he f1 j f2 (hC.2.2.2.2.1 _ f3) (fun _ h9 => h9) (by rw [fld_get hjN, hv0]; rfl) hd (k p l e R s m args below meth c Z D dA base sa hC hF hR hret H locs lsr hH hL)
theorem G_getR {own : String} {idx ci j k0 N : Nat} {r : Nat} (h : At cc pc (.getfield idx) 3 pc') (hf : FL own idx ci j) (hy : y.cls = own) (hk : k0 < nx) (hS : SH k0 = (ci + 10, N)) (hjN : j < N) (hr : isR ci j = true) (hv : rf k0 j = some r) (k : G sx y cc nL ret d n0 n1 Q nx rf mem pc' L (.ref r :: st)) : G sx y cc nL ret d n0 n1 Q nx rf mem pc L (.ref k0 :: st) := by
  intro p l e R s m args below meth c Z D dA base sa hC hF hR hret H locs lsr hH hL
  obtain ⟨hd, rfl⟩ := h
  subst hy
  obtain ⟨C, T, N1, f1, f2, f3, f4⟩ := hf
  have he : (world dA base sa nx rf mem)[k0]? = some (KS base sa k0, .inr (ci, (List.range N).map (fldv base sa rf mem ci k0))) := by rw [world_at hk, celw_of hS]; rfl
  have hv0 : fldv base sa rf mem ci k0 j = .ref (KS base sa r) := by unfold fldv; rw [if_pos hr, hv]; rfl
  exact va_get (D := D) (ci := ci) hC.1 hC.2.1 hC.2.2.2.2.1 f4 hC.2.2.2.1 hF.1 hH.1 k0 he f1 j f2 (hC.2.2.2.2.1 _ f3) (fun _ h9 => h9) (by rw [fld_get hjN, hv0]; rfl) hd (k p l e R s m args below meth c Z D dA base sa hC hF hR hret H locs lsr hH hL)
/-- a field that may be written: its type, not final (or in its class's constructor) -/
def FW (own : String) (idx ci j : Nat) (ty : FieldType) (fin : Bool) : Prop := ∃ (C : String) (T : u_T) (N : Nat) (t : Nat → FieldType), vwCl[ci]? = some (C, T, N) ∧ j < N ∧ Cond.fieldLink own idx (T j).1 (T j).2.1 (T j).2.2.1 ∈ lw_g ∧ (∀ w ∈ u_ws C T N, w ∈ lw_g) ∧ (∀ k, k < N → parseFieldDescriptor (T k).2.2.1 = some (t k)) ∧ (∀ a, a < N → ∀ b, b < N → a ≠ b → (T a).2.1 ≠ (T b).2.1) ∧ t j = ty ∧ (T j).2.2.2 = fin ∧ (fin = true → (T j).1 = own)
theorem FW.of {own : String} {idx ci j : Nat} {ty : FieldType} {fin : Bool} (C : String) (T : u_T) (N : Nat) (t : Nat → FieldType) (h1 : vwCl[ci]? = some (C, T, N)) (h2 : j < N) (h3 : Cond.fieldLink own idx (T j).1 (T j).2.1 (T j).2.2.1 ∈ lw_g) (h4 : ∀ w ∈ u_ws C T N, w ∈ lw_g) (h5 : ∀ k, k < N → parseFieldDescriptor (T k).2.2.1 = some (t k)) (h6 : ∀ a, a < N → ∀ b, b < N → a ≠ b → (T a).2.1 ≠ (T b).2.1) (h7 : t j = ty) (h8 : (T j).2.2.2 = fin) (h9 : fin = true → (T j).1 = own) : FW own idx ci j ty fin := ⟨C, T, N, t, h1, h2, h3, h4, h5, h6, h7, h8, h9⟩
theorem va_S.put1 {A : Nat → Prop} {H0 H H1 : Heap} {locs : List Loc} {a k : Nat} (h : va_S A H0 H locs) (z : H1.size = H.size) (oq : ∀ q : Nat, q ≠ a → H1[q]? = H[q]?) (ha : A a) : va_S A H0 H1 (locs ++ [⟨a, k⟩]) := h.put z oq ha
theorem KS_Ab {base : Nat} {sa : Nat → Nat} {nx k : Nat} (hk : k < nx) (hx : nx ≤ 1000) : Ab base (KS base sa k) := by
  show base ≤ KS base sa k
  rw [KS_lt (by omega)]
  omega
theorem G_putI {own : String} {idx ci j k0 N : Nat} {v : Int32} {ty : FieldType} (h : At cc pc (.putfield idx) 3 pc') (hf : FW own idx ci j ty false) (hy : y.cls = own) (hk : k0 < nx) (hS : SH k0 = (ci + 10, N)) (hjN : j < N) (hr : isR ci j = false) (hn : ∀ z : Int32 × Nat, narrow ty (.int v) = .int v ∧ fits ty (.int v) = true) (k : G sx y cc nL ret d n0 n1 Q nx rf (up2 mem k0 j v) pc' L st) : G sx y cc nL ret d n0 n1 Q nx rf mem pc L (.int v :: .ref k0 :: st) := by
  intro p l e R s m args below meth c Z D dA base sa hC hF hR hret H locs lsr hH hL
  obtain ⟨hd, rfl⟩ := h
  subst hy
  obtain ⟨C, T, N1, t, f1, f2, f3, f4, f5, f6, f7, f8, f9⟩ := hf
  obtain ⟨hP, hz, hx, hS0⟩ := hH
  have he : (world dA base sa nx rf mem)[k0]? = some (KS base sa k0, .inr (ci, (List.range N).map (fldv base sa rf mem ci k0))) := by rw [world_at hk, celw_of hS]; rfl
  have hts := hC.2.2.2.2.1
  have hown := hC.2.2.2.1
  have hD : va_D (Ab base) (world dA base sa nx rf mem) := world_D hx
  have hap := va_apart (own := y.cls) hts f4 t f5 f6 hF.1 f1
  obtain ⟨r, g1, cell, q1, q2, q3, q4⟩ := hP k0 _ he
  obtain rfl : r = (C, T, N1) := Option.some.inj (g1.symm.trans f1)
  obtain ⟨hSl, hfc, kC, hkC, hkind⟩ := hF.1.1 ci _ f1
  obtain ⟨cf, kf, fi, f, hi, hsl⟩ := hSl j f2
  have hlay := hts _ (f4 _ (u_in_lay f2))
  unfold u_lay at hlay
  have hdj : parseFieldDescriptor (T j).2.2.1 = some ty := by rw [← f7]; exact f5 j f2
  have hst := (u_facts hfc hkC (u_lays hts f4 f2) hi).1
  have hw : va_P D vwCl (world dA base sa nx rf mem) H := hP
  have hset : ((List.range N).map (fldv base sa rf mem ci k0)).set j (.int v) = (List.range N).map (fldv base sa rf (up2 mem k0 j v) ci k0) := by
    apply List.ext_getElem?
    intro i
    rw [List.getElem?_set]
    by_cases hiN : i < N
    · by_cases e1 : j = i
      · subst e1
        rw [if_pos rfl, if_pos (by simpa using hiN), fld_get hiN]
        congr 1
        symm
        unfold fldv; rw [if_neg (by rw [hr]; decide)]; simp [up2]
      · rw [if_neg e1, fld_get hiN, fld_get hiN]
        congr 1
        unfold fldv; simp [up2, Ne.symm e1]
    · have m1 : ((List.range N).map (fldv base sa rf mem ci k0))[i]? = none := by rw [List.getElem?_eq_none]; simpa using hiN
      have m2 : ((List.range N).map (fldv base sa rf (up2 mem k0 j v) ci k0))[i]? = none := by rw [List.getElem?_eq_none]; simpa using hiN
      rw [m2, if_neg (by omega), m1]
  rw [if_neg (by rw [f8]; decide)] at hlay
  have h6 := u_store hfc hkC hkind hlay hi hdj (hn (0, 0)).1 (hn (0, 0)).2
  refine W.putK hC.1 hC.2.1 (f := f) ⟨hown, hts _ f3, ⟨_, _, _, hi⟩, hst⟩ (by rw [q2]; exact h6) q1 q3 (by rw [hsl]; exact k2_hasslot (q4 j f2)) rfl rfl hd fun H1 e1 e2 e3 => ?_
  rw [hsl] at e1 ⊢
  refine k p l e R s m args below meth c Z D dA base sa hC hF hR hret H1 _ lsr ⟨?_, e2.trans hz, hx, hS0.put1 e2 e3 (KS_Ab hk hx)⟩ hL
  have h7 := hw.set (e := .inr (ci, ((List.range N).map (fldv base sa rf mem ci k0)).set j (.int v))) hD he ⟨_, f1, t_OB.to (V := updV (vp_V ((List.range N).map (fldv base sa rf mem ci k0))) j (.int v)) ⟨_, e1, q2, q3, t_set q4 hap f2 (.int v)⟩ (fun i _ => vp_updV_set (by simpa using hjN) (.int v) i)⟩ e3
  rw [hset] at h7
  rw [world_set (rf' := rf) (mem' := (up2 mem k0 j v)) hk (fun a i h8 => rfl) (fun a i h8 => up2_ne h8) (by rw [celw_of hS]; rfl)] at h7
  exact h7
theorem G_putIF {own : String} {idx ci j k0 N : Nat} {v : Int32} {ty : FieldType} (h : At cc pc (.putfield idx) 3 pc') (hf : FW own idx ci j ty true) (hy : y.cls = own) (hin : y.name = "<init>") (hk : k0 < nx) (hS : SH k0 = (ci + 10, N)) (hjN : j < N) (hr : isR ci j = false) (hn : ∀ z : Int32 × Nat, narrow ty (.int v) = .int v ∧ fits ty (.int v) = true) (k : G sx y cc nL ret d n0 n1 Q nx rf (up2 mem k0 j v) pc' L st) : G sx y cc nL ret d n0 n1 Q nx rf mem pc L (.int v :: .ref k0 :: st) := by
  intro p l e R s m args below meth c Z D dA base sa hC hF hR hret H locs lsr hH hL
  obtain ⟨hd, rfl⟩ := h
  subst hy
  obtain ⟨C, T, N1, t, f1, f2, f3, f4, f5, f6, f7, f8, f9⟩ := hf
  obtain ⟨hP, hz, hx, hS0⟩ := hH
  have he : (world dA base sa nx rf mem)[k0]? = some (KS base sa k0, .inr (ci, (List.range N).map (fldv base sa rf mem ci k0))) := by rw [world_at hk, celw_of hS]; rfl
  have hts := hC.2.2.2.2.1
  have hown := hC.2.2.2.1
  have hD : va_D (Ab base) (world dA base sa nx rf mem) := world_D hx
  have hap := va_apart (own := y.cls) hts f4 t f5 f6 hF.1 f1
  obtain ⟨r, g1, cell, q1, q2, q3, q4⟩ := hP k0 _ he
  obtain rfl : r = (C, T, N1) := Option.some.inj (g1.symm.trans f1)
  obtain ⟨hSl, hfc, kC, hkC, hkind⟩ := hF.1.1 ci _ f1
  obtain ⟨cf, kf, fi, f, hi, hsl⟩ := hSl j f2
  have hlay := hts _ (f4 _ (u_in_lay f2))
  unfold u_lay at hlay
  have hdj : parseFieldDescriptor (T j).2.2.1 = some ty := by rw [← f7]; exact f5 j f2
  have hst := (u_facts hfc hkC (u_lays hts f4 f2) hi).1
  have hw : va_P D vwCl (world dA base sa nx rf mem) H := hP
  have hset : ((List.range N).map (fldv base sa rf mem ci k0)).set j (.int v) = (List.range N).map (fldv base sa rf (up2 mem k0 j v) ci k0) := by
    apply List.ext_getElem?
    intro i
    rw [List.getElem?_set]
    by_cases hiN : i < N
    · by_cases e1 : j = i
      · subst e1
        rw [if_pos rfl, if_pos (by simpa using hiN), fld_get hiN]
        congr 1
        symm
        unfold fldv; rw [if_neg (by rw [hr]; decide)]; simp [up2]
      · rw [if_neg e1, fld_get hiN, fld_get hiN]
        congr 1
        unfold fldv; simp [up2, Ne.symm e1]
    · have m1 : ((List.range N).map (fldv base sa rf mem ci k0))[i]? = none := by rw [List.getElem?_eq_none]; simpa using hiN
      have m2 : ((List.range N).map (fldv base sa rf (up2 mem k0 j v) ci k0))[i]? = none := by rw [List.getElem?_eq_none]; simpa using hiN
      rw [m2, if_neg (by omega), m1]
  rw [if_pos f8] at hlay
  have hcf : m.cls = cf := by
    obtain ⟨_, _, c0, _, _, _, -, -, hf0, -, -, -, hown2, -⟩ := Cond.laysFinal_spec hlay
    have e1 : c0 = cf := by have := hi.symm.trans hf0; simp at this; exact this.1.symm
    rw [f9 rfl] at hown2
    rw [← e1]; exact Option.some.inj (hown.symm.trans hown2)
  have h6 := u_fits hfc hkC hkind (Or.inr hlay) hi hdj (hn (0, 0)).1 (hn (0, 0)).2
  refine W.putFinK hC.1 hC.2.1 hown (hts _ f3) hi hst hcf (hC.2.2.2.2.2.2.2 hin) (by rw [q2]; exact h6) q1 q3 (by rw [hsl]; exact k2_hasslot (q4 j f2)) rfl rfl hd fun H1 e1 e2 e3 => ?_
  rw [hsl] at e1 ⊢
  refine k p l e R s m args below meth c Z D dA base sa hC hF hR hret H1 _ lsr ⟨?_, e2.trans hz, hx, hS0.put1 e2 e3 (KS_Ab hk hx)⟩ hL
  have h7 := hw.set (e := .inr (ci, ((List.range N).map (fldv base sa rf mem ci k0)).set j (.int v))) hD he ⟨_, f1, t_OB.to (V := updV (vp_V ((List.range N).map (fldv base sa rf mem ci k0))) j (.int v)) ⟨_, e1, q2, q3, t_set q4 hap f2 (.int v)⟩ (fun i _ => vp_updV_set (by simpa using hjN) (.int v) i)⟩ e3
  rw [hset] at h7
  rw [world_set (rf' := rf) (mem' := (up2 mem k0 j v)) hk (fun a i h8 => rfl) (fun a i h8 => up2_ne h8) (by rw [celw_of hS]; rfl)] at h7
  exact h7
theorem G_putR {own : String} {idx ci j k0 N : Nat} {v : Nat} {ty : FieldType} (h : At cc pc (.putfield idx) 3 pc') (hf : FW own idx ci j ty false) (hy : y.cls = own) (hk : k0 < nx) (hS : SH k0 = (ci + 10, N)) (hjN : j < N) (hr : isR ci j = true) (hn : ∀ z : Int32 × Nat, narrow ty (.ref z.2) = .ref z.2 ∧ fits ty (.ref z.2) = true) (k : G sx y cc nL ret d n0 n1 Q nx (upr rf k0 j (some v)) mem pc' L st) : G sx y cc nL ret d n0 n1 Q nx rf mem pc L (.ref v :: .ref k0 :: st) := by
  intro p l e R s m args below meth c Z D dA base sa hC hF hR hret H locs lsr hH hL
  obtain ⟨hd, rfl⟩ := h
  subst hy
  obtain ⟨C, T, N1, t, f1, f2, f3, f4, f5, f6, f7, f8, f9⟩ := hf
  obtain ⟨hP, hz, hx, hS0⟩ := hH
  have he : (world dA base sa nx rf mem)[k0]? = some (KS base sa k0, .inr (ci, (List.range N).map (fldv base sa rf mem ci k0))) := by rw [world_at hk, celw_of hS]; rfl
  have hts := hC.2.2.2.2.1
  have hown := hC.2.2.2.1
  have hD : va_D (Ab base) (world dA base sa nx rf mem) := world_D hx
  have hap := va_apart (own := y.cls) hts f4 t f5 f6 hF.1 f1
  obtain ⟨r, g1, cell, q1, q2, q3, q4⟩ := hP k0 _ he
  obtain rfl : r = (C, T, N1) := Option.some.inj (g1.symm.trans f1)
  obtain ⟨hSl, hfc, kC, hkC, hkind⟩ := hF.1.1 ci _ f1
  obtain ⟨cf, kf, fi, f, hi, hsl⟩ := hSl j f2
  have hlay := hts _ (f4 _ (u_in_lay f2))
  unfold u_lay at hlay
  have hdj : parseFieldDescriptor (T j).2.2.1 = some ty := by rw [← f7]; exact f5 j f2
  have hst := (u_facts hfc hkC (u_lays hts f4 f2) hi).1
  have hw : va_P D vwCl (world dA base sa nx rf mem) H := hP
  have hset : ((List.range N).map (fldv base sa rf mem ci k0)).set j (.ref (KS base sa v)) = (List.range N).map (fldv base sa (upr rf k0 j (some v)) mem ci k0) := by
    apply List.ext_getElem?
    intro i
    rw [List.getElem?_set]
    by_cases hiN : i < N
    · by_cases e1 : j = i
      · subst e1
        rw [if_pos rfl, if_pos (by simpa using hiN), fld_get hiN]
        congr 1
        symm
        unfold fldv; rw [if_pos hr]; simp [upr, va_rf]
      · rw [if_neg e1, fld_get hiN, fld_get hiN]
        congr 1
        unfold fldv; simp [upr, Ne.symm e1]
    · have m1 : ((List.range N).map (fldv base sa rf mem ci k0))[i]? = none := by rw [List.getElem?_eq_none]; simpa using hiN
      have m2 : ((List.range N).map (fldv base sa (upr rf k0 j (some v)) mem ci k0))[i]? = none := by rw [List.getElem?_eq_none]; simpa using hiN
      rw [m2, if_neg (by omega), m1]
  rw [if_neg (by rw [f8]; decide)] at hlay
  have h6 := u_store hfc hkC hkind hlay hi hdj (hn (0, KS base sa v)).1 (hn (0, KS base sa v)).2
  refine W.putK hC.1 hC.2.1 (f := f) ⟨hown, hts _ f3, ⟨_, _, _, hi⟩, hst⟩ (by rw [q2]; exact h6) q1 q3 (by rw [hsl]; exact k2_hasslot (q4 j f2)) rfl rfl hd fun H1 e1 e2 e3 => ?_
  rw [hsl] at e1 ⊢
  refine k p l e R s m args below meth c Z D dA base sa hC hF hR hret H1 _ lsr ⟨?_, e2.trans hz, hx, hS0.put1 e2 e3 (KS_Ab hk hx)⟩ hL
  have h7 := hw.set (e := .inr (ci, ((List.range N).map (fldv base sa rf mem ci k0)).set j (.ref (KS base sa v)))) hD he ⟨_, f1, t_OB.to (V := updV (vp_V ((List.range N).map (fldv base sa rf mem ci k0))) j (.ref (KS base sa v))) ⟨_, e1, q2, q3, t_set q4 hap f2 (.ref (KS base sa v))⟩ (fun i _ => vp_updV_set (by simpa using hjN) (.ref (KS base sa v)) i)⟩ e3
  rw [hset] at h7
  rw [world_set (rf' := (upr rf k0 j (some v))) (mem' := mem) hk (fun a i h8 => upr_ne h8) (fun a i h8 => rfl) (by rw [celw_of hS]; rfl)] at h7
  exact h7
theorem G_putRF {own : String} {idx ci j k0 N : Nat} {v : Nat} {ty : FieldType} (h : At cc pc (.putfield idx) 3 pc') (hf : FW own idx ci j ty true) (hy : y.cls = own) (hin : y.name = "<init>") (hk : k0 < nx) (hS : SH k0 = (ci + 10, N)) (hjN : j < N) (hr : isR ci j = true) (hn : ∀ z : Int32 × Nat, narrow ty (.ref z.2) = .ref z.2 ∧ fits ty (.ref z.2) = true) (k : G sx y cc nL ret d n0 n1 Q nx (upr rf k0 j (some v)) mem pc' L st) : G sx y cc nL ret d n0 n1 Q nx rf mem pc L (.ref v :: .ref k0 :: st) := by
  intro p l e R s m args below meth c Z D dA base sa hC hF hR hret H locs lsr hH hL
  obtain ⟨hd, rfl⟩ := h
  subst hy
  obtain ⟨C, T, N1, t, f1, f2, f3, f4, f5, f6, f7, f8, f9⟩ := hf
  obtain ⟨hP, hz, hx, hS0⟩ := hH
  have he : (world dA base sa nx rf mem)[k0]? = some (KS base sa k0, .inr (ci, (List.range N).map (fldv base sa rf mem ci k0))) := by rw [world_at hk, celw_of hS]; rfl
  have hts := hC.2.2.2.2.1
  have hown := hC.2.2.2.1
  have hD : va_D (Ab base) (world dA base sa nx rf mem) := world_D hx
  have hap := va_apart (own := y.cls) hts f4 t f5 f6 hF.1 f1
  obtain ⟨r, g1, cell, q1, q2, q3, q4⟩ := hP k0 _ he
  obtain rfl : r = (C, T, N1) := Option.some.inj (g1.symm.trans f1)
  obtain ⟨hSl, hfc, kC, hkC, hkind⟩ := hF.1.1 ci _ f1
  obtain ⟨cf, kf, fi, f, hi, hsl⟩ := hSl j f2
  have hlay := hts _ (f4 _ (u_in_lay f2))
  unfold u_lay at hlay
  have hdj : parseFieldDescriptor (T j).2.2.1 = some ty := by rw [← f7]; exact f5 j f2
  have hst := (u_facts hfc hkC (u_lays hts f4 f2) hi).1
  have hw : va_P D vwCl (world dA base sa nx rf mem) H := hP
  have hset : ((List.range N).map (fldv base sa rf mem ci k0)).set j (.ref (KS base sa v)) = (List.range N).map (fldv base sa (upr rf k0 j (some v)) mem ci k0) := by
    apply List.ext_getElem?
    intro i
    rw [List.getElem?_set]
    by_cases hiN : i < N
    · by_cases e1 : j = i
      · subst e1
        rw [if_pos rfl, if_pos (by simpa using hiN), fld_get hiN]
        congr 1
        symm
        unfold fldv; rw [if_pos hr]; simp [upr, va_rf]
      · rw [if_neg e1, fld_get hiN, fld_get hiN]
        congr 1
        unfold fldv; simp [upr, Ne.symm e1]
    · have m1 : ((List.range N).map (fldv base sa rf mem ci k0))[i]? = none := by rw [List.getElem?_eq_none]; simpa using hiN
      have m2 : ((List.range N).map (fldv base sa (upr rf k0 j (some v)) mem ci k0))[i]? = none := by rw [List.getElem?_eq_none]; simpa using hiN
      rw [m2, if_neg (by omega), m1]
  rw [if_pos f8] at hlay
  have hcf : m.cls = cf := by
    obtain ⟨_, _, c0, _, _, _, -, -, hf0, -, -, -, hown2, -⟩ := Cond.laysFinal_spec hlay
    have e1 : c0 = cf := by have := hi.symm.trans hf0; simp at this; exact this.1.symm
    rw [f9 rfl] at hown2
    rw [← e1]; exact Option.some.inj (hown.symm.trans hown2)
  have h6 := u_fits hfc hkC hkind (Or.inr hlay) hi hdj (hn (0, KS base sa v)).1 (hn (0, KS base sa v)).2
  refine W.putFinK hC.1 hC.2.1 hown (hts _ f3) hi hst hcf (hC.2.2.2.2.2.2.2 hin) (by rw [q2]; exact h6) q1 q3 (by rw [hsl]; exact k2_hasslot (q4 j f2)) rfl rfl hd fun H1 e1 e2 e3 => ?_
  rw [hsl] at e1 ⊢
  refine k p l e R s m args below meth c Z D dA base sa hC hF hR hret H1 _ lsr ⟨?_, e2.trans hz, hx, hS0.put1 e2 e3 (KS_Ab hk hx)⟩ hL
  have h7 := hw.set (e := .inr (ci, ((List.range N).map (fldv base sa rf mem ci k0)).set j (.ref (KS base sa v)))) hD he ⟨_, f1, t_OB.to (V := updV (vp_V ((List.range N).map (fldv base sa rf mem ci k0))) j (.ref (KS base sa v))) ⟨_, e1, q2, q3, t_set q4 hap f2 (.ref (KS base sa v))⟩ (fun i _ => vp_updV_set (by simpa using hjN) (.ref (KS base sa v)) i)⟩ e3
  rw [hset] at h7
  rw [world_set (rf' := (upr rf k0 j (some v))) (mem' := mem) hk (fun a i h8 => upr_ne h8) (fun a i h8 => rfl) (by rw [celw_of hS]; rfl)] at h7
  exact h7
end RULES
