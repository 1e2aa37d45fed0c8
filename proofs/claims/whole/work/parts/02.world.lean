abbrev RFt : Type := Nat → Nat → Option Nat
abbrev MMt : Type := Nat → Nat → Int32
def lw_g : List Cond := lw_tbl.filter goodWord
theorem gw {w : Cond} (i : Nat) (h : lw_tbl[i]? = some w) (hg : goodWord w = true) : w ∈ lw_g := List.mem_filter.mpr ⟨List.mem_of_getElem? h, hg⟩
theorem lw_g_good : ∀ w ∈ lw_g, goodWord w = true := fun w h => (List.mem_filter.mp h).2
theorem lw_gG : GoodIn lw_g lw_g := fun w h => ⟨h, good_of_word (lw_g_good w h)⟩
/-- what is made, in order: kind (0 int[], 1 byte[], 2 Good[], 3 Sheet[], 10 and more: an object of class ..), length -/
def SHl : List (Nat × Nat) := [(19, 12), (10, 4), (2, 8), (11, 5), (11, 5), (11, 5), (11, 5), (11, 5), (11, 5), (11, 5), (11, 5), (15, 10), (0, 2), (1, 50), (0, 20), (12, 4), (0, 50), (0, 50), (12, 4), (0, 50), (0, 50), (1, 410), (10, 4), (2, 8), (11, 5), (11, 5), (11, 5), (11, 5), (11, 5), (11, 5), (11, 5), (11, 5), (15, 10), (0, 2), (1, 50), (0, 20), (12, 4), (0, 50), (0, 50), (12, 4), (0, 50), (0, 50), (1, 410), (10, 4), (2, 8), (11, 5), (11, 5), (11, 5), (11, 5), (11, 5), (11, 5), (11, 5), (11, 5), (17, 2), (11, 5), (14, 6), (0, 50), (1, 0), (13, 9), (0, 8), (0, 8), (0, 8), (0, 8), (0, 8), (18, 5), (0, 40), (3, 4), (0, 6), (16, 3), (0, 40), (16, 3), (0, 40), (16, 3), (0, 40), (16, 3), (0, 40), (20, 29), (0, 322), (0, 322), (0, 6), (0, 100), (0, 50), (0, 3), (0, 42), (0, 8), (0, 8), (0, 4), (0, 4), (0, 160), (0, 40), (0, 40)]
def rsl : List (List Bool) := [[true, false, false, false], [false, false, false, false, false], [false, true, false, true], [true, true, true, true, false, false, false, false, true], [true, false, true, false, false, true], [false, true, false, true, false, true, false, true, true, true], [false, false, true], [true, true], [true, false, false, false, false], [true, true, true, true, true, true, true, true, true, true, true, false], [true, true, false, false, true, false, false, false, false, true, true, true, false, false, true, false, true, true, false, false, true, true, true, true, false, false, false, false, true]]
def SH (k : Nat) : Nat × Nat := SHl.getD k (99, 0)
def isR (ci j : Nat) : Bool := (rsl.getD ci []).getD j false
def ss : Nat → Nat
  | 0 => 0
  | n + 1 => ss n + (SH n).2
theorem ss_mono {a b : Nat} (h : a ≤ b) : ss a ≤ ss b := by
  induction h with
  | refl => exact Nat.le_refl _
  | step _ ih => exact Nat.le_trans ih (Nat.le_add_right _ _)
def KS (base : Nat) (sa : Nat → Nat) (k : Nat) : Nat := if k < 1000 then base + k else sa k
def re (base : Nat) (sa : Nat → Nat) (v : Value) : Value := match v with
  | .ref k => .ref (KS base sa k)
  | w => w
theorem re_cat (base : Nat) (sa : Nat → Nat) (v : Value) : (re base sa v).category = v.category := by cases v <;> rfl
def fldv (base : Nat) (sa : Nat → Nat) (rf : RFt) (mem : MMt) (ci k j : Nat) : Value := if isR ci j = true then va_rf ((rf k j).map (KS base sa)) else .int (mem k j)
def celk (dA : Nat → ClassId) (base : Nat) (sa : Nat → Nat) (rf : RFt) (mem : MMt) (k n : Nat) (kind : Nat) : va_E := match kind with
  | 0 => .inl (dA 0, n, .inl (mem k))
  | 1 => .inl (dA 1, n, .inl (mem k))
  | 2 => .inl (dA 2, n, .inr (.inr (.inr (.inr (fun j => (rf k j).map (KS base sa))))))
  | 3 => .inl (dA 3, n, .inr (.inr (.inr (.inr (fun j => (rf k j).map (KS base sa))))))
  | ci + 10 => .inr (ci, (List.range n).map (fldv base sa rf mem ci k))
  | _ => .inl (dA 0, n, .inl (mem k))
def celw (dA : Nat → ClassId) (base : Nat) (sa : Nat → Nat) (rf : RFt) (mem : MMt) (k : Nat) : va_E := celk dA base sa rf mem k (SH k).2 (SH k).1
theorem celw_of {dA : Nat → ClassId} {base : Nat} {sa : Nat → Nat} {rf : RFt} {mem : MMt} {k a n : Nat} (h : SH k = (a, n)) : celw dA base sa rf mem k = celk dA base sa rf mem k n a := by unfold celw; rw [h]
def world (dA : Nat → ClassId) (base : Nat) (sa : Nat → Nat) (nx : Nat) (rf : RFt) (mem : MMt) : va_W := (List.range nx).map fun k => (KS base sa k, celw dA base sa rf mem k)
def Ab (base : Nat) : Nat → Prop := fun q => base ≤ q
theorem KS_lt {base : Nat} {sa : Nat → Nat} {k : Nat} (h : k < 1000) : KS base sa k = base + k := if_pos h
theorem world_at {dA : Nat → ClassId} {base : Nat} {sa : Nat → Nat} {nx : Nat} {rf : RFt} {mem : MMt} {k : Nat} (h : k < nx) : (world dA base sa nx rf mem)[k]? = some (KS base sa k, celw dA base sa rf mem k) := by
  unfold world
  rw [List.getElem?_map, List.getElem?_range h]
  rfl
theorem world_some {dA : Nat → ClassId} {base : Nat} {sa : Nat → Nat} {nx : Nat} {rf : RFt} {mem : MMt} {k : Nat} {q : Nat × va_E} (h : (world dA base sa nx rf mem)[k]? = some q) : k < nx ∧ q = (KS base sa k, celw dA base sa rf mem k) := by
  have hk : k < nx := by
    have h1 := (List.getElem?_eq_some_iff.mp h).1
    unfold world at h1
    simpa using h1
  rw [world_at hk] at h
  exact ⟨hk, (Option.some.inj h).symm⟩
theorem world_D {dA : Nat → ClassId} {base : Nat} {sa : Nat → Nat} {nx : Nat} {rf : RFt} {mem : MMt} (hx : nx ≤ 1000) : va_D (Ab base) (world dA base sa nx rf mem) := by
  refine ⟨fun i j p q hp hq e => ?_, fun k q hk => ?_⟩
  · obtain ⟨h1, rfl⟩ := world_some hp
    obtain ⟨h2, rfl⟩ := world_some hq
    have e' : KS base sa i = KS base sa j := e
    rw [KS_lt (by omega), KS_lt (by omega)] at e'
    omega
  · obtain ⟨h1, rfl⟩ := world_some hk
    show base ≤ KS base sa k
    rw [KS_lt (by omega)]
    omega
theorem world_snoc {dA : Nat → ClassId} {base : Nat} {sa : Nat → Nat} {nx : Nat} {rf : RFt} {mem : MMt} : world dA base sa (nx + 1) rf mem = world dA base sa nx rf mem ++ [(KS base sa nx, celw dA base sa rf mem nx)] := by
  unfold world
  rw [List.range_succ, List.map_append]
  rfl
/-- two memories that agree below nx make one world -/
theorem celk_congr {dA : Nat → ClassId} {base : Nat} {sa : Nat → Nat} {rf rf' : RFt} {mem mem' : MMt} {k n kind : Nat} (h1 : ∀ j, rf' k j = rf k j) (h2 : ∀ j, mem' k j = mem k j) : celk dA base sa rf' mem' k n kind = celk dA base sa rf mem k n kind := by
  have e1 : rf' k = rf k := funext h1
  have e2 : mem' k = mem k := funext h2
  have e3 : ∀ ci, fldv base sa rf' mem' ci k = fldv base sa rf mem ci k := fun ci => funext fun j => by unfold fldv; rw [h1, h2]
  unfold celk
  rw [e2]
  simp only [e1, e3]
theorem world_congr {dA : Nat → ClassId} {base : Nat} {sa : Nat → Nat} {nx : Nat} {rf rf' : RFt} {mem mem' : MMt} (h1 : ∀ k j, k < nx → rf' k j = rf k j) (h2 : ∀ k j, k < nx → mem' k j = mem k j) : world dA base sa nx rf' mem' = world dA base sa nx rf mem := by
  unfold world
  apply List.map_congr_left
  intro k hk
  have hk := List.mem_range.mp hk
  unfold celw
  rw [celk_congr (fun j => h1 k j hk) (fun j => h2 k j hk)]
def up2 (mem : MMt) (k j : Nat) (v : Int32) : MMt := fun a b => if a = k ∧ b = j then v else mem a b
def upr (rf : RFt) (k j : Nat) (v : Option Nat) : RFt := fun a b => if a = k ∧ b = j then v else rf a b
theorem world_set {dA : Nat → ClassId} {base : Nat} {sa : Nat → Nat} {nx : Nat} {rf rf' : RFt} {mem mem' : MMt} {k : Nat} (hk : k < nx) (h1 : ∀ a j, a ≠ k → rf' a j = rf a j) (h2 : ∀ a j, a ≠ k → mem' a j = mem a j) {x : va_E} (hx : x = celw dA base sa rf' mem' k) :
    (world dA base sa nx rf mem).set k (KS base sa k, x) = world dA base sa nx rf' mem' := by
  apply List.ext_getElem?
  intro i
  rw [List.getElem?_set]
  by_cases hi : i < nx
  · rw [world_at hi]
    by_cases e : k = i
    · subst e
      rw [if_pos rfl, if_pos (by unfold world; simpa using hk), hx, world_at hk]
    · rw [if_neg e, world_at hi]
      unfold celw
      rw [celk_congr (fun j => h1 i j (Ne.symm e)) (fun j => h2 i j (Ne.symm e))]
  · have n1 : (world dA base sa nx rf' mem')[i]? = none := by rw [List.getElem?_eq_none]; unfold world; simpa using hi
    have n2 : (world dA base sa nx rf mem)[i]? = none := by rw [List.getElem?_eq_none]; unfold world; simpa using hi
    rw [n1, if_neg (by omega), n2]
theorem up2_ne {mem : MMt} {k j a b : Nat} {v : Int32} (h : a ≠ k) : up2 mem k j v a b = mem a b := if_neg fun q => h q.1
theorem upr_ne {rf : RFt} {k j a b : Nat} {v : Option Nat} (h : a ≠ k) : upr rf k j v a b = rf a b := if_neg fun q => h q.1
theorem up2_row {mem : MMt} {k j : Nat} {v : Int32} : up2 mem k j v k = upd (mem k) j v := by
  funext b
  unfold up2 upd
  by_cases e : b = j <;> simp [e]

def nestL : List (String × Nat × MethodName) := [(RX5, 83, yX9_within), (RX2, 22, yX9_held), (RX1, 27, yX9_held), (RX4, 81, yX9_within), (RX0, 61, yX9_held), (RX0, 71, yX9_within)]
def aboveF : Nat → Int32 := fun j => ([-1, 0, 0, 0, 2, 3, 1] : List Int32).getD j 0
def bodiesF : Nat → Int32 := fun j => ([10, 11, 12, 13, 0, 20, 0, 0, 0, 0, 30, 0, 40, 0, 0, 0, 0, 0, 50, 51, 0, 0, 0, 60, 0, 70, 0, 0] : List Int32).getD j 0
def strLen : List Nat := [2, 3, 0]
def strByt : List (List Int32) := [[102, 109], [115, 108, 116], []]
def tys (dA : Nat → ClassId) : List (ClassId × FieldType) := [(dA 0, .int), (dA 1, .byte), (dA 2, .object RX1), (dA 3, .object RX6)]
/-- what stands fast: classes, statics, texts, the script -/
def SF (sx : Nat × (Nat → Int32)) (D : va_G) (dA : Nat → ClassId) (base : Nat) (sa : Nat → Nat) (U : State) (H : Heap) : Prop :=
  va_K D vwCl (tys dA) U ∧ (∀ q ∈ nestL, va_Nw (.methodLinkNest q.1 q.2.1 q.2.2 "NeckWorlds") U) ∧ va_Nw (.fieldLinkNest "NeckWorlds$Voices" 48 "NeckWorlds" "ABOVE" "[I" "NeckWorlds") U ∧ (va_AO RX1 U ∧ va_AO RX6 U) ∧
  (vk_R RX4 35 "fm" (sa 1002) U ∧ vk_R RX4 37 "slt" (sa 1003) U ∧ vk_R RX4 19 "" (sa 1004) U) ∧
  (va_Z "NeckWorlds" "ABOVE" "[I" (.ref (sa 1000)) (Ab base) U H ∧ va_T .int (sa 1000) 7 (fun j => .int (aboveF j)) (Ab base) U H) ∧
  (va_Z RX8 "BODIES" "[I" (.ref (sa 1001)) (Ab base) U H ∧ va_T .int (sa 1001) 28 (fun j => .int (bodiesF j)) (Ab base) U H) ∧
  va_Z "java/lang/String" "COMPACT_STRINGS" "Z" (.int 1) (Ab base) U H ∧ vk_S 3 strLen strByt (fun i => sa (1002 + i)) (fun i => sa (1005 + i)) (Ab base) U H ∧
  va_X (sa 1008) sx.1 sx.2 U H ∧ sa 1008 < base ∧ base ≤ H.size ∧ sx.1 < 2 ^ 31
theorem SF.moved {sx : Nat × (Nat → Int32)} {D : va_G} {dA : Nat → ClassId} {base : Nat} {sa : Nat → Nat} {s U : State} {H H1 : Heap} (h : SF sx D dA base sa s H) (hW : s.WarmedH U.vm) (hz : H.size ≤ H1.size) (hq : ∀ a : Nat, a < H.size → ¬ Ab base a → H1[a]? = H[a]?) : SF sx D dA base sa U H1 := by
  obtain ⟨h1, h2, h3, h4, h5, h6, h7, h8, h9, h10, h11, h12, h13⟩ := h
  have hv := hW.alike
  exact ⟨va_K.moved hv h1, fun q hm => va_Nw.warmM hW (h2 q hm), va_Nw.warmF hW h3, ⟨va_AO.moved hv h4.1, va_AO.moved hv h4.2⟩, ⟨vk_R.warm hW h5.1, vk_R.warm hW h5.2.1, vk_R.warm hW h5.2.2⟩,
    ⟨(va_Z.moved hv h6.1).kept hq, (va_T.moved hv h6.2).kept hq⟩, ⟨(va_Z.moved hv h7.1).kept hq, (va_T.moved hv h7.2).kept hq⟩, (va_Z.moved hv h8).kept hq, (vk_S.moved hv h9).kept hq,
    (va_X.moved hv h10).kept (hq _ (by omega) (by show ¬ base ≤ sa 1008; omega)), h11, by omega, h13⟩
theorem SF.same {sx : Nat × (Nat → Int32)} {D : va_G} {dA : Nat → ClassId} {base : Nat} {sa : Nat → Nat} {s U : State} {H : Heap} (h : SF sx D dA base sa s H) (hv : U.vm = s.vm) : SF sx D dA base sa U H := by
  obtain ⟨h1, h2, h3, h4, h5, h6, h7, h8, h9, h10, h11, h12, h13⟩ := h
  have hv' : s.vm.Alike U.vm := by rw [hv]; exact Vm.Alike.refl _
  exact ⟨va_K.moved hv' h1, fun q hm => va_Nw.same rfl hv.symm (h2 q hm), va_Nw.same rfl hv.symm h3, ⟨va_AO.moved hv' h4.1, va_AO.moved hv' h4.2⟩, ⟨vk_R.same hv h5.1, vk_R.same hv h5.2.1, vk_R.same hv h5.2.2⟩,
    ⟨va_Z.moved hv' h6.1, va_T.moved hv' h6.2⟩, ⟨va_Z.moved hv' h7.1, va_T.moved hv' h7.2⟩, va_Z.moved hv' h8, vk_S.moved hv' h9, va_X.moved hv' h10, h11, h12, h13⟩
def rom (d mc ms : Nat) : Room := { frames := d, cells := mc, slots := ms, locals := 100 * d + 100 }
/-- an answer fits the method's type -/
def RT (ret : Option FieldType) (v : Option Value) : Prop := match v with
  | none => ret = none
  | some (.int x) => ∃ ty, ret = some ty ∧ narrow ty (.int x) = .int x
  | some (.ref _) => ∃ ty, ret = some ty ∧ ((∃ n, ty = .object n) ∨ ∃ t, ty = .array t)
  | _ => False
def RI (cc : ByteArray) (pc : Nat) (v : Option Value) : Prop := match v with
  | none => decode cc pc = .ok (.return_, 1)
  | some (.int _) => decode cc pc = .ok (.ireturn, 1)
  | some (.ref _) => decode cc pc = .ok (.areturn, 1)
  | _ => False
def HP (D : va_G) (dA : Nat → ClassId) (base : Nat) (sa : Nat → Nat) (nx : Nat) (rf : RFt) (mem : MMt) (s : State) (H : Heap) (locs : List Loc) : Prop :=
  va_P D vwCl (world dA base sa nx rf mem) H ∧ H.size = base + nx ∧ nx ≤ 1000 ∧ va_S (Ab base) s.heap H locs
def CX (y : MethodName) (cc : ByteArray) (nL : Nat) (ret : Option FieldType) (p : Program) (s : State) (m : MethodId) (args : Array Value) (meth : Method) (c : Code) : Prop :=
  p.tables.exec = Jvm.exec ∧ c.code = cc ∧ c.maxLocals = nL ∧ s.vm.findClass y.cls = some m.cls ∧ (∀ w ∈ lw_g, w.before args s = true) ∧ meth.sig.returnType = ret ∧ meth.locks = false ∧ (y.name = "<init>" → meth.name = "<init>")
def LV (base : Nat) (sa : Nat → Nat) (lsr : Array Slot) (nL : Nat) (L : List (Option Value)) : Prop := lsr.size = nL ∧ lv_wf lsr ∧ L.length ≤ nL ∧ ∀ (i : Nat) (v : Value), L[i]? = some (some v) → lsr[i]? = some (.val (re base sa v))
def G (sx : Nat × (Nat → Int32)) (y : MethodName) (cc : ByteArray) (nL : Nat) (ret : Option FieldType) (d n0 n1 : Nat) (Q : Option Value → RFt → MMt → Prop) (nx : Nat) (rf : RFt) (mem : MMt) (pc : Nat) (L : List (Option Value)) (st : List Value) : Prop :=
  ∀ (p : Program) (l : Launch) (e : Env) (R : Room) (s : State) (m : MethodId) (args : Array Value) (below : List Frame) (meth : Method) (c : Code) (Z : State → Prop) (D : va_G) (dA : Nat → ClassId) (base : Nat) (sa : Nat → Nat),
    CX y cc nL ret p s m args meth c → SF sx D dA base sa s s.heap → (d ≤ R.frames ∧ 100 * d + 100 ≤ R.locals ∧ n1 - n0 ≤ R.cells ∧ ss n1 - ss n0 ≤ R.slots) →
    (∀ (v : Option Value) (rf' : RFt) (mem' : MMt) (H : Heap) (locs : List Loc) (pc : Nat) (lsr : Array Slot), Q v rf' mem' → RT ret v → RI cc pc v → HP D dA base sa n1 rf' mem' s H locs → W p l e R s m args below meth c H locs (n1 - n0) (ss n1 - ss n0) Z (F0 m pc lsr (v.map (re base sa)).toList)) →
    ∀ (H : Heap) (locs : List Loc) (lsr : Array Slot), HP D dA base sa nx rf mem s H locs → LV base sa lsr nL L → W p l e R s m args below meth c H locs (nx - n0) (ss nx - ss n0) Z (F0 m pc lsr (st.map (re base sa)))
/-- a method's contract -/
def OKs (sx : Nat × (Nat → Int32)) (D : va_G) (dA : Nat → ClassId) (base : Nat) (sa : Nat → Nat) (nx : Nat) (rf : RFt) (mem : MMt) (U : State) : Prop := va_P D vwCl (world dA base sa nx rf mem) U.heap ∧ U.heap.size = base + nx ∧ nx ≤ 1000 ∧ SF sx D dA base sa U U.heap
def Qct (ret : Option FieldType) (D : va_G) (dA : Nat → ClassId) (base : Nat) (sa : Nat → Nat) (nx' : Nat) (Q : Option Value → RFt → MMt → Prop) : Array Value → State → Outcome → State → Prop := fun _ st oc t =>
  (∃ (v : Option Value) (rf' : RFt) (mem' : MMt), oc = .returned (v.map (re base sa)) ∧ RT ret v ∧ Q v rf' mem' ∧ va_P D vwCl (world dA base sa nx' rf' mem') t.heap ∧ t.heap.size = base + nx' ∧ nx' ≤ 1000) ∧ va_F (Ab base) st t
def Ct (sx : Nat × (Nat → Int32)) (y : MethodName) (cc : ByteArray) (nL : Nat) (ret : Option FieldType) (d : Nat) (args : List Value) (nx nx' : Nat) (rf : RFt) (mem : MMt) (Q : Option Value → RFt → MMt → Prop) : Prop :=
  ∀ (l : Launch) (D : va_G) (dA : Nat → ClassId) (base : Nat) (sa : Nat → Nat), Met l y (.code y cc nL ret :: lw_g) (rom d (nx' - nx) (ss nx' - ss nx)) (va_Pc (args.map (re base sa)) (OKs sx D dA base sa nx rf mem)) (Qct ret D dA base sa nx' Q) (nx' - nx) (ss nx' - ss nx) (Ab base)
theorem Ct.blind {sx : Nat × (Nat → Int32)} {D : va_G} {dA : Nat → ClassId} {base : Nat} {sa : Nat → Nat} {nx : Nat} {rf : RFt} {mem : MMt} {av : List Value} : FrameBlind (va_Pc av (OKs sx D dA base sa nx rf mem)) := by
  intro a U g mk h
  obtain ⟨h1, h2, h3, h4, h5⟩ := h
  exact ⟨h1, h2, h3, h4, h5.same rfl⟩
/-- the locals at the start -/
def Lof : List Value → List (Option Value)
  | [] => []
  | v :: vs => if v.category = 2 then some v :: none :: Lof vs else some v :: Lof vs
theorem Lof_args (base : Nat) (sa : Nat → Nat) : ∀ (vs : List Value) (k i : Nat) (v : Value), (Lof vs)[i]? = some (some v) → (k + i, re base sa v) ∈ lv_args k (vs.map (re base sa))
  | [], k, i, v, h => by simp [Lof] at h
  | x :: vs, k, i, v, h => by
    have hc := re_cat base sa x
    unfold Lof at h
    simp only [List.map_cons]
    unfold lv_args
    by_cases c2 : x.category = 2
    · rw [if_pos c2] at h
      match i, h with
      | 0, h => simp at h; subst h; exact List.mem_cons_self
      | 1, h => simp at h
      | i + 2, h =>
        have h' : (Lof vs)[i]? = some (some v) := by simpa using h
        have ih := Lof_args base sa vs (k + 2) i v h'
        rw [show k + 2 + i = k + (i + 2) by omega] at ih
        refine List.mem_cons_of_mem _ ?_
        rw [hc, c2]
        exact ih
    · rw [if_neg c2] at h
      have c1 : x.category = 1 := (lv_cat x).resolve_right c2
      match i, h with
      | 0, h => simp at h; subst h; exact List.mem_cons_self
      | i + 1, h =>
        have h' : (Lof vs)[i]? = some (some v) := by simpa using h
        have ih := Lof_args base sa vs (k + 1) i v h'
        rw [show k + 1 + i = k + (i + 1) by omega] at ih
        refine List.mem_cons_of_mem _ ?_
        rw [hc, c1]
        exact ih

