theorem ws_in0 : Cond.instantiable RX0 4 ∈ lw_g := gw1 30 rfl rfl
theorem ws_in1 : Cond.instantiable RX1 5 ∈ lw_g := gw1 37 rfl rfl
theorem ws_in2 : Cond.instantiable RX2 4 ∈ lw_g := gw1 98 rfl rfl
theorem ws_in3 : Cond.instantiable RX3 9 ∈ lw_g := gw1 211 rfl rfl
theorem ws_in4 : Cond.instantiable RX4 6 ∈ lw_g := gw1 183 rfl rfl
theorem ws_in5 : Cond.instantiable RX5 10 ∈ lw_g := gw1 92 rfl rfl
theorem ws_in6 : Cond.instantiable RX6 3 ∈ lw_g := gw2 33 rfl rfl
theorem ws_in7 : Cond.instantiable RX7 2 ∈ lw_g := gw1 167 rfl rfl
theorem ws_in8 : Cond.instantiable RX8 5 ∈ lw_g := gw2 8 rfl rfl
theorem ws_in9 : Cond.instantiable RX9 12 ∈ lw_g := gw1 22 rfl rfl
theorem ws_in10 : Cond.instantiable RX10 29 ∈ lw_g := gw4 171 rfl rfl
theorem ws_aI : Cond.arrayClass .int ∈ lw_g := wacI
theorem ws_aB : Cond.arrayClass .byte ∈ lw_g := wacB
/-! THE CLAIM OUT OF ONE WALK OF THE LAW'S BODY. Your part is whole_start (and what it stands on); all else here is the same for every law, but numbers. -/
def R_law : String := "NeckWorldsLaw"
def lw_P (b : Addr) (xs : List Int32) (args : Array Value) (s : State) : Prop := args = #[.ref b] ∧ s.IntsAt b xs ∧ xs.length ≤ 3072 ∧ (Jvm.Cond.and given_1 narrow_1).before args s = true
def lw_Q (_ : Array Value) (s : State) (o : Outcome) (t : State) : Prop := o = .returned (some (.int 1)) ∧ Framed s o t [] 600000 7302250
def lw_Z (below : List Frame) (a : Array Value) (s : State) : State → Prop := fun t => ∃ o, t.status = .running ∧ Ended t below o ∧ lw_Q a s o t
/-- the law's own end, with 1 on the stack, nothing written that was there before, its room as the claim has it -/
theorem lw_ret {p : Program} {l : Launch} {e : Env} {s : State} {m : MethodId} {below : List Frame} {meth : Method} {c : Code} {b : Nat} (hx : p.tables.exec = Jvm.exec) (hb : c.code = code) (hr : meth.sig.returnType = ret) (hlocks : meth.locks = false) {pc : Nat} {H : Heap} {ls : Array Slot} (hdg : decode code pc = .ok (.ireturn, 1)) : W p l e room_1 s m #[Value.ref b] below meth c H [] 600000 7302250 (lw_Z below #[Value.ref b] s) (F0 m pc ls [.int 1]) := by
  intro T hT X
  obtain ⟨fs, hret, hrun, hended, hW, hframe⟩ := X.leave (v := some (.int 1)) (hlocks := hlocks) (fun h => by rw [hr] at h; cases h)
  have hmeth' : T.vm.method? m = some meth := X.method'
  refine ⟨T.setFrames fs, ?_, .returned (some (.int 1)), hrun, hended, rfl, ⟨_, rfl⟩, hW, hframe⟩
  jvm_step X.here [X.here.top, hx, hb, hdg, hmeth', hr, ret, narrow_b1]
  (try refine ⟨rfl, ?_⟩); (try refine ⟨rfl, ?_⟩)
  first | (intro acts; rw [hret _ acts rfl rfl rfl]) | rw [hret _ _ rfl rfl rfl]
  exact Steps.refl _
/-- what holds at the law's entry: the machine, the code, the tables' words (any of lw_tbl by 'hts w (by decide +kernel)'), the script of L ints xs at the cell b, what the Statement gives of the start (any of its parts by flat_of_before) -/
def lw_At (p : Program) (s : State) (m : MethodId) (meth : Method) (c : Code) (b L : Nat) (xs : Nat → Int32) : Prop :=
  p.tables.exec = Jvm.exec ∧ c.code = code ∧ meth.sig.returnType = ret ∧ c.maxLocals = 4 ∧ s.vm.findClass R_law = some m.cls ∧ (∀ w ∈ lw_tbl, w.before #[Value.ref b] s = true) ∧ va_X b L xs s s.heap ∧ b < s.heap.size ∧ meth.locks = false ∧ (Jvm.Cond.and given_1 narrow_1).before #[Value.ref b] s = true
theorem ws_nest {args : Array Value} {s : State} (h : ∀ w ∈ lw_tbl, w.before args s = true) : ∀ q ∈ nestL, va_Nw (.methodLinkNest q.1 q.2.1 q.2.2 "NeckWorlds") s := by
  unfold nestL
  exact List.forall_mem_cons.mpr ⟨va_Nw.of rfl (h _ (List.mem_of_getElem? (i := 435) (by decide +kernel))), List.forall_mem_cons.mpr ⟨va_Nw.of rfl (h _ (List.mem_of_getElem? (i := 450) (by decide +kernel))), List.forall_mem_cons.mpr ⟨va_Nw.of rfl (h _ (List.mem_of_getElem? (i := 492) (by decide +kernel))), List.forall_mem_cons.mpr ⟨va_Nw.of rfl (h _ (List.mem_of_getElem? (i := 581) (by decide +kernel))), List.forall_mem_cons.mpr ⟨va_Nw.of rfl (h _ (List.mem_of_getElem? (i := 714) (by decide +kernel))), List.forall_mem_cons.mpr ⟨va_Nw.of rfl (h _ (List.mem_of_getElem? (i := 948) (by decide +kernel))), fun _ h => absurd h List.not_mem_nil⟩⟩⟩⟩⟩⟩
theorem ws_arr {args : Array Value} {s : State} {ty : FieldType} (hp : (∀ C, ty ≠ .object C)) (h : (Cond.arrayClass ty).before args s = true) : ∃ c : ClassId, ArrOfT s c ty ∧ va_RA s c ty := by
  obtain ⟨c, k, comp, h1, h2, h3⟩ := Cond.arrayClass_spec h
  refine ⟨c, fun n z => ⟨fun q hq => (by cases hq), k, h2, comp, h3⟩, ?_⟩
  cases ty with
  | object C => exact absurd rfl (hp C)
  | _ => exact h1
theorem ws_arrO {args : Array Value} {s : State} {C : String} (h : (Cond.arrayOver (.object C)).before args s = true) : ∃ c : ClassId, ArrOfT s c (.object C) ∧ va_RA s c (.object C) := by
  obtain ⟨comp, c, k, h1, h2, h3, h4, h5⟩ := Cond.arrayOver_spec h
  exact ⟨c, fun n z => ⟨fun q hq => (by cases hq), k, h3, comp, h4⟩, k, comp, h3, h4, h1, h5⟩
set_option maxHeartbeats 4000000 in
theorem ws_SF {s : State} {b L : Nat} {xs : Nat → Int32} (hL : L ≤ 3072) (ht : ∀ w ∈ lw_tbl, w.before #[Value.ref b] s = true) (hX : va_X b L xs s s.heap) (hbl : b < s.heap.size) (hg : (Jvm.Cond.and given_1 narrow_1).before #[Value.ref b] s = true) : ∃ (D : va_G) (dA : Nat → ClassId) (sa : Nat → Nat), sa 1008 = b ∧ SF (L, xs) D dA s.heap.size sa s s.heap := by
  have hts : ∀ w ∈ lw_g, w.before #[Value.ref b] s = true := fun w h => ht w (List.mem_filter.mp h).1
  have hs := flat_of_before _ hg
  have hA : ∀ a : Nat, a < s.heap.size → ¬ Ab s.heap.size a := fun a h1 h2 => absurd h1 (Nat.not_lt.mpr h2)
  obtain ⟨c0, i0, k0⟩ := u_known (C := RX0) (T := TX0) (N := 4) (n := 4) hts wsg0 (hts _ ws_in0)
  obtain ⟨c1, i1, k1⟩ := u_known (C := RX1) (T := TX1) (N := 5) (n := 5) hts wsg1 (hts _ ws_in1)
  obtain ⟨c2, i2, k2⟩ := u_known (C := RX2) (T := TX2) (N := 4) (n := 4) hts wsg2 (hts _ ws_in2)
  obtain ⟨c3, i3, k3⟩ := u_known (C := RX3) (T := TX3) (N := 9) (n := 9) hts wsg3 (hts _ ws_in3)
  obtain ⟨c4, i4, k4⟩ := u_known (C := RX4) (T := TX4) (N := 6) (n := 6) hts wsg4 (hts _ ws_in4)
  obtain ⟨c5, i5, k5⟩ := u_known (C := RX5) (T := TX5) (N := 10) (n := 10) hts wsg5 (hts _ ws_in5)
  obtain ⟨c6, i6, k6⟩ := u_known (C := RX6) (T := TX6) (N := 3) (n := 3) hts wsg6 (hts _ ws_in6)
  obtain ⟨c7, i7, k7⟩ := u_known (C := RX7) (T := TX7) (N := 2) (n := 2) hts wsg7 (hts _ ws_in7)
  obtain ⟨c8, i8, k8⟩ := u_known (C := RX8) (T := TX8) (N := 5) (n := 5) hts wsg8 (hts _ ws_in8)
  obtain ⟨c9, i9, k9⟩ := u_known (C := RX9) (T := TX9) (N := 12) (n := 12) hts wsg9 (hts _ ws_in9)
  obtain ⟨c10, i10, k10⟩ := u_known (C := RX10) (T := TX10) (N := 29) (n := 29) hts wsg10 (hts _ ws_in10)
  obtain ⟨d0, e0, f0⟩ := ws_arr (ty := .int) (fun C h => by cases h) (hts _ ws_aI)
  obtain ⟨d1, e1, f1⟩ := ws_arr (ty := .byte) (fun C h => by cases h) (hts _ ws_aB)
  obtain ⟨d2, e2, f2⟩ := ws_arrO (C := RX1) (ht _ (List.mem_of_getElem? (i := 99) (by decide +kernel)))
  obtain ⟨d3, e3, f3⟩ := ws_arrO (C := RX6) (ht _ (List.mem_of_getElem? (i := 335) (by decide +kernel)))
  have elA : ∀ j : Nat, j < 7 → (Cond.eq (.elem (.static "NeckWorlds" "ABOVE" "[I") (.int (Int32.ofNat j))) (.int (aboveF j))) ∈ flatC (Jvm.Cond.and given_1 narrow_1) := by decide +kernel
  obtain ⟨tA, uA, vA⟩ := va_Tof (tm := .static "NeckWorlds" "ABOVE" "[I") (ty := .int) (N := 7) (f := fun j => .int (aboveF j)) (A := Ab s.heap.size) (by decide) (hs _ (by decide +kernel)) (va_eqt (hs (Cond.eq (.length (.static "NeckWorlds" "ABOVE" "[I")) (.int 7)) (by decide +kernel))) (fun j hj => va_eqt (hs _ (elA j hj))) hA
  have zA := va_Zof (A := Ab s.heap.size) (ht _ (List.mem_of_getElem? (i := 506) (by decide +kernel))) (hts _ (gw1 1 rfl rfl)) uA hA
  have elB : ∀ j : Nat, j < 28 → (Cond.eq (.elem (.static "NeckWorlds$Voices" "BODIES" "[I") (.int (Int32.ofNat j))) (.int (bodiesF j))) ∈ flatC (Jvm.Cond.and given_1 narrow_1) := by decide +kernel
  obtain ⟨tB, uB, vB⟩ := va_Tof (tm := .static "NeckWorlds$Voices" "BODIES" "[I") (ty := .int) (N := 28) (f := fun j => .int (bodiesF j)) (A := Ab s.heap.size) (by decide) (hs _ (by decide +kernel)) (va_eqt (hs (Cond.eq (.length (.static "NeckWorlds$Voices" "BODIES" "[I")) (.int 28)) (by decide +kernel))) (fun j hj => va_eqt (hs _ (elB j hj))) hA
  have zB := va_Zof (A := Ab s.heap.size) (ht _ (List.mem_of_getElem? (i := 871) (by decide +kernel))) (hts _ (gw1 10 rfl rfl)) uB hA
  have zC := va_Zof (A := Ab s.heap.size) (ht _ (List.mem_of_getElem? (i := 603) (by decide +kernel))) (hts _ (gw1 14 rfl rfl)) (va_eqi (hs (Cond.eq (.static "java/lang/String" "COMPACT_STRINGS" "Z") (.int 1)) (by decide +kernel))) hA
  have hst : ∃ adK adV : Nat → Nat, vk_S 3 strLen strByt adK adV (Ab s.heap.size) s s.heap ∧ ∀ i : Nat, i < 3 → (Term.string RX4 (([35, 37, 19] : List Nat).getD i 0)).eval #[Value.ref b] s none [] s = some (.ref (adK i)) := by
    refine vk_Sof (tm := fun i => Term.string RX4 (([35, 37, 19] : List Nat).getD i 0)) (fun i hi => ?_) (fun i hi => hs _ ?_) (fun i hi => hs _ ?_) (fun i hi => hs _ ?_) (fun i hi => hs _ ?_) (fun i hi j hj => hs _ ?_) (fun i j hi hj hij => ?_) hA
    · exact (show ∀ i, i < 3 → strLen.getD i 0 < 2 ^ 31 by decide +kernel) i hi
    · exact (show ∀ i, i < 3 → Cond.exactly (Term.string RX4 (([35, 37, 19] : List Nat).getD i 0)) "java/lang/String" ∈ flatC (Jvm.Cond.and given_1 narrow_1) by decide +kernel) i hi
    · exact (show ∀ i, i < 3 → Cond.eq (.field (Term.string RX4 (([35, 37, 19] : List Nat).getD i 0)) "java/lang/String" "coder" "B") (.int 0) ∈ flatC (Jvm.Cond.and given_1 narrow_1) by decide +kernel) i hi
    · exact (show ∀ i, i < 3 → Cond.arrayOf (.field (Term.string RX4 (([35, 37, 19] : List Nat).getD i 0)) "java/lang/String" "value" "[B") .byte ∈ flatC (Jvm.Cond.and given_1 narrow_1) by decide +kernel) i hi
    · exact (show ∀ i, i < 3 → Cond.eq (.length (.field (Term.string RX4 (([35, 37, 19] : List Nat).getD i 0)) "java/lang/String" "value" "[B")) (.int (Int32.ofNat (strLen.getD i 0))) ∈ flatC (Jvm.Cond.and given_1 narrow_1) by decide +kernel) i hi
    · exact (show ∀ i, i < 3 → ∀ j, j < strLen.getD i 0 → Cond.eq (.elem (.field (Term.string RX4 (([35, 37, 19] : List Nat).getD i 0)) "java/lang/String" "value" "[B") (.int (Int32.ofNat j))) (.int ((strByt.getD i []).getD j 0)) ∈ flatC (Jvm.Cond.and given_1 narrow_1) by decide +kernel) i hi j hj
    · have hd : ∀ i, i < 3 → ∀ j, j < 3 → i ≠ j → Cond.not (Cond.eq (Term.string RX4 (([35, 37, 19] : List Nat).getD i 0)) (Term.string RX4 (([35, 37, 19] : List Nat).getD j 0))) ∈ flatC (Jvm.Cond.and given_1 narrow_1) ∨ Cond.not (Cond.eq (Term.string RX4 (([35, 37, 19] : List Nat).getD j 0)) (Term.string RX4 (([35, 37, 19] : List Nat).getD i 0))) ∈ flatC (Jvm.Cond.and given_1 narrow_1) := by decide +kernel
      rcases hd i hi j hj hij with h | h
      · exact Or.inl (hs _ h)
      · exact Or.inr (hs _ h)
  obtain ⟨adK, adV, vS, eK⟩ := hst
  obtain ⟨sa, h8, h0, h1, h2, h5⟩ : ∃ sa : Nat → Nat, sa 1008 = b ∧ sa 1000 = tA ∧ sa 1001 = tB ∧ (∀ i, i < 3 → sa (1002 + i) = adK i) ∧ ∀ i, i < 3 → sa (1005 + i) = adV i := by
    refine ⟨fun k => if k = 1008 then b else if k = 1000 then tA else if k = 1001 then tB else if k < 1005 then adK (k - 1002) else adV (k - 1005), rfl, rfl, rfl, fun i hi => ?_, fun i hi => ?_⟩
    · show (if 1002 + i = 1008 then b else if 1002 + i = 1000 then tA else if 1002 + i = 1001 then tB else if 1002 + i < 1005 then adK (1002 + i - 1002) else adV (1002 + i - 1005)) = adK i
      rw [if_neg (by omega), if_neg (by omega), if_neg (by omega), if_pos (by omega), show 1002 + i - 1002 = i by omega]
    · show (if 1005 + i = 1008 then b else if 1005 + i = 1000 then tA else if 1005 + i = 1001 then tB else if 1005 + i < 1005 then adK (1005 + i - 1002) else adV (1005 + i - 1005)) = adV i
      rw [if_neg (by omega), if_neg (by omega), if_neg (by omega), if_neg (by omega), show 1005 + i - 1005 = i by omega]
  refine ⟨(fun c => ([c0, c1, c2, c3, c4, c5, c6, c7, c8, c9, c10] : List ClassId).getD c 0, fun c => ([i0, i1, i2, i3, i4, i5, i6, i7, i8, i9, i10] : List (Nat → Nat)).getD c id), fun c => ([d0, d1, d2, d3] : List ClassId).getD c 0, sa, h8, ?_⟩
  have r0 : vk_R RX4 35 "fm" (sa 1002) s := by rw [show sa 1002 = adK 0 from h2 0 (by decide)]; exact vk_R.of (ht _ (List.mem_of_getElem? (i := 568) (by decide +kernel))) (eK 0 (by decide))
  have r1 : vk_R RX4 37 "slt" (sa 1003) s := by rw [show sa 1003 = adK 1 from h2 1 (by decide)]; exact vk_R.of (ht _ (List.mem_of_getElem? (i := 569) (by decide +kernel))) (eK 1 (by decide))
  have r2 : vk_R RX4 19 "" (sa 1004) s := by rw [show sa 1004 = adK 2 from h2 2 (by decide)]; exact vk_R.of (ht _ (List.mem_of_getElem? (i := 251) (by decide +kernel))) (eK 2 (by decide))
  have vS2 : vk_S 3 strLen strByt (fun i => sa (1002 + i)) (fun i => sa (1005 + i)) (Ab s.heap.size) s s.heap := by
    refine ⟨fun i hi => ?_, fun i j hi hj e => vS.2 i j hi hj (by rw [← h2 i hi, ← h2 j hj]; exact e)⟩
    simp only [h2 i hi, h5 i hi]
    exact vS.1 i hi
  have x8 : va_X (sa 1008) (L, xs).1 (L, xs).2 s s.heap := by rw [h8]; exact hX
  have hk1 : ∀ (c : Nat) (q : vw_C), vwCl[c]? = some q → u_Kn s q.1 q.2.1 q.2.2 (([c0, c1, c2, c3, c4, c5, c6, c7, c8, c9, c10] : List ClassId).getD c 0) (([i0, i1, i2, i3, i4, i5, i6, i7, i8, i9, i10] : List (Nat → Nat)).getD c id) := by
    intro c q hq
    match c, hq with
    | 0, hq => cases hq; exact k0
    | 1, hq => cases hq; exact k1
    | 2, hq => cases hq; exact k2
    | 3, hq => cases hq; exact k3
    | 4, hq => cases hq; exact k4
    | 5, hq => cases hq; exact k5
    | 6, hq => cases hq; exact k6
    | 7, hq => cases hq; exact k7
    | 8, hq => cases hq; exact k8
    | 9, hq => cases hq; exact k9
    | 10, hq => cases hq; exact k10
    | n + 11, hq => cases hq
  have hk2 : ∀ (k : Nat) (q : ClassId × FieldType), (tys (fun c => ([d0, d1, d2, d3] : List ClassId).getD c 0))[k]? = some q → ArrOfT s q.1 q.2 ∧ va_RA s q.1 q.2 := by
    intro k q hq
    match k, hq with
    | 0, hq => cases hq; exact ⟨e0, f0⟩
    | 1, hq => cases hq; exact ⟨e1, f1⟩
    | 2, hq => cases hq; exact ⟨e2, f2⟩
    | 3, hq => cases hq; exact ⟨e3, f3⟩
    | n + 4, hq => cases hq
  exact ⟨⟨hk1, hk2⟩, ws_nest ht, va_Nw.of rfl (ht _ (List.mem_of_getElem? (i := 869) (by decide +kernel))), ⟨va_AO.of (ht _ (List.mem_of_getElem? (i := 99) (by decide +kernel))), va_AO.of (ht _ (List.mem_of_getElem? (i := 335) (by decide +kernel)))⟩, ⟨r0, r1, r2⟩, ⟨by rw [h0]; exact zA, by rw [h0]; exact vA⟩, ⟨by rw [h1]; exact zB, by rw [h1]; exact vB⟩, zC, vS2, x8, by rw [h8]; exact hbl, Nat.le_refl _, by show L < 2 ^ 31; omega⟩
/-- the whole, out of what the law's numbers do -/
theorem start_of (hpure : ∀ sx : SXT, sx.1 ≤ 3072 → ∀ mem : MMt, (∀ a j, a < NX → mem a j = M0 a j) → L_L_law sx mem (fun r _ => r = 1))
    {p : Program} {e : Env} {s : State} {m : MethodId} {below : List Frame} {meth : Method} {c : Code} (l : Launch) {b L : Nat} {xs : Nat → Int32} (hL : L ≤ 3072) (C0 : lw_At p s m meth c b L xs) : W p l e room_1 s m #[Value.ref b] below meth c s.heap [] 0 0 (lw_Z below #[Value.ref b] s) (entryFrame m ([Value.ref b] : List Value).toArray 4) := by
  obtain ⟨hx, hb, hr, hml, hown, ht, hX, hbl, hlocks, hgv⟩ := C0
  obtain ⟨D, dA, sa, hsa, hF⟩ := ws_SF hL ht hX hbl hgv
  have K := law_entry (sx := (L, xs)) (rf := fun _ _ => none) (mem := fun _ _ => 0) (Q := QQi RFok (fun r _ => r = 1)) (fun rf' mem' hM => g_L_law (L, xs) (fun a j ha _ => (hM a j ha).1) mem' (hpure (L, xs) hL mem' (fun a j ha => (hM a j ha).2)))
  · have hts : ∀ w ∈ lw_g, w.before #[Value.ref b] s = true := fun w h => ht w (List.mem_filter.mp h).1
    rw [lg_entry_eq]
    have K2 := K p l e room_1 s m #[Value.ref b] below meth c (lw_Z below #[Value.ref b] s) D dA s.heap.size sa ⟨hx, hb, hml, hown, hts, hr, hlocks, fun q => absurd q (by decide)⟩ hF ⟨by decide, by decide, by decide +kernel, by decide +kernel⟩ ?_ s.heap [] _ ⟨fun k q hq => absurd (world_some hq).1 (Nat.not_lt_zero _), rfl, by decide, va_S.rf⟩ (entry_LV (args := [.ref 1008]) (by decide) rfl)
    · have e1 : (List.map (re s.heap.size sa) [Value.ref 1008]) = [Value.ref b] := by
        show [Value.ref (KS s.heap.size sa 1008)] = _
        rw [show KS s.heap.size sa 1008 = sa 1008 from if_neg (by decide), hsa]
      rw [e1] at K2
      exact K2
    · intro v rf' mem' H locs pc lsr hq hrt hri hH
      obtain ⟨-, r, rfl, rfl⟩ := hq
      refine va_forget (fun q hq => hH.2.2.2.2.2 q hq) ?_
      refine W.widen (k := 600000) (n := 7302250) (by decide +kernel) (by decide +kernel) ?_
      exact lw_ret hx hb hr hlocks hri
