/-- a course's rows from cb on hold what s holds -/
def CR (cb : Nat) (s : Nat → Int32) (mem : MMt) : Prop := mem cb 1 = s 6 ∧ mem cb 2 = s 0 ∧ mem cb 3 = s 1 ∧ ∀ g : Nat, (g : Int) < (s 6).toInt → ∀ j, j < 5 → mem (cb + 2 + g) j = gd s g j
def WG (s : Nat → Int32) : Prop := (0 ≤ (s 6).toInt ∧ (s 6).toInt ≤ 8) ∧ ∀ g : Nat, (g : Int) < (s 6).toInt → GW (gd s g)
/-- a setting's rows from sb on hold what s holds -/
def SRr (sb : Nat) (s : Nat → Int32) (mem : MMt) : Prop := (mem sb 0 = s 2 ∧ mem (sb + 1) 0 = s 3 ∧ mem (sb + 1) 1 = s 4 ∧ mem sb 2 = s 5 ∧ mem sb 4 = s 7 ∧ mem sb 6 = s 8) ∧
  (∀ i : Nat, (i : Int) < (s 7).toInt → s (50 + i) = mem (sb + 2) i &&& 255) ∧ (∀ i, i < 50 → -128 ≤ (mem (sb + 2) i).toInt ∧ (mem (sb + 2) i).toInt ≤ 127) ∧
  (∀ i : Nat, (i : Int) < (s 8).toInt → mem (sb + 3) i = s (100 + i)) ∧ LWR (sb + 4) s 120 mem ∧ LWR (sb + 7) s 221 mem
def WS (s : Nat → Int32) : Prop := (2 ≤ (s 2).toInt ∧ (s 2).toInt ≤ 24) ∧ (0 ≤ (s 7).toInt ∧ (s 7).toInt ≤ 50) ∧ (0 ≤ (s 8).toInt ∧ (s 8).toInt ≤ 20) ∧ WL s
def IM (mem : MMt) : Prop := mem 15 0 = 0 ∧ mem 18 0 = 1 ∧ MEM (mem 77) mem
def IK (n : Nat) (mem : MMt) : Prop := mem 0 11 = mem 76 3 ∧ (0 ≤ (mem 76 3).toInt ∧ (mem 76 3).toInt ≤ n) ∧ (mem 76 2 = 0 ↔ mem 76 3 = 0) ∧ (¬ mem 76 2 = 0 → CR 22 (mem 78) mem ∧ WG (mem 78) ∧ SRr 32 (mem 78) mem ∧ WS (mem 78))
def IE (mem : MMt) : Prop := ∀ j, j < 6 → mem 67 j = mem 79 j
def IV (mem : MMt) : Prop := mem 64 1 = mem 76 24 ∧ (0 ≤ (mem 76 24).toInt ∧ (mem 76 24).toInt ≤ 40) ∧ ∀ i : Nat, (i : Int) < (mem 76 24).toInt → mem 65 i = mem 89 i
def IB (b : Int32) : Prop := b = 0 ∨ b = 8 ∨ b = 16 ∨ b = 32
def IS1 (mem : MMt) (k : Nat) : Prop := mem (68 + 2 * k) 0 = mem 86 k ∧ IB (mem 86 k) ∧ mem (68 + 2 * k) 1 = mem 87 k ∧ (0 ≤ (mem 87 k).toInt ∧ (mem 87 k).toInt ≤ 40) ∧ ∀ i, i < 40 → mem (68 + 2 * k + 1) i = mem 88 (40 * k + i)
def ISh (mem : MMt) : Prop := ∀ k, k < 4 → IS1 mem k
def IC (mem : MMt) : Prop := CR 1 (mem 77) mem ∧ WG (mem 77)
def IT (mem : MMt) : Prop := SRr 11 (mem 77) mem ∧ WS (mem 77)
def Inv (n : Nat) (mem : MMt) : Prop := IC mem ∧ IT mem ∧ IM mem ∧ IK n mem ∧ IE mem ∧ IV mem ∧ ISh mem
theorem CR_congr {cb : Nat} {s t : Nat → Int32} {mem m' : MMt} (h : CR cb s mem) (h0 : ∀ j, 1 ≤ j → j ≤ 3 → m' cb j = mem cb j) (hr : ∀ g j, g < 8 → j < 5 → m' (cb + 2 + g) j = mem (cb + 2 + g) j) (hs : ∀ i, i < 50 → t i = s i) (hw : (s 6).toInt ≤ 8) : CR cb t m' := by
  obtain ⟨h1, h2, h3, h4⟩ := h
  refine ⟨?_, ?_, ?_, ?_⟩
  · rw [h0 1 (by decide) (by decide), hs 6 (by decide), h1]
  · rw [h0 2 (by decide) (by decide), hs 0 (by decide), h2]
  · rw [h0 3 (by decide) (by decide), hs 1 (by decide), h3]
  · intro g hg j hj
    rw [hs 6 (by decide)] at hg
    unfold gd
    rw [hr g j (by omega) hj, hs _ (by omega)]
    exact h4 g hg j hj
theorem WG_congr {s t : Nat → Int32} (h : WG s) (hs : ∀ i, i < 50 → t i = s i) : WG t := by
  obtain ⟨h1, h2⟩ := h
  have e6 := hs 6 (by decide)
  refine ⟨by rw [e6]; exact h1, fun g hg => ?_⟩
  rw [e6] at hg
  have h3 := h2 g hg
  have e : ∀ j, j < 5 → gd t g j = gd s g j := fun j hj => hs _ (by omega)
  unfold GW at h3 ⊢
  rw [e 0 (by decide), e 1 (by decide), e 2 (by decide), e 3 (by decide), e 4 (by decide)]
  exact h3
theorem SRr_congr {sb : Nat} {s t : Nat → Int32} {mem m' : MMt} (h : SRr sb s mem) (hr : ∀ a, (a = sb ∨ a = sb + 1 ∨ a = sb + 2 ∨ a = sb + 3 ∨ a = sb + 4 ∨ a = sb + 5 ∨ a = sb + 7 ∨ a = sb + 8) → m' a = mem a) (hs : ∀ i, 2 ≤ i → i ≠ 6 → (i < 10 ∨ 50 ≤ i) → i < 322 → t i = s i) (hw : (s 7).toInt ≤ 50 ∧ (s 8).toInt ≤ 20) : SRr sb t m' := by
  obtain ⟨⟨a1, a2, a3, a4, a5, a6⟩, b1, b2, b3, b4, b5⟩ := h
  have e7 := hs 7 (by decide) (by decide) (by decide) (by decide)
  have e8 := hs 8 (by decide) (by decide) (by decide) (by decide)
  refine ⟨⟨?_, ?_, ?_, ?_, ?_, ?_⟩, ?_, ?_, ?_, ?_, ?_⟩
  · rw [hr sb (by simp), hs 2 (by decide) (by decide) (by decide) (by decide), a1]
  · rw [hr _ (by simp), hs 3 (by decide) (by decide) (by decide) (by decide), a2]
  · rw [hr _ (by simp), hs 4 (by decide) (by decide) (by decide) (by decide), a3]
  · rw [hr _ (by simp), hs 5 (by decide) (by decide) (by decide) (by decide), a4]
  · rw [hr _ (by simp), e7, a5]
  · rw [hr _ (by simp), e8, a6]
  · intro i hi
    rw [e7] at hi
    rw [hr _ (by simp), hs _ (by omega) (by omega) (by omega) (by omega)]
    exact b1 i hi
  · rw [hr _ (by simp)]; exact b2
  · intro i hi
    rw [e8] at hi
    rw [hr _ (by simp), hs _ (by omega) (by omega) (by omega) (by omega)]
    exact b3 i hi
  · exact LWR_congr b4 (fun i h1 h2 => hs i (by omega) (by omega) (by omega) (by omega)) (by rw [hr _ (by simp)]) (hr _ (by simp))
  · exact LWR_congr b5 (fun i h1 h2 => hs i (by omega) (by omega) (by omega) (by omega)) (by rw [hr _ (by simp)]) (hr _ (by simp))
theorem WS_congr {s t : Nat → Int32} (h : WS s) (hs : ∀ i, 2 ≤ i → i ≠ 6 → (i < 10 ∨ 50 ≤ i) → i < 322 → t i = s i) : WS t := by
  obtain ⟨h1, h2, h3, h4, h5⟩ := h
  refine ⟨?_, ?_, ?_, ?_, ?_⟩
  · rw [hs 2 (by decide) (by decide) (by decide) (by decide)]; exact h1
  · rw [hs 7 (by decide) (by decide) (by decide) (by decide)]; exact h2
  · rw [hs 8 (by decide) (by decide) (by decide) (by decide)]; exact h3
  · exact WFL_congr h4 fun i a b => hs i (by omega) (by omega) (by omega) (by omega)
  · exact WFL_congr h5 fun i a b => hs i (by omega) (by omega) (by omega) (by omega)
theorem IC_fr {mem m' : MMt} (h : IC mem) (hr : ∀ a, a = 1 ∨ (3 ≤ a ∧ a ≤ 10) → m' a = mem a) (hs : ∀ i, i < 50 → m' 77 i = mem 77 i) : IC m' :=
  ⟨CR_congr h.1 (fun j _ _ => by rw [hr 1 (by simp)]) (fun g j hg _ => by rw [hr _ (by omega)]) hs h.2.1.2, WG_congr h.2 hs⟩
theorem IT_fr {mem m' : MMt} (h : IT mem) (hr : ∀ a, 11 ≤ a → a ≤ 19 → a ≠ 17 → m' a = mem a) (hs : ∀ i, 2 ≤ i → i ≠ 6 → (i < 10 ∨ 50 ≤ i) → i < 322 → m' 77 i = mem 77 i) : IT m' :=
  ⟨SRr_congr h.1 (fun a ha => hr a (by omega) (by omega) (by omega)) hs ⟨h.2.2.1.2, h.2.2.2.1.2⟩, WS_congr h.2 hs⟩
theorem IM_fr {mem m' : MMt} (h : IM mem) (ht : WL (mem 77)) (h1 : m' 15 0 = mem 15 0) (h2 : m' 18 0 = mem 18 0) (h3 : m' 21 = mem 21) (hs : ∀ i, 120 ≤ i → i < 322 → m' 77 i = mem 77 i) : IM m' :=
  ⟨h1.trans h.1, h2.trans h.2.1, MEM_congr h.2.2 h3 fun a b => gv_congr ht.1 ht.2 hs _ _ _ _⟩
theorem IK_fr {n : Nat} {mem m' : MMt} (h : IK n mem) (h0 : m' 0 11 = mem 0 11) (h2 : m' 76 2 = mem 76 2) (h3 : m' 76 3 = mem 76 3) (hr : ∀ a, (a = 78 ∨ a = 22 ∨ (24 ≤ a ∧ a ≤ 40 ∧ a ≠ 38)) → m' a = mem a) : IK n m' := by
  obtain ⟨k1, k2, k3, k4⟩ := h
  refine ⟨by rw [h0, h3]; exact k1, by rw [h3]; exact k2, by rw [h2, h3]; exact k3, ?_⟩
  rw [h2, hr 78 (by simp)]
  intro c
  obtain ⟨q1, q2, q3, q4⟩ := k4 c
  exact ⟨CR_congr q1 (fun j _ _ => by rw [hr _ (by simp)]) (fun g j hg _ => by rw [hr _ (by omega)]) (fun _ _ => rfl) q2.1.2, q2, SRr_congr q3 (fun a ha => hr a (by omega)) (fun _ _ _ _ _ => rfl) ⟨q4.2.1.2, q4.2.2.1.2⟩, q4⟩
theorem IE_fr {mem m' : MMt} (h : IE mem) (h1 : m' 67 = mem 67) (h2 : m' 79 = mem 79) : IE m' := by unfold IE; rw [h1, h2]; exact h
theorem IV_fr {mem m' : MMt} (h : IV mem) (h1 : m' 64 = mem 64) (h2 : m' 65 = mem 65) (h3 : m' 89 = mem 89) (h4 : m' 76 24 = mem 76 24) : IV m' := by unfold IV; rw [h1, h2, h3, h4]; exact h
theorem IS1_fr {mem m' : MMt} {k : Nat} (h : IS1 mem k) (h1 : m' (68 + 2 * k) = mem (68 + 2 * k)) (h2 : m' (68 + 2 * k + 1) = mem (68 + 2 * k + 1)) (h3 : m' 86 k = mem 86 k) (h4 : m' 87 k = mem 87 k) (h5 : ∀ i, i < 40 → m' 88 (40 * k + i) = mem 88 (40 * k + i)) : IS1 m' k := by
  obtain ⟨g1, g2, g3, g4, g5⟩ := h
  refine ⟨by rw [h1, h3]; exact g1, by rw [h3]; exact g2, by rw [h1, h4]; exact g3, by rw [h4]; exact g4, fun i hi => ?_⟩
  rw [h2, h5 i hi]; exact g5 i hi
theorem ISh_fr {mem m' : MMt} (h : ISh mem) (hr : ∀ a, (68 ≤ a ∧ a ≤ 75) ∨ (86 ≤ a ∧ a ≤ 88) → m' a = mem a) : ISh m' := fun k hk =>
  IS1_fr (h k hk) (hr _ (by omega)) (hr _ (by omega)) (by rw [hr _ (by omega)]) (by rw [hr _ (by omega)]) (fun i _ => by rw [hr _ (by omega)])
/-- rows that hold nothing that lasts -/
def SC (a : Nat) : Prop := a = 2 ∨ a = 17 ∨ a = 20 ∨ a = 21 ∨ a = 23 ∨ a = 38 ∨ (41 ≤ a ∧ a ≤ 63) ∨ a = 66 ∨ a = 76 ∨ (80 ≤ a ∧ a ≤ 85) ∨ 90 ≤ a
theorem Inv_sc {n : Nat} {mem m' : MMt} (h : Inv n mem) (hr : ∀ a, ¬ SC a → m' a = mem a) (h76 : m' 76 2 = mem 76 2 ∧ m' 76 3 = mem 76 3 ∧ m' 76 24 = mem 76 24) (hM : MEM (mem 77) m') : Inv n m' := by
  obtain ⟨c1, c2, c3, c4, c5, c6, c7⟩ := h
  have r : ∀ a, (a ≠ 2 ∧ a ≠ 17 ∧ a ≠ 20 ∧ a ≠ 21 ∧ a ≠ 23 ∧ a ≠ 38 ∧ (a < 41 ∨ 63 < a) ∧ a ≠ 66 ∧ a ≠ 76 ∧ (a < 80 ∨ 85 < a) ∧ a < 90) → m' a = mem a := fun a ha => hr a (by unfold SC; omega)
  have e77 := r 77 (by omega)
  refine ⟨IC_fr c1 (fun a ha => r a (by omega)) (fun i _ => by rw [e77]), IT_fr c2 (fun a h1 h2 h3 => r a (by omega)) (fun i _ _ _ _ => by rw [e77]), ⟨by rw [r 15 (by omega)]; exact c3.1, by rw [r 18 (by omega)]; exact c3.2.1, by rw [e77]; exact hM⟩, IK_fr c4 (by rw [r 0 (by omega)]) h76.1 h76.2.1 (fun a ha => r a (by omega)), IE_fr c5 (r _ (by omega)) (r _ (by omega)), IV_fr c6 (r _ (by omega)) (r _ (by omega)) (r _ (by omega)) h76.2.2, ISh_fr c7 (fun a ha => r a (by omega))⟩
theorem Inv_mono {n : Nat} {mem : MMt} (h : Inv n mem) : Inv (n + 1) mem := by
  obtain ⟨c1, c2, c3, c4, c5⟩ := h
  exact ⟨c1, c2, c3, ⟨c4.1, ⟨c4.2.1.1, by have := c4.2.1.2; omega⟩, c4.2.2⟩, c5⟩
/-- an ERROR told by both -/
theorem Inv_err {n : Nat} {mem m' : MMt} (h : Inv n mem) {k : Nat} (hr : ∀ a, a ≠ 67 → a ≠ 79 → m' a = mem a) (h1 : m' 67 = upd (mem 67) k (mem 67 k + 1)) (h2 : m' 79 = upd (mem 79) k (mem 79 k + 1)) (hk : k < 6) : Inv n m' := by
  obtain ⟨c1, c2, c3, c4, c5, c6, c7⟩ := h
  have e77 := hr 77 (by decide) (by decide)
  refine ⟨IC_fr c1 (fun a ha => hr a (by omega) (by omega)) (fun i _ => by rw [e77]), IT_fr c2 (fun a h1 h2 h3 => hr a (by omega) (by omega)) (fun i _ _ _ _ => by rw [e77]), IM_fr c3 c2.2.2.2.2 (by rw [hr 15 (by omega) (by omega)]) (by rw [hr 18 (by omega) (by omega)]) (hr 21 (by omega) (by omega)) (fun i _ _ => by rw [e77]), IK_fr c4 (by rw [hr 0 (by omega) (by omega)]) (by rw [hr 76 (by omega) (by omega)]) (by rw [hr 76 (by omega) (by omega)]) (fun a ha => hr a (by omega) (by omega)), ?_, IV_fr c6 (hr _ (by omega) (by omega)) (hr _ (by omega) (by omega)) (hr _ (by omega) (by omega)) (by rw [hr 76 (by omega) (by omega)]), ISh_fr c7 (fun a ha => hr a (by omega) (by omega))⟩
  intro j hj
  rw [h1, h2, upd_at, upd_at, c5 j hj, c5 k hk]
theorem e10 : ((1 : Int32) = 0) = False := by decide
theorem isGood9 {a : Int32} {mem : MMt} (hc : 0 ≤ (mem 1 1).toInt ∧ (mem 1 1).toInt ≤ 8) (Q : Int32 → MMt → Prop) : L_X9_isGood a mem Q ↔ if 0 ≤ a.toInt ∧ a.toInt < (mem 1 1).toInt then Q 1 mem else Q 0 mem := by
  unfold L_X9_isGood
  rw [within_sp]
  have e : ((mem 1 1) - (1 : Int32)).toInt = (mem 1 1).toInt - 1 := by rw [sb_ti]; simp only [Int32.reduceToInt]; omega
  rw [e]
  simp only [Int32.reduceToInt]
  have e2 : (0 ≤ a.toInt ∧ a.toInt ≤ (mem 1 1).toInt - 1) ↔ (0 ≤ a.toInt ∧ a.toInt < (mem 1 1).toInt) := by omega
  simp only [e2]
theorem isGood10 {a : Int32} {mem : MMt} (hc : 0 ≤ (mem 77 6).toInt ∧ (mem 77 6).toInt ≤ 8) (Q : Int32 → MMt → Prop) : L_X10_isGood a mem Q ↔ if 0 ≤ a.toInt ∧ a.toInt < (mem 77 6).toInt then Q 1 mem else Q 0 mem := by
  unfold L_X10_isGood
  rw [isIn_sp]
  have e : ((mem 77 6) - (1 : Int32)).toInt64.toInt = (mem 77 6).toInt - 1 := by rw [Int32.toInt_toInt64, sb_ti]; simp only [Int32.reduceToInt]; omega
  rw [e]
  simp only [Int64.reduceToInt]
  have e2 : (0 ≤ a.toInt ∧ a.toInt ≤ (mem 77 6).toInt - 1) ↔ (0 ≤ a.toInt ∧ a.toInt < (mem 77 6).toInt) := by omega
  simp only [e2]
