def nm3 (a b c : Int32) (j : Nat) : Int32 := if j = 0 then a else if j = 1 then b else c
def estp (nm : Nat → Int32) (w v : Int32) (st : List Int32) : List Int32 :=
  if w = 0 then v :: st else if w = 1 then nm v.toInt.toNat :: st else if w = 3 then (match st with | [] => [] | x :: r => (if x = 0 then 1 else 0) :: r) else (match st with | y :: x :: r => wkd v x y :: r | _ => [])
def evs (s : Nat → Int32) (o : Nat) (nm : Nat → Int32) : Nat → List Int32
  | 0 => []
  | k + 1 => estp nm (s (o + 1 + 2 * k)) (s (o + 2 + 2 * k)) (evs s o nm k)
/-- a row holds a stack, its top first -/
def STK (r : Nat → Int32) : List Int32 → Prop
  | [] => True
  | x :: st => r st.length = x ∧ STK r st
theorem STK_upd {r : Nat → Int32} {v : Int32} {i : Nat} : ∀ {st : List Int32}, STK r st → st.length ≤ i → STK (upd r i v) st
  | [], _, _ => trivial
  | x :: st, ⟨h1, h2⟩, h => ⟨by rw [upd_ne (by simp at h; omega)]; exact h1, STK_upd h2 (by simp at h; omega)⟩
theorem STK_push {r : Nat → Int32} {v : Int32} {st : List Int32} (h : STK r st) : STK (upd r st.length v) (v :: st) := ⟨upd_eq .., STK_upd h (Nat.le_refl _)⟩
def encw (w v : Int32) : Int32 := if w = 0 then v else if w = 1 then 10000 + v else if w = 2 then 20000 + v else 20033
def WST (w v : Int32) (d e : Nat) : Prop := (w = 0 ∧ 0 ≤ v.toInt ∧ v.toInt ≤ 9999 ∧ e = d + 1) ∨ (w = 1 ∧ 0 ≤ v.toInt ∧ v.toInt ≤ 2 ∧ e = d + 1) ∨ (w = 3 ∧ 1 ≤ d ∧ e = d) ∨ (w = 2 ∧ sgnc v ∧ 2 ≤ d ∧ e + 1 = d)
def WFD (s : Nat → Int32) (o n : Nat) (dep : Nat → Nat) : Prop := dep 0 = 0 ∧ dep n = 1 ∧ ∀ k, k < n → WST (s (o + 1 + 2 * k)) (s (o + 2 + 2 * k)) (dep k) (dep (k + 1))
def WFL (s : Nat → Int32) (o : Nat) : Prop := s o = -1 ∨ (1 ≤ (s o).toInt ∧ (s o).toInt ≤ 50 ∧ ∃ dep : Nat → Nat, WFD s o (s o).toInt.toNat dep)
def LWR (lq : Nat) (s : Nat → Int32) (o : Nat) (mem : MMt) : Prop :=
  (s o = -1 ∧ mem lq 2 = 0) ∨ (1 ≤ (s o).toInt ∧ (s o).toInt ≤ 50 ∧ mem lq 2 = s o ∧ ∀ k, k < (s o).toInt.toNat → mem (lq + 1) k = encw (s (o + 1 + 2 * k)) (s (o + 2 + 2 * k)))
def evr (s : Nat → Int32) (o : Nat) (nm : Nat → Int32) : Int32 := (evs s o nm (s o).toInt.toNat).headD 0
/-- what a USE gives -/
def gv (s : Nat → Int32) (use a b c : Int32) : Int32 :=
  if use = 0 then hld (if s 120 < 0 then (a - 20) / 5 else evr s 120 (nm3 a b c)) (-9) 9
  else hld (if s 221 < 0 then b * (a + 1) else evr s 221 (nm3 a b c)) (-99) 99
theorem evs_len {s : Nat → Int32} {o n : Nat} {nm : Nat → Int32} {dep : Nat → Nat} (h : WFD s o n dep) : ∀ k, k ≤ n → (evs s o nm k).length = dep k ∧ dep k ≤ k
  | 0, _ => ⟨h.1.symm, by rw [h.1]; exact Nat.le_refl _⟩
  | k + 1, hk => by
    have ih := evs_len (nm := nm) h k (by omega)
    have hw := h.2.2 k (by omega)
    unfold evs
    revert hw ih
    generalize evs s o nm k = st
    generalize s (o + 1 + 2 * k) = w
    generalize s (o + 2 + 2 * k) = v
    generalize dep (k + 1) = e
    generalize dep k = d
    intro ih hw
    rcases hw with ⟨rfl, -, -, e⟩ | ⟨rfl, -, -, e⟩ | ⟨rfl, e1, e⟩ | ⟨rfl, -, e1, e⟩
    · simp [estp]; omega
    · simp [estp]; omega
    · cases st with
      | nil => simp at ih; omega
      | cons x r => simp [estp] at ih ⊢; omega
    · cases st with
      | nil => simp at ih; omega
      | cons y r =>
        cases r with
        | nil => simp at ih; omega
        | cons x r => simp [estp] at ih ⊢; omega
theorem ti_p1 {x : Int32} {k : Nat} (h : x.toInt = k) (hk : k < 2147483647) : (x + 1).toInt = (k + 1 : Nat) := by rw [ad_ti, h]; simp only [Int32.reduceToInt]; omega
theorem ti_m1 {x : Int32} {k : Nat} (h : x.toInt = (k + 1 : Nat)) (hk : k < 2147483647) : (x + -1).toInt = k := by rw [ad_ti, h]; simp only [Int32.reduceToInt]; omega
theorem ti_s1 {x : Int32} {k : Nat} (h : x.toInt = (k + 1 : Nat)) (hk : k < 2147483647) : (x - 1).toInt = k := by rw [sb_ti, h]; simp only [Int32.reduceToInt]; omega
theorem tn_of {x : Int32} {k : Nat} (h : x.toInt = k) : x.toNatClampNeg = k := by rw [tn_ti, h]; rfl
theorem ti_ix {x1 x3 : Int32} {o k : Nat} (hx : x1.toInt = o) (ho : o ≤ 221) (e1 : x3.toInt = k) (hk : k < 50) : ((x1 + (1 : Int32)) + ((2 : Int32) * x3)).toInt = (o + 1 + 2 * k : Nat) ∧ ((x1 + (2 : Int32)) + ((2 : Int32) * x3)).toInt = (o + 2 + 2 * k : Nat) := by
  simp only [ad_ti, ml_ti, Int32.reduceToInt, hx, e1]
  constructor <;> omega
theorem vp_of {x : Int32} {k n : Nat} (h : x.toInt = k) (hk : k < n) : vp_in x n := vp_ti.mpr (by omega)
theorem nle_of {x y : Int32} {k n : Nat} (hx : x.toInt = n) (hy : y.toInt = k) (h : k < n) : ¬ x ≤ y := by rw [Int32.le_iff_toInt_le]; omega
theorem le_of {x y : Int32} {k n : Nat} (hx : x.toInt = n) (hy : y.toInt = k) (h : n ≤ k) : x ≤ y := by rw [Int32.le_iff_toInt_le]; omega
theorem worksOut10 {mem : MMt} {o : Nat} {x1 : Int32} {nm : Nat → Int32} (hx : x1.toInt = o) (ho : o ≤ 221) (hnm : ∀ j, j < 3 → mem 82 j = nm j)
    (hn1 : 1 ≤ (mem 77 o).toInt) (hn2 : (mem 77 o).toInt ≤ 50) {dep : Nat → Nat} (hd : WFD (mem 77) o (mem 77 o).toInt.toNat dep) (Q : Int32 → MMt → Prop)
    (h : ∀ m' : MMt, (∀ a, a ≠ 81 → m' a = mem a) → Q (evr (mem 77) o nm) m') : L_X10_worksOut x1 mem Q := by
  unfold L_X10_worksOut B_X10_worksOut_4
  have hnn : (mem 77 o).toInt = ((mem 77 o).toInt.toNat : Nat) := by omega
  have hn50 : (mem 77 o).toInt.toNat ≤ 50 := by omega
  have hn0 : 1 ≤ (mem 77 o).toInt.toNat := by omega
  have hev : evr (mem 77) o nm = (evs (mem 77) o nm (mem 77 o).toInt.toNat).headD 0 := rfl
  revert hnn hd hn50 hn0 hev
  generalize (mem 77 o).toInt.toNat = n
  intro hd hnn hn50 hn0 hev
  clear hn1 hn2
  refine LOOP_up n (fun k z => z.2.1.toInt = k ∧ z.1.toInt = (evs (mem 77) o nm k).length ∧ STK (z.2.2 81) (evs (mem 77) o nm k) ∧ ∀ a, a ≠ 81 → z.2.2 a = mem a) ⟨rfl, rfl, trivial, fun _ _ => rfl⟩ ?_ ?_
  · rintro k ⟨x2, x3, m⟩ X hk ⟨e1, e2, e3, e4⟩ hX
    dsimp only at e1 e2 e3 e4 ⊢
    have hl := evs_len (nm := nm) hd k (by omega)
    have hw := hd.2.2 k hk
    obtain ⟨i1, i2⟩ := ti_ix hx ho e1 (by omega)
    rw [e4 77 (by decide), tn_of hx, tn_of i1, tn_of i2]
    have g1 := vp_of (n := 322) i1 (by omega)
    have g2 := vp_of (n := 322) i2 (by omega)
    refine ⟨vp_of hx (by omega), fun c => absurd c (nle_of hnn e1 hk), fun c => ⟨g1, fun v4 h4 => ⟨g2, fun v6 h6 => ?_⟩⟩⟩
    have hs : evs (mem 77) o nm (k + 1) = estp nm v4 v6 (evs (mem 77) o nm k) := by rw [h4, h6]; rfl
    rw [← h4, ← h6] at hw
    clear h4 h6 g1 g2 i1 i2 c
    have p1 := ti_p1 e1 (by omega)
    rw [hs] at hX
    revert e2 e3 hl hX
    generalize evs (mem 77) o nm k = st
    intro e2 e3 hl hX
    have hl1 := hl.1
    have hl2 := hl.2
    have hk50 : k < 50 := by omega
    rcases hw with ⟨rfl, w1, w2, e⟩ | ⟨rfl, w1, w2, e⟩ | ⟨rfl, w1, e⟩ | ⟨rfl, w1, w2, e⟩
    · refine ⟨fun c => absurd c (by decide), fun c => ⟨fun c => absurd rfl c, fun c => ?_⟩⟩
      unfold B_X10_worksOut_70
      refine ⟨vp_of e2 (by omega), fun m1 hm1 v3 hv3 v4 hv4 => hX _ ⟨?_, ?_, ?_, ?_⟩⟩
      · dsimp only; rw [hv4]; exact p1
      · dsimp only; rw [hv3]; exact ti_p1 e2 (by omega)
      · dsimp only; rw [hm1, tn_of e2, up2_row]; exact STK_push e3
      · intro a ha; dsimp only; rw [hm1, up2_ro _ _ _ _ _ ha]; exact e4 a ha
    · have ev : v6.toInt = (v6.toInt.toNat : Nat) := by omega
      refine ⟨fun c => absurd c (by decide), fun c => ⟨fun _ => ⟨vp_of ev (by omega), ?_⟩, fun c => absurd c (by decide)⟩⟩
      unfold B_X10_worksOut_70
      rw [e4 82 (by decide), tn_of ev, hnm _ (by omega)]
      refine ⟨vp_of e2 (by omega), fun m1 hm1 v3 hv3 v4 hv4 => hX _ ⟨?_, ?_, ?_, ?_⟩⟩
      · dsimp only; rw [hv4]; exact p1
      · dsimp only; rw [hv3]; exact ti_p1 e2 (by omega)
      · dsimp only; rw [hm1, tn_of e2, up2_row]; exact STK_push e3
      · intro a ha; dsimp only; rw [hm1, up2_ro _ _ _ _ _ ha]; exact e4 a ha
    · cases st with
      | nil => simp at hl1; omega
      | cons x r =>
        have hr : r.length < 50 := by simp at hl1; omega
        have q1 := ti_s1 e2 (by omega)
        refine ⟨fun _ => ⟨fun c => absurd rfl c, fun _ => ⟨vp_of q1 hr, ?_⟩⟩, fun c => absurd (by decide) c⟩
        rw [tn_of q1, e3.1]
        have key : ∀ y : Int32, y = (if x = 0 then 1 else 0) → B_X10_worksOut_106 X x1 x2 x3 y (x2 - 1) m Q := by
          intro y hy
          refine ⟨vp_of q1 hr, fun m1 hm1 v3 hv3 => hX _ ⟨?_, ?_, ?_, ?_⟩⟩
          · dsimp only; rw [hv3]; exact p1
          · exact e2
          · dsimp only; rw [hm1, tn_of q1, up2_row, hy]; exact STK_push e3.2
          · intro a ha; dsimp only; rw [hm1, up2_ro _ _ _ _ _ ha]; exact e4 a ha
        exact ⟨fun c => key 0 (by rw [if_neg c]), fun c => key 1 (by rw [if_pos c])⟩
    · cases st with
      | nil => simp at hl1; omega
      | cons y r =>
        cases r with
        | nil => simp at hl1; omega
        | cons x r =>
          have hr : r.length + 1 < 50 := by simp at hl1; omega
          have hr2 : r.length < 50 := by omega
          have hr3 : r.length + 1 < 2147483647 := by omega
          have hr4 : r.length < 2147483647 := by omega
          have q1 : (x2 + -1).toInt = (r.length + 1 : Nat) := ti_m1 e2 hr3
          have q2 : (x2 + -1 - 1).toInt = r.length := ti_s1 q1 hr4
          refine ⟨fun _ => ⟨fun _ => ?_, fun c => absurd c (by decide)⟩, fun c => absurd (by decide) c⟩
          rintro v9 rfl
          refine ⟨vp_of q2 hr2, vp_of q1 hr, ?_⟩
          rw [tn_of q2, tn_of q1, e3.2.1]
          have e3a : m 81 (r.length + 1) = y := e3.1
          rw [e3a]
          refine worked10 w1 _ _ ⟨vp_of q2 hr2, fun m1 hm1 v3 hv3 => hX _ ⟨?_, ?_, ?_, ?_⟩⟩
          · dsimp only; rw [hv3]; exact p1
          · exact q1
          · dsimp only; rw [hm1, up2_row]; exact STK_push e3.2.2
          · intro a ha; dsimp only; rw [hm1, up2_ro _ _ _ _ _ ha]; exact e4 a ha
  · rintro ⟨x2, x3, m⟩ X ⟨e1, e2, e3, e4⟩
    dsimp only at e1 e2 e3 e4 ⊢
    rw [e4 77 (by decide), tn_of hx]
    refine ⟨vp_of hx (by omega), fun c => ?_, fun c => absurd (le_of hnn e1 (Nat.le_refl _)) c⟩
    have hl := evs_len (nm := nm) hd n (Nat.le_refl _)
    have h8 := h m e4
    rw [hev] at h8
    revert h8 e3 hl
    generalize evs (mem 77) o nm n = st
    intro e3 hl h8
    rw [hd.2.1] at hl
    match st, hl.1 with
    | [x], _ => rw [show m 81 0 = x from e3.1]; exact h8
