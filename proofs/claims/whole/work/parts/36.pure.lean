theorem ix_g {a w : Int32} {g j : Nat} (ha : a.toInt = g) (hg : g < 8) (hw : w.toInt = j) (hj : j < 5) : (((10 : Int32) + ((5 : Int32) * a)) + w).toInt = (10 + 5 * g + j : Nat) := by
  simp only [ad_ti, ml_ti, Int32.reduceToInt, ha, hw]
  omega
theorem of10 {a w : Int32} {g j : Nat} (ha : a.toInt = g) (hg : g < 8) (hw : w.toInt = j) (hj : j < 5) (mem : MMt) (Q : Int32 → MMt → Prop) (h : Q (mem 77 (10 + 5 * g + j)) mem) : L_X10_of a w mem Q := by
  have e := ix_g ha hg hw hj
  refine ⟨vp_of e (by omega), ?_⟩
  rwa [tn_of e]
theorem sets10 {a w v : Int32} {g j : Nat} (ha : a.toInt = g) (hg : g < 8) (hw : w.toInt = j) (hj : j < 5) (mem : MMt) (Q : MMt → Prop) (h : Q (up2 mem 77 (10 + 5 * g + j) v)) : L_X10_sets a w v mem Q := by
  have e := ix_g ha hg hw hj
  refine ⟨vp_of e (by omega), ?_⟩
  rintro m1 rfl
  rwa [tn_of e]
/-- the g-th good of the reference's row -/
def gd (s : Nat → Int32) (g : Nat) : Nat → Int32 := fun j => s (10 + 5 * g + j)
/-- PULL at a good -/
def LPp (s x : Nat → Int32) : Int32 := gv s 0 (x 2) (x 1) 0
def FF (s x : Nat → Int32) : Int32 := nF (LPp s x) x
def VV (s x : Nat → Int32) : Int32 := nV (LPp s x) x
theorem LP_rg (s x : Nat → Int32) : -9 ≤ (LPp s x).toInt ∧ (LPp s x).toInt ≤ 9 := gv0_rg ..
/-- both laws are TEXTS -/
def WL (s : Nat → Int32) : Prop := WFL s 120 ∧ WFL s 221
theorem pulledNow10 {a : Int32} {g : Nat} (ha : a.toInt = g) (hg : g < 8) {mem : MMt} (hw : WL (mem 77)) (Q : Int32 → MMt → Prop)
    (h : ∀ m' : MMt, (∀ q, q ≠ 81 → q ≠ 82 → m' q = mem q) → Q (pl (mem 77 (10 + 5 * g)) (LPp (mem 77) (gd (mem 77) g))) m') : L_X10_pulledNow a mem Q := by
  refine of10 (j := 0) ha hg rfl (by decide) _ _ (of10 (j := 2) ha hg rfl (by decide) _ _ (of10 (j := 1) ha hg rfl (by decide) _ _ (gives10 (Or.inl rfl) hw.1 hw.2 _ fun m' hm' => ?_)))
  exact pulled10 _ _ _ _ (h m' hm')
theorem looks10 {a : Int32} {g : Nat} (ha : a.toInt = g) (hg : g < 8) {mem : MMt} (hw : WL (mem 77)) (Q : MMt → Prop)
    (h : ∀ m' : MMt, (∀ q, q ≠ 76 → q ≠ 81 → q ≠ 82 → m' q = mem q) → (∀ j, j ≠ 12 → j ≠ 13 → m' 76 j = mem 76 j) → m' 76 12 = FF (mem 77) (gd (mem 77) g) → m' 76 13 = VV (mem 77) (gd (mem 77) g) → Q m') : L_X10_looksAhead a mem Q := by
  refine of10 (j := 0) ha hg rfl (by decide) _ _ (of10 (j := 1) ha hg rfl (by decide) _ _ (of10 (j := 3) ha hg rfl (by decide) _ _ (pulledNow10 ha hg hw _ fun m1 hm1 => ?_)))
  rintro v9 hv9
  refine drag10 _ _ _ _ ?_
  have h77 : m1 77 = mem 77 := hm1 77 (by decide) (by decide)
  have fin : ∀ sl : Int32, hld sl (-9) 9 = slo (gd (mem 77) g 0) (gd (mem 77) g 1) (gd (mem 77) g 3) (LPp (mem 77) (gd (mem 77) g)) → B_X10_looksAhead_79 a (mem 77 (10 + 5 * g + 0)) (mem 77 (10 + 5 * g + 1)) sl m1 Q := by
    intro sl hsl
    unfold B_X10_looksAhead_79
    rw [with_sp, hsl]
    refine of10 (j := 2) ha hg rfl (by decide) _ _ ?_
    rintro v5 rfl
    refine reach10 _ _ _ _ ?_
    rw [with_sp]
    refine of10 (j := 4) ha hg rfl (by decide) _ _ (of10 (j := 4) ha hg rfl (by decide) _ _ ?_)
    rw [with_sp, h77]
    have eF : hld (hld (mem 77 (10 + 5 * g + 2) + slo (gd (mem 77) g 0) (gd (mem 77) g 1) (gd (mem 77) g 3) (LPp (mem 77) (gd (mem 77) g))) 0 40) (mem 77 (10 + 5 * g + 4) - rc (mem 77 (10 + 5 * g + 0)) (mem 77 (10 + 5 * g + 1))) (mem 77 (10 + 5 * g + 4) + rc (mem 77 (10 + 5 * g + 0)) (mem 77 (10 + 5 * g + 1))) = FF (mem 77) (gd (mem 77) g) := rfl
    rw [eF]
    rintro m2 rfl
    have eV : VV (mem 77) (gd (mem 77) g) = if FF (mem 77) (gd (mem 77) g) = mem 77 (10 + 5 * g + 2) + slo (gd (mem 77) g 0) (gd (mem 77) g 1) (gd (mem 77) g 3) (LPp (mem 77) (gd (mem 77) g)) then slo (gd (mem 77) g 0) (gd (mem 77) g 1) (gd (mem 77) g 3) (LPp (mem 77) (gd (mem 77) g)) else 0 := rfl
    have out : ∀ v : Int32, v = VV (mem 77) (gd (mem 77) g) → Q (up2 (up2 m1 76 12 (FF (mem 77) (gd (mem 77) g))) 76 13 v) := by
      intro v hv
      refine h _ ?_ ?_ ?_ ?_
      · intro q h1 h2 h3
        rw [up2_ro _ _ _ _ _ h1, up2_ro _ _ _ _ _ h1, hm1 q h2 h3]
      · intro j h1 h2
        rw [up2_at, if_neg (by omega), up2_at, if_neg (by omega), hm1 76 (by decide) (by decide)]
      · rw [up2_at, if_neg (by omega), up2_eq]
      · rw [up2_eq]; exact hv
    refine ⟨fun c => ?_, fun c => ?_⟩
    · rintro m3 rfl; exact out _ (by rw [eV, if_neg c])
    · rintro m3 rfl; exact out _ (by rw [eV, if_pos c])
  have es : slo (gd (mem 77) g 0) (gd (mem 77) g 1) (gd (mem 77) g 3) (LPp (mem 77) (gd (mem 77) g)) = hld (if v9 ≤ 0 then (if -v9 ≤ dg (mem 77 (10 + 5 * g + 0)) (mem 77 (10 + 5 * g + 1)) then v9 + -v9 else v9 + dg (mem 77 (10 + 5 * g + 0)) (mem 77 (10 + 5 * g + 1))) else (if v9 ≤ dg (mem 77 (10 + 5 * g + 0)) (mem 77 (10 + 5 * g + 1)) then v9 - v9 else v9 - dg (mem 77 (10 + 5 * g + 0)) (mem 77 (10 + 5 * g + 1)))) (-9) 9 := by rw [hv9]; rfl
  rw [es] at fin
  refine ⟨fun c => ⟨fun d => ?_, fun d => ?_⟩, fun c => ⟨fun d => ?_, fun d => ?_⟩⟩
  · exact fin _ (by rw [if_pos c, if_pos d])
  · exact fin _ (by rw [if_pos c, if_neg d])
  · exact fin _ (by rw [if_neg c, if_pos d])
  · exact fin _ (by rw [if_neg c, if_neg d])
/-- whether it is AT REST -/
def RS (s x : Nat → Int32) : Prop := FF s x = x 2 ∧ VV s x = x 3
theorem isAtRest10 {a : Int32} {g : Nat} (ha : a.toInt = g) (hg : g < 8) {mem : MMt} (hw : WL (mem 77)) (Q : Int32 → MMt → Prop)
    (h : ∀ m' : MMt, (∀ q, q ≠ 76 → q ≠ 81 → q ≠ 82 → m' q = mem q) → (∀ j, j ≠ 12 → j ≠ 13 → m' 76 j = mem 76 j) → m' 76 12 = FF (mem 77) (gd (mem 77) g) → m' 76 13 = VV (mem 77) (gd (mem 77) g) → (RS (mem 77) (gd (mem 77) g) → Q 1 m') ∧ (¬ RS (mem 77) (gd (mem 77) g) → Q 0 m')) : L_X10_isAtRest a mem Q := by
  refine looks10 ha hg hw _ fun m' h1 h2 h3 h4 => ?_
  obtain ⟨k1, k2⟩ := h m' h1 h2 h3 h4
  have h77 := h1 77 (by decide) (by decide) (by decide)
  refine of10 (j := 2) ha hg rfl (by decide) _ _ ⟨fun c => k2 fun r => c ?_, fun c => of10 (j := 3) ha hg rfl (by decide) _ _ ⟨fun d => k2 fun r => d ?_, fun d => k1 ⟨?_, ?_⟩⟩⟩
  · rw [h3, r.1, h77]; rfl
  · rw [h4, r.2, h77]; rfl
  · rw [h3, h77] at c; exact c
  · rw [h4, h77] at d; exact d
/-- row q with FLOOR f and SPEED v -/
def st2 (mem : MMt) (q : Nat) (f v : Int32) : MMt := up2 (up2 mem q 2 f) q 3 v
theorem st2_ro {mem : MMt} {q : Nat} {f v : Int32} {a : Nat} (h : a ≠ q) : st2 mem q f v a = mem a := by
  unfold st2; rw [up2_ro _ _ _ _ _ h, up2_ro _ _ _ _ _ h]
theorem st2_o {mem : MMt} {q : Nat} {f v : Int32} : st2 mem q f v q 0 = mem q 0 ∧ st2 mem q f v q 1 = mem q 1 ∧ st2 mem q f v q 2 = f ∧ st2 mem q f v q 3 = v ∧ st2 mem q f v q 4 = mem q 4 := by
  unfold st2; simp [up2_at]
/-- what held speeds come to, as the class works it out -/
theorem slo9 {k m v p : Int32} (hm : 0 ≤ m.toInt ∧ m.toInt ≤ 9) (hv : -9 ≤ v.toInt ∧ v.toInt ≤ 9) (hp : -9 ≤ p.toInt ∧ p.toInt ≤ 9) :
    (v + pl k p ≤ 0 → hld (if v + pl k p + dg k m < 0 then v + pl k p + dg k m else 0) (-9) 9 = slo k m v p) ∧ (¬ v + pl k p ≤ 0 → hld (if 0 < v + pl k p - dg k m then v + pl k p - dg k m else 0) (-9) 9 = slo k m v p) := by
  have h1 := pl_rg (k := k) hp
  have h2 := dg_rg (k := k) hm
  unfold slo
  dsimp only
  have h3 : (v + pl k p).toInt = v.toInt + (pl k p).toInt := by rw [ad_ti]; omega
  have h4 : -27 ≤ (v + pl k p).toInt ∧ (v + pl k p).toInt ≤ 27 := by omega
  clear h3
  generalize v + pl k p = dr at h4
  generalize dg k m = d at h2
  refine ⟨fun c => ?_, fun c => ?_⟩
  · rw [if_pos c]
    congr 1
    rw [Int32.le_iff_toInt_le] at c
    by_cases e : -dr ≤ d
    · rw [if_pos e]
      rw [Int32.le_iff_toInt_le, ng_ti] at e
      simp only [Int32.reduceToInt] at c
      rw [if_neg (by rw [Int32.lt_iff_toInt_lt, ad_ti]; simp only [Int32.reduceToInt]; omega)]
      rw [Int32.add_right_neg]
    · rw [if_neg e]
      rw [Int32.le_iff_toInt_le, ng_ti] at e
      simp only [Int32.reduceToInt] at c
      rw [if_pos (by rw [Int32.lt_iff_toInt_lt, ad_ti]; simp only [Int32.reduceToInt]; omega)]
  · rw [if_neg c]
    congr 1
    rw [Int32.le_iff_toInt_le] at c
    by_cases e : dr ≤ d
    · rw [if_pos e]
      rw [Int32.le_iff_toInt_le] at e
      simp only [Int32.reduceToInt] at c
      rw [if_neg (by rw [Int32.lt_iff_toInt_lt, sb_ti]; simp only [Int32.reduceToInt]; omega)]
      rw [Int32.sub_self]
    · rw [if_neg e]
      rw [Int32.le_iff_toInt_le] at e
      simp only [Int32.reduceToInt] at c
      rw [if_pos (by rw [Int32.lt_iff_toInt_lt, sb_ti]; simp only [Int32.reduceToInt]; omega)]
theorem clamp9 {w h r : Int32} (hw : -9 ≤ w.toInt ∧ w.toInt ≤ 49) (hh : 0 ≤ h.toInt ∧ h.toInt ≤ 40) (hr : 0 ≤ r.toInt ∧ r.toInt ≤ 40) :
    (if (0 : Int32) < h - r then h - r else 0) ≤ (if h + r < (40 : Int32) then h + r else 40) ∧ hld w (if (0 : Int32) < h - r then h - r else 0) (if h + r < (40 : Int32) then h + r else 40) = hld (hld w 0 40) (h - r) (h + r) := by
  have e1 : (h - r).toInt = h.toInt - r.toInt := by rw [sb_ti]; omega
  have e2 : (h + r).toInt = h.toInt + r.toInt := by rw [ad_ti]; omega
  generalize h - r = lo at e1
  generalize h + r = hi at e2
  have t0 : (0 : Int32).toInt = 0 := by decide
  have t40 : (40 : Int32).toInt = 40 := by decide
  unfold hld
  simp only [Int32.lt_iff_toInt_lt, Int32.le_iff_toInt_le, t0, t40, eq_ti]
  constructor
  · split <;> split <;> (try simp only [t0, t40]) <;> omega
  · by_cases a1 : 0 < lo.toInt <;> by_cases a2 : hi.toInt < 40 <;> simp only [a1, a2, if_true, if_false, t0, t40]
    all_goals (repeat' split) <;> (try simp only [t0, t40] at *) <;> omega
