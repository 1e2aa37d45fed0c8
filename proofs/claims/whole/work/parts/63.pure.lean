theorem fr_10 {k a d : Int32} {kn an dn : Nat} (hk : k.toInt = kn) (hk7 : kn < 7) (ha : a.toInt = an) (ha4 : an < 4) (hd : d.toInt = dn) (hd40 : dn ≤ 40) (hb : bod kn an = 10) (f : Nat) (x : Int32) {m : MMt} (hr : 0 ≤ (m 64 1).toInt ∧ (m 64 1).toInt ≤ 40) (Q : Int32 → MMt → Prop)
    (h : ∀ (m1 : MMt) (v5 : Int32), TR [10] m m1 → v5.toInt = (dn + 1 : Nat) → Q (x + (m1 64 3)) m1) : W_X8_from (f + 1) k a x d m Q := by
  show L_X8_from (W_X8_own f) (W_X8_from f) k a x d m Q
  have c40 : d ≤ 40 := by rw [Int32.le_iff_toInt_le, hd]; simp only [Int32.reduceToInt]; omega
  refine ⟨fun _ => bodyOf9 hk hk7 ha ha4 _ _ ?_, fun c => absurd c40 c⟩
  rw [hb]
  refine note9 hr _ fun m1 t1 => ?_
  rintro v5 rfl
  have g := h m1 _ t1 (ti_p1 hd (by omega))
  simp (decide := true) only [e10, not_false_eq_true, not_true_eq_false, false_implies, forall_const, true_and, and_true, eq_self, imp_self, true_implies]
  exact g
theorem fr_11 {k a d : Int32} {kn an dn : Nat} (hk : k.toInt = kn) (hk7 : kn < 7) (ha : a.toInt = an) (ha4 : an < 4) (hd : d.toInt = dn) (hd40 : dn ≤ 40) (hb : bod kn an = 11) (f : Nat) (x : Int32) {m : MMt} (hr : 0 ≤ (m 64 1).toInt ∧ (m 64 1).toInt ≤ 40) (Q : Int32 → MMt → Prop)
    (h : ∀ (m1 : MMt) (v5 : Int32), TR [11] m m1 → v5.toInt = (dn + 1 : Nat) → W_X8_own f 0 x v5 m1 (fun r9 m8 => Q (r9 * 2) m8)) : W_X8_from (f + 1) k a x d m Q := by
  show L_X8_from (W_X8_own f) (W_X8_from f) k a x d m Q
  have c40 : d ≤ 40 := by rw [Int32.le_iff_toInt_le, hd]; simp only [Int32.reduceToInt]; omega
  refine ⟨fun _ => bodyOf9 hk hk7 ha ha4 _ _ ?_, fun c => absurd c40 c⟩
  rw [hb]
  refine note9 hr _ fun m1 t1 => ?_
  rintro v5 rfl
  have g := h m1 _ t1 (ti_p1 hd (by omega))
  simp (decide := true) only [e10, not_false_eq_true, not_true_eq_false, false_implies, forall_const, true_and, and_true, eq_self, imp_self, true_implies]
  exact g
theorem fr_12 {k a d : Int32} {kn an dn : Nat} (hk : k.toInt = kn) (hk7 : kn < 7) (ha : a.toInt = an) (ha4 : an < 4) (hd : d.toInt = dn) (hd40 : dn ≤ 40) (hb : bod kn an = 12) (f : Nat) (x : Int32) {m : MMt} (hr : 0 ≤ (m 64 1).toInt ∧ (m 64 1).toInt ≤ 40) (Q : Int32 → MMt → Prop)
    (h : ∀ (m1 : MMt) (v5 : Int32), TR [12] m m1 → v5.toInt = (dn + 1 : Nat) → Q (x - (m1 64 4)) m1) : W_X8_from (f + 1) k a x d m Q := by
  show L_X8_from (W_X8_own f) (W_X8_from f) k a x d m Q
  have c40 : d ≤ 40 := by rw [Int32.le_iff_toInt_le, hd]; simp only [Int32.reduceToInt]; omega
  refine ⟨fun _ => bodyOf9 hk hk7 ha ha4 _ _ ?_, fun c => absurd c40 c⟩
  rw [hb]
  refine note9 hr _ fun m1 t1 => ?_
  rintro v5 rfl
  have g := h m1 _ t1 (ti_p1 hd (by omega))
  simp (decide := true) only [e10, not_false_eq_true, not_true_eq_false, false_implies, forall_const, true_and, and_true, eq_self, imp_self, true_implies]
  exact g
theorem fr_13 {k a d : Int32} {kn an dn : Nat} (hk : k.toInt = kn) (hk7 : kn < 7) (ha : a.toInt = an) (ha4 : an < 4) (hd : d.toInt = dn) (hd40 : dn ≤ 40) (hb : bod kn an = 13) (f : Nat) (x : Int32) {m : MMt} (hr : 0 ≤ (m 64 1).toInt ∧ (m 64 1).toInt ≤ 40) (Q : Int32 → MMt → Prop)
    (h : ∀ (m1 : MMt) (v5 : Int32), TR [13] m m1 → v5.toInt = (dn + 1 : Nat) → W_X8_own f 1 x v5 m1 (fun r13 m12 => W_X8_own f 2 x v5 m12 (fun r15 m14 => Q (r13 ^^^ r15) m14))) : W_X8_from (f + 1) k a x d m Q := by
  show L_X8_from (W_X8_own f) (W_X8_from f) k a x d m Q
  have c40 : d ≤ 40 := by rw [Int32.le_iff_toInt_le, hd]; simp only [Int32.reduceToInt]; omega
  refine ⟨fun _ => bodyOf9 hk hk7 ha ha4 _ _ ?_, fun c => absurd c40 c⟩
  rw [hb]
  refine note9 hr _ fun m1 t1 => ?_
  rintro v5 rfl
  have g := h m1 _ t1 (ti_p1 hd (by omega))
  simp (decide := true) only [e10, not_false_eq_true, not_true_eq_false, false_implies, forall_const, true_and, and_true, eq_self, imp_self, true_implies]
  exact g
theorem fr_20 {k a d : Int32} {kn an dn : Nat} (hk : k.toInt = kn) (hk7 : kn < 7) (ha : a.toInt = an) (ha4 : an < 4) (hd : d.toInt = dn) (hd40 : dn ≤ 40) (hb : bod kn an = 20) (f : Nat) (x : Int32) {m : MMt} (hr : 0 ≤ (m 64 1).toInt ∧ (m 64 1).toInt ≤ 40) (Q : Int32 → MMt → Prop)
    (h : ∀ (m1 : MMt) (v5 : Int32), TR [20] m m1 → v5.toInt = (dn + 1 : Nat) → W_X8_from f 0 1 x v5 m1 (fun r18 m17 => W_X8_own f 2 1 v5 m17 (fun r20 m19 => Q (r18 - r20) m19))) : W_X8_from (f + 1) k a x d m Q := by
  show L_X8_from (W_X8_own f) (W_X8_from f) k a x d m Q
  have c40 : d ≤ 40 := by rw [Int32.le_iff_toInt_le, hd]; simp only [Int32.reduceToInt]; omega
  refine ⟨fun _ => bodyOf9 hk hk7 ha ha4 _ _ ?_, fun c => absurd c40 c⟩
  rw [hb]
  refine note9 hr _ fun m1 t1 => ?_
  rintro v5 rfl
  have g := h m1 _ t1 (ti_p1 hd (by omega))
  simp (decide := true) only [e10, not_false_eq_true, not_true_eq_false, false_implies, forall_const, true_and, and_true, eq_self, imp_self, true_implies]
  exact g
theorem fr_30 {k a d : Int32} {kn an dn : Nat} (hk : k.toInt = kn) (hk7 : kn < 7) (ha : a.toInt = an) (ha4 : an < 4) (hd : d.toInt = dn) (hd40 : dn ≤ 40) (hb : bod kn an = 30) (f : Nat) (x : Int32) {m : MMt} (hr : 0 ≤ (m 64 1).toInt ∧ (m 64 1).toInt ≤ 40) (Q : Int32 → MMt → Prop)
    (h : ∀ (m1 : MMt) (v5 : Int32), TR [30] m m1 → v5.toInt = (dn + 1 : Nat) → W_X8_from f 0 2 x v5 m1 (fun r23 m22 => Q (-r23) m22)) : W_X8_from (f + 1) k a x d m Q := by
  show L_X8_from (W_X8_own f) (W_X8_from f) k a x d m Q
  have c40 : d ≤ 40 := by rw [Int32.le_iff_toInt_le, hd]; simp only [Int32.reduceToInt]; omega
  refine ⟨fun _ => bodyOf9 hk hk7 ha ha4 _ _ ?_, fun c => absurd c40 c⟩
  rw [hb]
  refine note9 hr _ fun m1 t1 => ?_
  rintro v5 rfl
  have g := h m1 _ t1 (ti_p1 hd (by omega))
  simp (decide := true) only [e10, not_false_eq_true, not_true_eq_false, false_implies, forall_const, true_and, and_true, eq_self, imp_self, true_implies]
  exact g
theorem fr_40 {k a d : Int32} {kn an dn : Nat} (hk : k.toInt = kn) (hk7 : kn < 7) (ha : a.toInt = an) (ha4 : an < 4) (hd : d.toInt = dn) (hd40 : dn ≤ 40) (hb : bod kn an = 40) (f : Nat) (x : Int32) {m : MMt} (hr : 0 ≤ (m 64 1).toInt ∧ (m 64 1).toInt ≤ 40) (Q : Int32 → MMt → Prop)
    (h : ∀ (m1 : MMt) (v5 : Int32), TR [40] m m1 → v5.toInt = (dn + 1 : Nat) → W_X8_from f 0 0 x v5 m1 (fun r26 m25 => Q (r26 * 3) m25)) : W_X8_from (f + 1) k a x d m Q := by
  show L_X8_from (W_X8_own f) (W_X8_from f) k a x d m Q
  have c40 : d ≤ 40 := by rw [Int32.le_iff_toInt_le, hd]; simp only [Int32.reduceToInt]; omega
  refine ⟨fun _ => bodyOf9 hk hk7 ha ha4 _ _ ?_, fun c => absurd c40 c⟩
  rw [hb]
  refine note9 hr _ fun m1 t1 => ?_
  rintro v5 rfl
  have g := h m1 _ t1 (ti_p1 hd (by omega))
  simp (decide := true) only [e10, not_false_eq_true, not_true_eq_false, false_implies, forall_const, true_and, and_true, eq_self, imp_self, true_implies]
  exact g
theorem fr_50 {k a d : Int32} {kn an dn : Nat} (hk : k.toInt = kn) (hk7 : kn < 7) (ha : a.toInt = an) (ha4 : an < 4) (hd : d.toInt = dn) (hd40 : dn ≤ 40) (hb : bod kn an = 50) (f : Nat) (x : Int32) {m : MMt} (hr : 0 ≤ (m 64 1).toInt ∧ (m 64 1).toInt ≤ 40) (Q : Int32 → MMt → Prop)
    (h : ∀ (m1 : MMt) (v5 : Int32), TR [50] m m1 → v5.toInt = (dn + 1 : Nat) → W_X8_from f 2 2 x v5 m1 (fun r29 m28 => Q (r29 ^^^ (m28 64 3)) m28)) : W_X8_from (f + 1) k a x d m Q := by
  show L_X8_from (W_X8_own f) (W_X8_from f) k a x d m Q
  have c40 : d ≤ 40 := by rw [Int32.le_iff_toInt_le, hd]; simp only [Int32.reduceToInt]; omega
  refine ⟨fun _ => bodyOf9 hk hk7 ha ha4 _ _ ?_, fun c => absurd c40 c⟩
  rw [hb]
  refine note9 hr _ fun m1 t1 => ?_
  rintro v5 rfl
  have g := h m1 _ t1 (ti_p1 hd (by omega))
  simp (decide := true) only [e10, not_false_eq_true, not_true_eq_false, false_implies, forall_const, true_and, and_true, eq_self, imp_self, true_implies]
  exact g
theorem fr_51 {k a d : Int32} {kn an dn : Nat} (hk : k.toInt = kn) (hk7 : kn < 7) (ha : a.toInt = an) (ha4 : an < 4) (hd : d.toInt = dn) (hd40 : dn ≤ 40) (hb : bod kn an = 51) (f : Nat) (x : Int32) {m : MMt} (hr : 0 ≤ (m 64 1).toInt ∧ (m 64 1).toInt ≤ 40) (Q : Int32 → MMt → Prop)
    (h : ∀ (m1 : MMt) (v5 : Int32), TR [51] m m1 → v5.toInt = (dn + 1 : Nat) → W_X8_own f 1 x v5 m1 (fun r32 m31 => W_X8_from f 2 3 x v5 m31 (fun r34 m33 => Q (r32 - r34) m33))) : W_X8_from (f + 1) k a x d m Q := by
  show L_X8_from (W_X8_own f) (W_X8_from f) k a x d m Q
  have c40 : d ≤ 40 := by rw [Int32.le_iff_toInt_le, hd]; simp only [Int32.reduceToInt]; omega
  refine ⟨fun _ => bodyOf9 hk hk7 ha ha4 _ _ ?_, fun c => absurd c40 c⟩
  rw [hb]
  refine note9 hr _ fun m1 t1 => ?_
  rintro v5 rfl
  have g := h m1 _ t1 (ti_p1 hd (by omega))
  simp (decide := true) only [e10, not_false_eq_true, not_true_eq_false, false_implies, forall_const, true_and, and_true, eq_self, imp_self, true_implies]
  exact g
theorem fr_60 {k a d : Int32} {kn an dn : Nat} (hk : k.toInt = kn) (hk7 : kn < 7) (ha : a.toInt = an) (ha4 : an < 4) (hd : d.toInt = dn) (hd40 : dn ≤ 40) (hb : bod kn an = 60) (f : Nat) (x : Int32) {m : MMt} (hr : 0 ≤ (m 64 1).toInt ∧ (m 64 1).toInt ≤ 40) (Q : Int32 → MMt → Prop)
    (h : ∀ (m1 : MMt) (v5 : Int32), TR [60] m m1 → v5.toInt = (dn + 1 : Nat) → W_X8_from f 3 3 x v5 m1 (fun r37 m36 => W_X8_own f 0 2 v5 m36 (fun r39 m38 => Q (r37 - r39) m38))) : W_X8_from (f + 1) k a x d m Q := by
  show L_X8_from (W_X8_own f) (W_X8_from f) k a x d m Q
  have c40 : d ≤ 40 := by rw [Int32.le_iff_toInt_le, hd]; simp only [Int32.reduceToInt]; omega
  refine ⟨fun _ => bodyOf9 hk hk7 ha ha4 _ _ ?_, fun c => absurd c40 c⟩
  rw [hb]
  refine note9 hr _ fun m1 t1 => ?_
  rintro v5 rfl
  have g := h m1 _ t1 (ti_p1 hd (by omega))
  simp (decide := true) only [e10, not_false_eq_true, not_true_eq_false, false_implies, forall_const, true_and, and_true, eq_self, imp_self, true_implies]
  exact g
theorem fr_70 {k a d : Int32} {kn an dn : Nat} (hk : k.toInt = kn) (hk7 : kn < 7) (ha : a.toInt = an) (ha4 : an < 4) (hd : d.toInt = dn) (hd40 : dn ≤ 40) (hb : bod kn an = 70) (f : Nat) (x : Int32) {m : MMt} (hr : 0 ≤ (m 64 1).toInt ∧ (m 64 1).toInt ≤ 40) (Q : Int32 → MMt → Prop)
    (h : ∀ (m1 : MMt) (v5 : Int32), TR [70] m m1 → v5.toInt = (dn + 1 : Nat) → W_X8_from f 1 1 (x + 1) v5 m1 (fun r41 m40 => Q r41 m40)) : W_X8_from (f + 1) k a x d m Q := by
  show L_X8_from (W_X8_own f) (W_X8_from f) k a x d m Q
  have c40 : d ≤ 40 := by rw [Int32.le_iff_toInt_le, hd]; simp only [Int32.reduceToInt]; omega
  refine ⟨fun _ => bodyOf9 hk hk7 ha ha4 _ _ ?_, fun c => absurd c40 c⟩
  rw [hb]
  refine note9 hr _ fun m1 t1 => ?_
  rintro v5 rfl
  have g := h m1 _ t1 (ti_p1 hd (by omega))
  simp (decide := true) only [e10, not_false_eq_true, not_true_eq_false, false_implies, forall_const, true_and, and_true, eq_self, imp_self, true_implies]
  exact g
theorem ow_ {k a d : Int32} {f : Nat} {x : Int32} {m : MMt} (hk : m 64 2 = k) (Q : Int32 → MMt → Prop) (h : W_X8_from f k a x d m Q) : W_X8_own (f + 1) a x d m Q := by
  show W_X8_from f (m 64 2) a x d m (fun r2 m1 => Q r2 m1)
  rw [hk]; exact h
def vfl (k : Nat) (x n : Int32) : Int32 := if k = 3 ∨ k = 5 then (x + n) * 3 else x + n
def bfl (k : Nat) : List Int32 := if k = 3 ∨ k = 5 then [40, 10] else [10]
def vhg (k : Nat) (x n w : Int32) : Int32 := if k = 2 then -(x - w) else if k = 4 then (-(x - w)) ^^^ n else x - w
def bhg (k : Nat) : List Int32 := if k = 2 then [30, 12] else if k = 4 then [50, 30, 12] else [12]
def vf0 (k : Nat) (x n : Int32) : Int32 := vfl k x n * 2
def bf0 (k : Nat) : List Int32 := [11] ++ bfl k
def vf1 (k : Nat) (x n w : Int32) : Int32 := vf0 k x n - vhg k 1 n w
def bf1 (k : Nat) : List Int32 := [20] ++ (bf0 k ++ bhg k)
def vfa (b k : Nat) (x n w : Int32) : Int32 := if b = 1 then vf1 k x n w else if b = 6 then vf1 k (x + 1) n w else vf0 k x n
def bfa (b k : Nat) : List Int32 := if b = 1 then bf1 k else if b = 6 then [70] ++ bf1 k else bf0 k
def vt0 (k : Nat) (x n w : Int32) : Int32 := vfa k k x n w ^^^ vhg k x n w
def bt0 (k : Nat) : List Int32 := [13] ++ (bfa k k ++ bhg k)
def vte (b k : Nat) (x n w : Int32) : Int32 := if b = 4 then vfa k k x n w - vt0 k x n w else if b = 5 then vt0 k x n w - vfl k 2 n else vt0 k x n w
def bte (b k : Nat) : List Int32 := if b = 4 then [51] ++ (bfa k k ++ bt0 k) else if b = 5 then [60] ++ (bt0 k ++ bfl k) else bt0 k
theorem k7 {k : Nat} (h : k < 7) : k = 0 ∨ k = 1 ∨ k = 2 ∨ k = 3 ∨ k = 4 ∨ k = 5 ∨ k = 6 := by omega
theorem cfl {kk n w by_ d : Int32} {bn dn : Nat} (hb : by_.toInt = bn) (hb7 : bn < 7) (hd : d.toInt = dn) (hd30 : dn ≤ 38) (f : Nat) (x : Int32) {m : MMt} (hK : KCc kk n w m) (Q : Int32 → MMt → Prop)
    (h : ∀ m' : MMt, TR (bfl bn) m m' → Q (vfl bn x n) m') : W_X8_from (f + 2) by_ 0 x d m Q := by
  have z10 : bod bn 0 = 10 → bfl bn = [10] ∧ vfl bn x n = x + n := by
    intro e; rcases k7 hb7 with rfl | rfl | rfl | rfl | rfl | rfl | rfl <;> first | exact absurd e (by decide) | exact ⟨rfl, rfl⟩
  have z40 : bod bn 0 = 40 → bfl bn = [40] ++ [10] ∧ vfl bn x n = (x + n) * 3 := by
    intro e; rcases k7 hb7 with rfl | rfl | rfl | rfl | rfl | rfl | rfl <;> first | exact absurd e (by decide) | exact ⟨rfl, rfl⟩
  have zz : bod bn 0 = 10 ∨ bod bn 0 = 40 := by
    rcases k7 hb7 with rfl | rfl | rfl | rfl | rfl | rfl | rfl <;> decide
  rcases zz with e | e
  · obtain ⟨e1, e2⟩ := z10 e
    rw [e1, e2] at h
    refine fr_10 hb hb7 (an := 0) rfl (by decide) hd (by omega) e (f + 1) x hK.1 _ fun m1 v5 t1 _ => ?_
    rw [(hK.tr t1).2.2.1]; exact h m1 t1
  · obtain ⟨e1, e2⟩ := z40 e
    rw [e1, e2] at h
    refine fr_40 hb hb7 (an := 0) rfl (by decide) hd (by omega) e (f + 1) x hK.1 _ fun m1 v5 t1 hv => ?_
    refine fr_10 (kn := 0) rfl (by decide) (an := 0) rfl (by decide) hv (by omega) rfl f x (hK.tr t1).1 _ fun m2 v6 t2 _ => ?_
    rw [((hK.tr t1).tr t2).2.2.1]; exact h m2 (t1.tr t2)
theorem chg {kk n w by_ d : Int32} {bn dn : Nat} (hb : by_.toInt = bn) (hb7 : bn < 7) (hd : d.toInt = dn) (hd30 : dn ≤ 37) (f : Nat) (x : Int32) {m : MMt} (hK : KCc kk n w m) (Q : Int32 → MMt → Prop)
    (h : ∀ m' : MMt, TR (bhg bn) m m' → Q (vhg bn x n w) m') : W_X8_from (f + 3) by_ 2 x d m Q := by
  have z12 : bod bn 2 = 12 → bhg bn = [12] ∧ vhg bn x n w = x - w := by
    intro e; rcases k7 hb7 with rfl | rfl | rfl | rfl | rfl | rfl | rfl <;> first | exact absurd e (by decide) | exact ⟨rfl, rfl⟩
  have z30 : bod bn 2 = 30 → bhg bn = [30] ++ [12] ∧ vhg bn x n w = -(x - w) := by
    intro e; rcases k7 hb7 with rfl | rfl | rfl | rfl | rfl | rfl | rfl <;> first | exact absurd e (by decide) | exact ⟨rfl, rfl⟩
  have z50 : bod bn 2 = 50 → bhg bn = [50] ++ ([30] ++ [12]) ∧ vhg bn x n w = (-(x - w)) ^^^ n := by
    intro e; rcases k7 hb7 with rfl | rfl | rfl | rfl | rfl | rfl | rfl <;> first | exact absurd e (by decide) | exact ⟨rfl, rfl⟩
  have zz : bod bn 2 = 12 ∨ bod bn 2 = 30 ∨ bod bn 2 = 50 := by
    rcases k7 hb7 with rfl | rfl | rfl | rfl | rfl | rfl | rfl <;> decide
  rcases zz with e | e | e
  · obtain ⟨e1, e2⟩ := z12 e
    rw [e1, e2] at h
    refine fr_12 hb hb7 (an := 2) rfl (by decide) hd (by omega) e (f + 2) x hK.1 _ fun m1 v5 t1 _ => ?_
    rw [(hK.tr t1).2.2.2]; exact h m1 t1
  · obtain ⟨e1, e2⟩ := z30 e
    rw [e1, e2] at h
    refine fr_30 hb hb7 (an := 2) rfl (by decide) hd (by omega) e (f + 2) x hK.1 _ fun m1 v5 t1 hv => ?_
    refine fr_12 (kn := 0) rfl (by decide) (an := 2) rfl (by decide) hv (by omega) rfl (f + 1) x (hK.tr t1).1 _ fun m2 v6 t2 _ => ?_
    rw [((hK.tr t1).tr t2).2.2.2]; exact h m2 (t1.tr t2)
  · obtain ⟨e1, e2⟩ := z50 e
    rw [e1, e2] at h
    refine fr_50 hb hb7 (an := 2) rfl (by decide) hd (by omega) e (f + 2) x hK.1 _ fun m1 v5 t1 hv => ?_
    refine fr_30 (kn := 2) rfl (by decide) (an := 2) rfl (by decide) hv (by omega) rfl (f + 1) x (hK.tr t1).1 _ fun m2 v6 t2 hv6 => ?_
    refine fr_12 (kn := 0) rfl (by decide) (an := 2) rfl (by decide) hv6 (by omega) rfl f x ((hK.tr t1).tr t2).1 _ fun m3 v7 t3 _ => ?_
    have K3 := ((hK.tr t1).tr t2).tr t3
    rw [K3.2.2.2, K3.2.2.1]; exact h m3 (t1.tr (t2.tr t3))
theorem cf0 {kk n w by_ d : Int32} {kn bn dn : Nat} (hk : kk.toInt = kn) (hk7 : kn < 7) (hb : by_.toInt = bn) (hb7 : bn < 7) (h11 : bod bn 1 = 11) (hd : d.toInt = dn) (hd30 : dn ≤ 35) (f : Nat) (x : Int32) {m : MMt} (hK : KCc kk n w m) (Q : Int32 → MMt → Prop)
    (h : ∀ m' : MMt, TR (bf0 kn) m m' → Q (vf0 kn x n) m') : W_X8_from (f + 4) by_ 1 x d m Q := by
  refine fr_11 hb hb7 (an := 1) rfl (by decide) hd (by omega) h11 (f + 3) x hK.1 _ fun m1 v5 t1 hv => ?_
  refine ow_ (hK.tr t1).2.1 _ (cfl hk hk7 hv (by omega) f x (hK.tr t1) _ fun m2 t2 => h m2 (t1.tr t2))
theorem cf1 {kk n w by_ d : Int32} {kn bn dn : Nat} (hk : kk.toInt = kn) (hk7 : kn < 7) (hb : by_.toInt = bn) (hb7 : bn < 7) (h20 : bod bn 1 = 20) (hd : d.toInt = dn) (hd30 : dn ≤ 34) (f : Nat) (x : Int32) {m : MMt} (hK : KCc kk n w m) (Q : Int32 → MMt → Prop)
    (h : ∀ m' : MMt, TR (bf1 kn) m m' → Q (vf1 kn x n w) m') : W_X8_from (f + 5) by_ 1 x d m Q := by
  refine fr_20 hb hb7 (an := 1) rfl (by decide) hd (by omega) h20 (f + 4) x hK.1 _ fun m1 v5 t1 hv => ?_
  refine cf0 hk hk7 (by_ := 0) (bn := 0) rfl (by decide) rfl hv (by omega) f x (hK.tr t1) _ fun m2 t2 => ?_
  refine ow_ ((hK.tr t1).tr t2).2.1 _ (chg hk hk7 hv (by omega) f 1 ((hK.tr t1).tr t2) _ fun m3 t3 => h m3 (t1.tr (t2.tr t3)))
theorem cfa {kk n w by_ d : Int32} {kn bn dn : Nat} (hk : kk.toInt = kn) (hk7 : kn < 7) (hb : by_.toInt = bn) (hb7 : bn < 7) (hd : d.toInt = dn) (hd30 : dn ≤ 33) (f : Nat) (x : Int32) {m : MMt} (hK : KCc kk n w m) (Q : Int32 → MMt → Prop)
    (h : ∀ m' : MMt, TR (bfa bn kn) m m' → Q (vfa bn kn x n w) m') : W_X8_from (f + 6) by_ 1 x d m Q := by
  have zz : (bn = 1 ∧ bod bn 1 = 20) ∨ (bn = 6 ∧ bod bn 1 = 70) ∨ (bn ≠ 1 ∧ bn ≠ 6 ∧ bod bn 1 = 11) := by
    rcases k7 hb7 with rfl | rfl | rfl | rfl | rfl | rfl | rfl <;> decide
  rcases zz with ⟨e, e1⟩ | ⟨e, e1⟩ | ⟨n1, n6, e1⟩
  · unfold bfa vfa at h
    rw [if_pos e, if_pos e] at h
    exact cf1 hk hk7 hb hb7 e1 hd (by omega) (f + 1) x hK _ h
  · unfold bfa vfa at h
    rw [if_neg (by omega), if_pos e, if_neg (by omega), if_pos e] at h
    refine fr_70 hb hb7 (an := 1) rfl (by decide) hd (by omega) e1 (f + 5) x hK.1 _ fun m1 v5 t1 hv => ?_
    exact cf1 hk hk7 (by_ := 1) (bn := 1) rfl (by decide) rfl hv (by omega) f (x + 1) (hK.tr t1) _ fun m2 t2 => h m2 (t1.tr t2)
  · unfold bfa vfa at h
    rw [if_neg n1, if_neg n6, if_neg n1, if_neg n6] at h
    exact cf0 hk hk7 hb hb7 e1 hd (by omega) (f + 2) x hK _ h
theorem ct0 {kk n w by_ d : Int32} {kn bn dn : Nat} (hk : kk.toInt = kn) (hk7 : kn < 7) (hb : by_.toInt = bn) (hb7 : bn < 7) (h13 : bod bn 3 = 13) (hd : d.toInt = dn) (hd30 : dn ≤ 31) (f : Nat) (x : Int32) {m : MMt} (hK : KCc kk n w m) (Q : Int32 → MMt → Prop)
    (h : ∀ m' : MMt, TR (bt0 kn) m m' → Q (vt0 kn x n w) m') : W_X8_from (f + 8) by_ 3 x d m Q := by
  refine fr_13 hb hb7 (an := 3) rfl (by decide) hd (by omega) h13 (f + 7) x hK.1 _ fun m1 v5 t1 hv => ?_
  refine ow_ (hK.tr t1).2.1 _ (cfa hk hk7 hk hk7 hv (by omega) f x (hK.tr t1) _ fun m2 t2 => ?_)
  refine ow_ ((hK.tr t1).tr t2).2.1 _ (chg hk hk7 hv (by omega) (f + 3) x ((hK.tr t1).tr t2) _ fun m3 t3 => h m3 (t1.tr (t2.tr t3)))
theorem cte {kk n w by_ d : Int32} {kn bn dn : Nat} (hk : kk.toInt = kn) (hk7 : kn < 7) (hb : by_.toInt = bn) (hb7 : bn < 7) (hd : d.toInt = dn) (hd30 : dn ≤ 30) (f : Nat) (x : Int32) {m : MMt} (hK : KCc kk n w m) (Q : Int32 → MMt → Prop)
    (h : ∀ m' : MMt, TR (bte bn kn) m m' → Q (vte bn kn x n w) m') : W_X8_from (f + 9) by_ 3 x d m Q := by
  have zz : (bn = 4 ∧ bod bn 3 = 51) ∨ (bn = 5 ∧ bod bn 3 = 60) ∨ (bn ≠ 4 ∧ bn ≠ 5 ∧ bod bn 3 = 13) := by
    rcases k7 hb7 with rfl | rfl | rfl | rfl | rfl | rfl | rfl <;> decide
  rcases zz with ⟨e, e1⟩ | ⟨e, e1⟩ | ⟨n1, n6, e1⟩
  · unfold bte vte at h
    rw [if_pos e, if_pos e] at h
    refine fr_51 hb hb7 (an := 3) rfl (by decide) hd (by omega) e1 (f + 8) x hK.1 _ fun m1 v5 t1 hv => ?_
    refine ow_ (hK.tr t1).2.1 _ (cfa hk hk7 hk hk7 hv (by omega) (f + 1) x (hK.tr t1) _ fun m2 t2 => ?_)
    exact ct0 hk hk7 (by_ := 2) (bn := 2) rfl (by decide) rfl hv (by omega) f x ((hK.tr t1).tr t2) _ fun m3 t3 => h m3 (t1.tr (t2.tr t3))
  · unfold bte vte at h
    rw [if_neg (by omega), if_pos e, if_neg (by omega), if_pos e] at h
    refine fr_60 hb hb7 (an := 3) rfl (by decide) hd (by omega) e1 (f + 8) x hK.1 _ fun m1 v5 t1 hv => ?_
    refine ct0 hk hk7 (by_ := 3) (bn := 3) rfl (by decide) rfl hv (by omega) f x (hK.tr t1) _ fun m2 t2 => ?_
    exact ow_ ((hK.tr t1).tr t2).2.1 _ (cfl hk hk7 hv (by omega) (f + 5) 2 ((hK.tr t1).tr t2) _ fun m3 t3 => h m3 (t1.tr (t2.tr t3)))
  · unfold bte vte at h
    rw [if_neg n1, if_neg n6, if_neg n1, if_neg n6] at h
    exact ct0 hk hk7 hb hb7 e1 hd (by omega) (f + 1) x hK _ h
/-- the KIND above -/
theorem above10 {a : Int32} (m : MMt) (Q : Int32 → MMt → Prop) (h : Q (if a = 4 then 2 else if a = 5 then 3 else if a = 6 then 1 else 0) m) : L_X10_above a m Q := by
  unfold L_X10_above
  by_cases c4 : a = 4
  · subst c4; simpa using h
  · by_cases c5 : a = 5
    · subst c5; simpa using h
    · by_cases c6 : a = 6
      · subst c6; simpa using h
      · simpa [c4, c5, c6] using h
theorem c7n {a : Int32} {bn : Nat} (h : a.toInt = bn) (hb : bn < 7) : (bn = 0 ∧ a = 0) ∨ (bn = 1 ∧ a = 1) ∨ (bn = 2 ∧ a = 2) ∨ (bn = 3 ∧ a = 3) ∨ (bn = 4 ∧ a = 4) ∨ (bn = 5 ∧ a = 5) ∨ (bn = 6 ∧ a = 6) := by
  simp only [eq_ti, Int32.reduceToInt]; omega
theorem mfl0 {kk n w : Int32} (f : Nat) (x : Int32) {m : MMt} (hK : KM kk n w m) (Q : Int32 → MMt → Prop) (h : ∀ m' : MMt, TM [10] m m' → Q (x + n) m') : W_X10_floats (f + 1) 0 x m Q := by
  show L_X10_floats (W_X10_floats f) 0 x m Q
  refine ⟨fun d => absurd rfl d, fun _ => note10 hK.1 _ fun m1 t1 => ?_⟩
  rw [(hK.tr t1).2.2.1]; exact h m1 t1
theorem mfl3 {kk n w : Int32} (f : Nat) (x : Int32) {m : MMt} (hK : KM kk n w m) (Q : Int32 → MMt → Prop) (h : ∀ m' : MMt, TM ([40] ++ [10]) m m' → Q ((x + n) * 3) m') : W_X10_floats (f + 2) 3 x m Q := by
  show L_X10_floats (W_X10_floats (f + 1)) 3 x m Q
  refine ⟨fun _ => ⟨fun _ => note10 hK.1 _ fun m1 t1 => mfl0 f x (hK.tr t1) _ fun m2 t2 => h m2 (t1.tr t2), fun d => absurd rfl d⟩, fun d => absurd d (by decide)⟩
theorem mfl {kk n w by_ : Int32} {bn : Nat} (hb : by_.toInt = bn) (hb7 : bn < 7) (f : Nat) (x : Int32) {m : MMt} (hK : KM kk n w m) (Q : Int32 → MMt → Prop)
    (h : ∀ m' : MMt, TM (bfl bn) m m' → Q (vfl bn x n) m') : W_X10_floats (f + 4) by_ x m Q := by
  have up : ∀ (a : Int32) (g : Nat), ¬ a = 0 → ¬ a = 3 → W_X10_floats g (if a = 4 then 2 else if a = 5 then 3 else if a = 6 then 1 else 0) x m Q → W_X10_floats (g + 1) a x m Q := by
    intro a g a0 a3 hh
    show L_X10_floats (W_X10_floats g) a x m Q
    exact ⟨fun _ => ⟨fun d => absurd d a3, fun _ => above10 _ _ hh⟩, fun d => absurd d a0⟩
  rcases c7n hb hb7 with ⟨rfl, rfl⟩ | ⟨rfl, rfl⟩ | ⟨rfl, rfl⟩ | ⟨rfl, rfl⟩ | ⟨rfl, rfl⟩ | ⟨rfl, rfl⟩ | ⟨rfl, rfl⟩
  · exact mfl0 (f + 3) x hK _ h
  · exact up 1 (f + 3) (by decide) (by decide) (mfl0 (f + 2) x hK _ h)
  · exact up 2 (f + 3) (by decide) (by decide) (mfl0 (f + 2) x hK _ h)
  · exact mfl3 (f + 2) x hK _ h
  · exact up 4 (f + 3) (by decide) (by decide) (up 2 (f + 2) (by decide) (by decide) (mfl0 (f + 1) x hK _ h))
  · exact up 5 (f + 3) (by decide) (by decide) (mfl3 (f + 1) x hK _ h)
  · exact up 6 (f + 3) (by decide) (by decide) (up 1 (f + 2) (by decide) (by decide) (mfl0 (f + 1) x hK _ h))
theorem mhg0 {kk n w : Int32} (f : Nat) (x : Int32) {m : MMt} (hK : KM kk n w m) (Q : Int32 → MMt → Prop) (h : ∀ m' : MMt, TM [12] m m' → Q (x - w) m') : W_X10_hangs (f + 1) 0 x m Q := by
  show L_X10_hangs (W_X10_hangs f) 0 x m Q
  unfold L_X10_hangs
  simp (decide := true) only [e10, not_false_eq_true, not_true_eq_false, false_implies, forall_const, true_and, and_true, eq_self, imp_self, true_implies]
  refine note10 hK.1 _ fun m1 t1 => ?_
  rw [(hK.tr t1).2.2.2]; exact h m1 t1
theorem mhg2 {kk n w : Int32} (f : Nat) (x : Int32) {m : MMt} (hK : KM kk n w m) (Q : Int32 → MMt → Prop) (h : ∀ m' : MMt, TM ([30] ++ [12]) m m' → Q (-(x - w)) m') : W_X10_hangs (f + 2) 2 x m Q := by
  show L_X10_hangs (W_X10_hangs (f + 1)) 2 x m Q
  unfold L_X10_hangs
  simp (decide := true) only [e10, not_false_eq_true, not_true_eq_false, false_implies, forall_const, true_and, and_true, eq_self, imp_self, true_implies]
  exact note10 hK.1 _ fun m1 t1 => mhg0 f x (hK.tr t1) _ fun m2 t2 => h m2 (t1.tr t2)
theorem mhg {kk n w by_ : Int32} {bn : Nat} (hb : by_.toInt = bn) (hb7 : bn < 7) (f : Nat) (x : Int32) {m : MMt} (hK : KM kk n w m) (Q : Int32 → MMt → Prop)
    (h : ∀ m' : MMt, TM (bhg bn) m m' → Q (vhg bn x n w) m') : W_X10_hangs (f + 4) by_ x m Q := by
  have up : ∀ (a : Int32) (g : Nat), (a = 1 ∨ a = 3 ∨ a = 5 ∨ a = 6) → W_X10_hangs g (if a = 4 then 2 else if a = 5 then 3 else if a = 6 then 1 else 0) x m Q → W_X10_hangs (g + 1) a x m Q := by
    intro a g ha hh
    show L_X10_hangs (W_X10_hangs g) a x m Q
    unfold L_X10_hangs
    rcases ha with rfl | rfl | rfl | rfl <;> (simp (decide := true) only [e10, not_false_eq_true, not_true_eq_false, false_implies, forall_const, true_and, and_true, eq_self, imp_self, true_implies]; exact above10 _ _ hh)
  rcases c7n hb hb7 with ⟨rfl, rfl⟩ | ⟨rfl, rfl⟩ | ⟨rfl, rfl⟩ | ⟨rfl, rfl⟩ | ⟨rfl, rfl⟩ | ⟨rfl, rfl⟩ | ⟨rfl, rfl⟩
  · exact mhg0 (f + 3) x hK _ h
  · exact up 1 (f + 3) (by decide) (mhg0 (f + 2) x hK _ h)
  · exact mhg2 (f + 2) x hK _ h
  · exact up 3 (f + 3) (by decide) (mhg0 (f + 2) x hK _ h)
  · show L_X10_hangs (W_X10_hangs (f + 3)) 4 x m Q
    unfold L_X10_hangs
    simp (decide := true) only [e10, not_false_eq_true, not_true_eq_false, false_implies, forall_const, true_and, and_true, eq_self, imp_self, true_implies]
    refine note10 hK.1 _ fun m1 t1 => mhg2 (f + 1) x (hK.tr t1) _ fun m2 t2 => ?_
    rw [((hK.tr t1).tr t2).2.2.1]; exact h m2 (t1.tr t2)
  · exact up 5 (f + 3) (by decide) (up 3 (f + 2) (by decide) (mhg0 (f + 1) x hK _ h))
  · exact up 6 (f + 3) (by decide) (up 1 (f + 2) (by decide) (mhg0 (f + 1) x hK _ h))
theorem mf0 {kk n w : Int32} {kn : Nat} (hk : kk.toInt = kn) (hk7 : kn < 7) (f : Nat) (x : Int32) {m : MMt} (hK : KM kk n w m) (Q : Int32 → MMt → Prop) (h : ∀ m' : MMt, TM (bf0 kn) m m' → Q (vf0 kn x n) m') : W_X10_falls (f + 1) 0 x m Q := by
  show L_X10_falls (W_X10_falls f) 0 x m Q
  unfold L_X10_falls
  simp (decide := true) only [e10, not_false_eq_true, not_true_eq_false, false_implies, forall_const, true_and, and_true, eq_self, imp_self, true_implies]
  refine note10 hK.1 _ fun m1 t1 => ?_
  rw [(hK.tr t1).2.1]
  exact mfl hk hk7 16 x (hK.tr t1) _ fun m2 t2 => h m2 (t1.tr t2)
theorem mf1 {kk n w : Int32} {kn : Nat} (hk : kk.toInt = kn) (hk7 : kn < 7) (f : Nat) (x : Int32) {m : MMt} (hK : KM kk n w m) (Q : Int32 → MMt → Prop) (h : ∀ m' : MMt, TM (bf1 kn) m m' → Q (vf1 kn x n w) m') : W_X10_falls (f + 2) 1 x m Q := by
  show L_X10_falls (W_X10_falls (f + 1)) 1 x m Q
  unfold L_X10_falls
  simp (decide := true) only [e10, not_false_eq_true, not_true_eq_false, false_implies, forall_const, true_and, and_true, eq_self, imp_self, true_implies]
  refine note10 hK.1 _ fun m1 t1 => mf0 hk hk7 f x (hK.tr t1) _ fun m2 t2 => ?_
  rw [((hK.tr t1).tr t2).2.1]
  exact mhg hk hk7 16 1 ((hK.tr t1).tr t2) _ fun m3 t3 => h m3 (t1.tr (t2.tr t3))
theorem mfa {kk n w by_ : Int32} {kn bn : Nat} (hk : kk.toInt = kn) (hk7 : kn < 7) (hb : by_.toInt = bn) (hb7 : bn < 7) (f : Nat) (x : Int32) {m : MMt} (hK : KM kk n w m) (Q : Int32 → MMt → Prop)
    (h : ∀ m' : MMt, TM (bfa bn kn) m m' → Q (vfa bn kn x n w) m') : W_X10_falls (f + 4) by_ x m Q := by
  have up : ∀ (a : Int32) (g : Nat), (a = 2 ∨ a = 3 ∨ a = 4 ∨ a = 5) → W_X10_falls g (if a = 4 then 2 else if a = 5 then 3 else if a = 6 then 1 else 0) x m Q → W_X10_falls (g + 1) a x m Q := by
    intro a g ha hh
    show L_X10_falls (W_X10_falls g) a x m Q
    unfold L_X10_falls
    rcases ha with rfl | rfl | rfl | rfl <;> (simp (decide := true) only [e10, not_false_eq_true, not_true_eq_false, false_implies, forall_const, true_and, and_true, eq_self, imp_self, true_implies]; exact above10 _ _ hh)
  rcases c7n hb hb7 with ⟨rfl, rfl⟩ | ⟨rfl, rfl⟩ | ⟨rfl, rfl⟩ | ⟨rfl, rfl⟩ | ⟨rfl, rfl⟩ | ⟨rfl, rfl⟩ | ⟨rfl, rfl⟩
  · exact mf0 hk hk7 (f + 3) x hK _ h
  · exact mf1 hk hk7 (f + 2) x hK _ h
  · exact up 2 (f + 3) (by decide) (mf0 hk hk7 (f + 2) x hK _ h)
  · exact up 3 (f + 3) (by decide) (mf0 hk hk7 (f + 2) x hK _ h)
  · exact up 4 (f + 3) (by decide) (up 2 (f + 2) (by decide) (mf0 hk hk7 (f + 1) x hK _ h))
  · exact up 5 (f + 3) (by decide) (up 3 (f + 2) (by decide) (mf0 hk hk7 (f + 1) x hK _ h))
  · show L_X10_falls (W_X10_falls (f + 3)) 6 x m Q
    unfold L_X10_falls
    simp (decide := true) only [e10, not_false_eq_true, not_true_eq_false, false_implies, forall_const, true_and, and_true, eq_self, imp_self, true_implies]
    exact note10 hK.1 _ fun m1 t1 => mf1 hk hk7 (f + 1) (x + 1) (hK.tr t1) _ fun m2 t2 => h m2 (t1.tr t2)
theorem mt0 {kk n w : Int32} {kn : Nat} (hk : kk.toInt = kn) (hk7 : kn < 7) (f : Nat) (x : Int32) {m : MMt} (hK : KM kk n w m) (Q : Int32 → MMt → Prop) (h : ∀ m' : MMt, TM (bt0 kn) m m' → Q (vt0 kn x n w) m') : W_X10_tells (f + 1) 0 x m Q := by
  show L_X10_tells (W_X10_tells f) 0 x m Q
  unfold L_X10_tells
  simp (decide := true) only [e10, not_false_eq_true, not_true_eq_false, false_implies, forall_const, true_and, and_true, eq_self, imp_self, true_implies]
  refine note10 hK.1 _ fun m1 t1 => ?_
  rw [(hK.tr t1).2.1]
  refine mfa hk hk7 hk hk7 16 x (hK.tr t1) _ fun m2 t2 => ?_
  rw [((hK.tr t1).tr t2).2.1]
  exact mhg hk hk7 16 x ((hK.tr t1).tr t2) _ fun m3 t3 => h m3 (t1.tr (t2.tr t3))
theorem mte {kk n w by_ : Int32} {kn bn : Nat} (hk : kk.toInt = kn) (hk7 : kn < 7) (hb : by_.toInt = bn) (hb7 : bn < 7) (f : Nat) (x : Int32) {m : MMt} (hK : KM kk n w m) (Q : Int32 → MMt → Prop)
    (h : ∀ m' : MMt, TM (bte bn kn) m m' → Q (vte bn kn x n w) m') : W_X10_tells (f + 4) by_ x m Q := by
  have up : ∀ (a : Int32) (g : Nat) (m : MMt) (Q : Int32 → MMt → Prop), (a = 1 ∨ a = 2 ∨ a = 3 ∨ a = 6) → W_X10_tells g (if a = 4 then 2 else if a = 5 then 3 else if a = 6 then 1 else 0) x m Q → W_X10_tells (g + 1) a x m Q := by
    intro a g m Q ha hh
    show L_X10_tells (W_X10_tells g) a x m Q
    unfold L_X10_tells
    rcases ha with rfl | rfl | rfl | rfl <;> (simp (decide := true) only [e10, not_false_eq_true, not_true_eq_false, false_implies, forall_const, true_and, and_true, eq_self, imp_self, true_implies]; exact above10 _ _ hh)
  rcases c7n hb hb7 with ⟨rfl, rfl⟩ | ⟨rfl, rfl⟩ | ⟨rfl, rfl⟩ | ⟨rfl, rfl⟩ | ⟨rfl, rfl⟩ | ⟨rfl, rfl⟩ | ⟨rfl, rfl⟩
  · exact mt0 hk hk7 (f + 3) x hK _ h
  · exact up 1 (f + 3) _ _ (by decide) (mt0 hk hk7 (f + 2) x hK _ h)
  · exact up 2 (f + 3) _ _ (by decide) (mt0 hk hk7 (f + 2) x hK _ h)
  · exact up 3 (f + 3) _ _ (by decide) (mt0 hk hk7 (f + 2) x hK _ h)
  · show L_X10_tells (W_X10_tells (f + 3)) 4 x m Q
    unfold L_X10_tells
    simp (decide := true) only [e10, not_false_eq_true, not_true_eq_false, false_implies, forall_const, true_and, and_true, eq_self, imp_self, true_implies]
    refine note10 hK.1 _ fun m1 t1 => ?_
    rw [(hK.tr t1).2.1]
    refine mfa hk hk7 hk hk7 16 x (hK.tr t1) _ fun m2 t2 => ?_
    exact up 2 (f + 2) _ _ (by decide) (mt0 hk hk7 (f + 1) x ((hK.tr t1).tr t2) _ fun m3 t3 => h m3 (t1.tr (t2.tr t3)))
  · show L_X10_tells (W_X10_tells (f + 3)) 5 x m Q
    unfold L_X10_tells
    simp (decide := true) only [e10, not_false_eq_true, not_true_eq_false, false_implies, forall_const, true_and, and_true, eq_self, imp_self, true_implies]
    refine note10 hK.1 _ fun m1 t1 => up 3 (f + 2) _ _ (by decide) (mt0 hk hk7 (f + 1) x (hK.tr t1) _ fun m2 t2 => ?_)
    rw [((hK.tr t1).tr t2).2.1]
    exact mfl hk hk7 16 2 ((hK.tr t1).tr t2) _ fun m3 t3 => h m3 (t1.tr (t2.tr t3))
  · exact up 6 (f + 3) _ _ (by decide) (up 1 (f + 2) _ _ (by decide) (mt0 hk hk7 (f + 1) x hK _ h))
