/-- a BODY begins -/
def nt (b : Int32) (z : Int32 × (Nat → Int32)) : Int32 × (Nat → Int32) := if 40 ≤ z.1 then z else (z.1 + 1, upd z.2 z.1.toInt.toNat b)
def ntL : List Int32 → Int32 × (Nat → Int32) → Int32 × (Nat → Int32)
  | [], z => z
  | b :: l, z => ntL l (nt b z)
theorem ntL_app : ∀ (l1 l2 : List Int32) (z : Int32 × (Nat → Int32)), ntL (l1 ++ l2) z = ntL l2 (ntL l1 z)
  | [], _, _ => rfl
  | b :: l, l2, z => ntL_app l l2 (nt b z)
theorem nt_rg {b : Int32} {z : Int32 × (Nat → Int32)} (h : 0 ≤ z.1.toInt ∧ z.1.toInt ≤ 40) : 0 ≤ (nt b z).1.toInt ∧ (nt b z).1.toInt ≤ 40 := by
  unfold nt
  split
  · exact h
  · rename_i c
    rw [Int32.le_iff_toInt_le] at c
    simp only [Int32.reduceToInt] at c
    show 0 ≤ (z.1 + 1).toInt ∧ (z.1 + 1).toInt ≤ 40
    rw [ad_s (by simp only [Int32.reduceToInt]; omega)]; simp only [Int32.reduceToInt]; omega
theorem ntL_rg : ∀ (l : List Int32) (z : Int32 × (Nat → Int32)), (0 ≤ z.1.toInt ∧ z.1.toInt ≤ 40) → 0 ≤ (ntL l z).1.toInt ∧ (ntL l z).1.toInt ≤ 40
  | [], _, h => h
  | b :: l, z, h => ntL_rg l (nt b z) (nt_rg h)
/-- traces of both sides agree -/
def AG (z y : Int32 × (Nat → Int32)) : Prop := z.1 = y.1 ∧ ∀ i : Nat, (i : Int) < z.1.toInt → z.2 i = y.2 i
theorem nt_AG {b : Int32} {z y : Int32 × (Nat → Int32)} (hr : 0 ≤ z.1.toInt ∧ z.1.toInt ≤ 40) (h : AG z y) : AG (nt b z) (nt b y) := by
  obtain ⟨h1, h2⟩ := h
  unfold nt
  rw [← h1]
  split
  · exact ⟨h1, h2⟩
  · refine ⟨rfl, fun i hi => ?_⟩
    rename_i c
    rw [Int32.le_iff_toInt_le] at c
    simp only [Int32.reduceToInt] at c
    have e : (z.1 + 1).toInt = z.1.toInt + 1 := by rw [ad_s (by simp only [Int32.reduceToInt]; omega)]; simp only [Int32.reduceToInt]
    have hi' : (i : Int) < z.1.toInt + 1 := by rw [← e]; exact hi
    show upd z.2 _ b i = upd y.2 _ b i
    rw [upd_at, upd_at]
    by_cases e : i = z.1.toInt.toNat
    · rw [if_pos e, if_pos e]
    · rw [if_neg e, if_neg e]; exact h2 i (by omega)
theorem ntL_AG : ∀ (l : List Int32) {z y : Int32 × (Nat → Int32)}, (0 ≤ z.1.toInt ∧ z.1.toInt ≤ 40) → AG z y → AG (ntL l z) (ntL l y)
  | [], _, _, _, h => h
  | b :: l, _, _, hr, h => ntL_AG l (nt_rg hr) (nt_AG hr h)
/-- what the class's and the reference's voices do to the rows -/
def TR (bs : List Int32) (m m' : MMt) : Prop := (∀ q, q ≠ 64 → q ≠ 65 → m' q = m q) ∧ (∀ j, j ≠ 1 → m' 64 j = m 64 j) ∧ (m' 64 1, m' 65) = ntL bs (m 64 1, m 65)
def TM (bs : List Int32) (m m' : MMt) : Prop := (∀ q, q ≠ 76 → q ≠ 89 → m' q = m q) ∧ (∀ j, j ≠ 24 → m' 76 j = m 76 j) ∧ (m' 76 24, m' 89) = ntL bs (m 76 24, m 89)
theorem TR.tr {b1 b2 : List Int32} {m m1 m2 : MMt} (h1 : TR b1 m m1) (h2 : TR b2 m1 m2) : TR (b1 ++ b2) m m2 :=
  ⟨fun q a b => (h2.1 q a b).trans (h1.1 q a b), fun j a => (h2.2.1 j a).trans (h1.2.1 j a), by rw [h2.2.2, h1.2.2, ntL_app]⟩
theorem TM.tr {b1 b2 : List Int32} {m m1 m2 : MMt} (h1 : TM b1 m m1) (h2 : TM b2 m1 m2) : TM (b1 ++ b2) m m2 :=
  ⟨fun q a b => (h2.1 q a b).trans (h1.1 q a b), fun j a => (h2.2.1 j a).trans (h1.2.1 j a), by rw [h2.2.2, h1.2.2, ntL_app]⟩
/-- count in range, KIND k, number n, m -/
def KCc (k n w : Int32) (m : MMt) : Prop := (0 ≤ (m 64 1).toInt ∧ (m 64 1).toInt ≤ 40) ∧ m 64 2 = k ∧ m 64 3 = n ∧ m 64 4 = w
def KM (k n w : Int32) (m : MMt) : Prop := (0 ≤ (m 76 24).toInt ∧ (m 76 24).toInt ≤ 40) ∧ m 76 26 = k ∧ m 76 25 = n ∧ m 76 27 = w
theorem KCc.tr {k n w : Int32} {m m' : MMt} {bs : List Int32} (h : KCc k n w m) (ht : TR bs m m') : KCc k n w m' := by
  have := ntL_rg bs (m 64 1, m 65) h.1
  rw [← ht.2.2] at this
  exact ⟨this, (ht.2.1 2 (by decide)).trans h.2.1, (ht.2.1 3 (by decide)).trans h.2.2.1, (ht.2.1 4 (by decide)).trans h.2.2.2⟩
theorem KM.tr {k n w : Int32} {m m' : MMt} {bs : List Int32} (h : KM k n w m) (ht : TM bs m m') : KM k n w m' := by
  have := ntL_rg bs (m 76 24, m 89) h.1
  rw [← ht.2.2] at this
  exact ⟨this, (ht.2.1 26 (by decide)).trans h.2.1, (ht.2.1 25 (by decide)).trans h.2.2.1, (ht.2.1 27 (by decide)).trans h.2.2.2⟩
theorem note9 {b : Int32} {m : MMt} (hr : 0 ≤ (m 64 1).toInt ∧ (m 64 1).toInt ≤ 40) (Q : MMt → Prop) (h : ∀ m' : MMt, TR [b] m m' → Q m') : L_X8_note b m Q := by
  refine ⟨fun c => h m ⟨fun _ _ _ => rfl, fun _ _ => rfl, ?_⟩, fun c => ?_⟩
  · show _ = nt b (m 64 1, m 65)
    unfold nt; rw [if_pos c]
  · have c' := c
    rw [Int32.le_iff_toInt_le] at c'
    simp only [Int32.reduceToInt] at c'
    obtain ⟨i, hi⟩ : ∃ i : Nat, (m 64 1).toInt = i := ⟨(m 64 1).toInt.toNat, by omega⟩
    refine ⟨vp_of hi (by omega), ?_⟩
    rintro m2 hm2 m4 hm4
    refine h m4 ⟨fun q h1 h2 => by rw [hm4, up2_ro _ _ _ _ _ h1, hm2, up2_ro _ _ _ _ _ h2], fun j hj => by rw [hm4, uq, if_neg hj, hm2, up2_ro _ _ _ _ _ (by decide)], ?_⟩
    show _ = nt b (m 64 1, m 65)
    unfold nt
    rw [if_neg c, hm4, up2_eq, up2_ro _ _ _ _ _ (show 65 ≠ 64 by decide), hm2, up2_ro _ _ _ _ _ (show 64 ≠ 65 by decide), up2_row, tn_ti]
theorem note10 {b : Int32} {m : MMt} (hr : 0 ≤ (m 76 24).toInt ∧ (m 76 24).toInt ≤ 40) (Q : MMt → Prop) (h : ∀ m' : MMt, TM [b] m m' → Q m') : L_X10_begins b m Q := by
  refine ⟨fun c => h m ⟨fun _ _ _ => rfl, fun _ _ => rfl, ?_⟩, fun c => ?_⟩
  · show _ = nt b (m 76 24, m 89)
    unfold nt; rw [if_pos c]
  · have c' := c
    rw [Int32.le_iff_toInt_le] at c'
    simp only [Int32.reduceToInt] at c'
    obtain ⟨i, hi⟩ : ∃ i : Nat, (m 76 24).toInt = i := ⟨(m 76 24).toInt.toNat, by omega⟩
    refine ⟨vp_of hi (by omega), ?_⟩
    rintro m2 hm2 m4 hm4
    refine h m4 ⟨fun q h1 h2 => by rw [hm4, up2_ro _ _ _ _ _ h1, hm2, up2_ro _ _ _ _ _ h2], fun j hj => by rw [hm4, uq, if_neg hj, hm2, up2_ro _ _ _ _ _ (by decide)], ?_⟩
    show _ = nt b (m 76 24, m 89)
    unfold nt
    rw [if_neg c, hm4, up2_eq, up2_ro _ _ _ _ _ (show 89 ≠ 76 by decide), hm2, up2_ro _ _ _ _ _ (show 76 ≠ 89 by decide), up2_row, tn_ti]
/-- the BODY of a KIND for an act -/
def bod (k a : Nat) : Int32 := ([10, 11, 12, 13, 10, 20, 12, 13, 10, 11, 30, 13, 40, 11, 12, 13, 10, 11, 50, 51, 40, 11, 12, 60, 10, 70, 12, 13] : List Int32).getD (4 * k + a) 0
theorem bod_all : ∀ k, k < 7 → ∀ a, a < 4 → ((aboveF k < 0 → bodiesF (4 * k + a) = bod k a) ∧ (¬ bodiesF (4 * k + a) = 0 → bodiesF (4 * k + a) = bod k a) ∧ (¬ aboveF k < 0 → bodiesF (4 * k + a) = 0 → ((aboveF k).toInt.toNat < 7 ∧ 0 ≤ (aboveF k).toInt ∧ bod (aboveF k).toInt.toNat a = bod k a ∧ dpt (aboveF k) < dpt (Int32.ofNat k))))  := by
  intro k hk a ha
  have hk' : k = 0 ∨ k = 1 ∨ k = 2 ∨ k = 3 ∨ k = 4 ∨ k = 5 ∨ k = 6 := by omega
  have ha' : a = 0 ∨ a = 1 ∨ a = 2 ∨ a = 3 := by omega
  rcases hk' with rfl | rfl | rfl | rfl | rfl | rfl | rfl <;> rcases ha' with rfl | rfl | rfl | rfl <;>
    exact ⟨fun c => by first | exact absurd c (by decide) | decide, fun c => by first | exact absurd c (by decide) | decide, fun c d => by first | exact absurd c (by decide) | exact absurd d (by decide) | exact ⟨by decide, by decide, by decide, by decide⟩⟩
theorem dpt_le (x : Int32) : dpt x ≤ 3 := by
  unfold dpt
  split
  · decide
  · split
    · decide
    · split <;> decide
theorem bodyOf9 {k a : Int32} {kn an : Nat} (hk : k.toInt = kn) (hk7 : kn < 7) (ha : a.toInt = an) (ha4 : an < 4) (m : MMt) (Q : Int32 → MMt → Prop) (h : Q (bod kn an) m) : L_X8_bodyOf k a m Q := by
  unfold L_X8_bodyOf B_X8_bodyOf_4
  refine LOOP_dn (fun d z => z.2.2 = m ∧ 0 ≤ z.2.1.toInt ∧ z.2.1.toInt + d ≤ 3 ∧ ∃ i : Nat, z.1.toInt = i ∧ i < 7 ∧ bod i an = bod kn an ∧ d = dpt z.1) (n0 := dpt k) ⟨rfl, (by decide : (0 : Int) ≤ (0 : Int32).toInt), by
    have := dpt_le k
    show (0 : Int32).toInt + (dpt k : Nat) ≤ 3
    simp only [Int32.reduceToInt]; omega, kn, hk, hk7, rfl, rfl⟩ ?_
  rintro d ⟨x2, x3, z⟩ X ⟨e1, e2, e3, i, e4, e5, e6, e7⟩ hX
  dsimp only at e1 e2 e3 e4 e7 hX ⊢
  subst e1
  have eI : TI (((4 : Int32) * x2) + a) (4 * i + an) := TI.add (TI.mul (rfl : TI 4 4) e4 (by omega)) ha (by omega)
  obtain ⟨b1, b2, b3⟩ := bod_all i e5 an ha4
  have fin : bodiesF (4 * i + an) = bod i an → B_X8_bodyOf_42 a x2 z Q := by
    intro e
    refine ⟨eI.vp (by omega), ?_⟩
    rw [eI.tn, e, e6]; exact h
  refine ⟨fun c => ?_, fun c => ⟨vp_of e4 e5, ?_⟩⟩
  · rw [Int32.le_iff_toInt_le] at c; simp only [Int32.reduceToInt] at c; omega
  · rw [tn_of e4, eI.tn]
    refine ⟨fun c1 => fin (b1 c1), fun c1 => ⟨eI.vp (by omega), fun c2 => fin (b2 c2), fun c2 => ⟨vp_of e4 e5, ?_⟩⟩⟩
    obtain ⟨p1, p2, p3, p4⟩ := b3 c1 c2
    rintro v7 rfl v8 rfl
    have ei : Int32.ofNat i = x2 := on_of e4
    rw [ei] at p4
    refine hX _ _ (by rw [e7]; exact p4) ⟨rfl, ?_, ?_, (aboveF i).toInt.toNat, ?_, p1, by rw [p3, e6], rfl⟩
    · show 0 ≤ (x3 + 1).toInt
      rw [ad_s (by simp only [Int32.reduceToInt]; omega)]; simp only [Int32.reduceToInt]; omega
    · show (x3 + 1).toInt + (dpt (aboveF i) : Nat) ≤ 3
      rw [ad_s (by simp only [Int32.reduceToInt]; omega)]; simp only [Int32.reduceToInt]; omega
    · show (aboveF i).toInt = _
      omega
