def psz (i : Int32) : Int32 := if i - i / 2 * 2 = 1 then (-(i + 1)) / 2 else i / 2
theorem psz9 (i : Int32) (m : MMt) (Q : Int32 → MMt → Prop) (h : Q (psz i) m) : L_X9_pushBySize i m Q := by
  unfold psz at h
  exact ⟨fun c => by rwa [if_neg c] at h, fun c => by rwa [if_pos c] at h⟩
theorem psz10 (i : Int32) (m : MMt) (Q : Int32 → MMt → Prop) (h : Q (psz i) m) : L_X10_pushOf i m Q := by
  unfold psz at h
  exact ⟨fun c => by rwa [if_neg c] at h, fun c => by rwa [if_pos c] at h⟩
/-- a PUSH -/
def phd (x : Nat → Int32) (p : Int32) : Nat → Int32 := upd x 3 (hld (x 3 + p) (-9) 9)
theorem phd_GW {x : Nat → Int32} (h : GW x) (p : Int32) : GW (phd x p) := by
  obtain ⟨w0, w1, w2, w3, w4⟩ := h
  exact ⟨w0, w1, w2, hld9 _, w4⟩
/-- OVER -/
def ovF (s : Nat → Int32) (t : Int32) : Nat → (Nat → Int32) → Nat → Int32
  | 0, _, _ => -1
  | f + 1, x, k => if x 2 = t then Int32.ofNat k else ovF s t f (stp s x) (k + 1)
theorem ovF_rs {s x : Nat → Int32} {t : Int32} (hr : RS s x) (hx : ¬ x 2 = t) : ∀ (f k : Nat), ovF s t f x k = -1
  | 0, _ => rfl
  | f + 1, k => by
    unfold ovF
    rw [if_neg hx, stp_rs hr]; exact ovF_rs hr hx f (k + 1)
theorem ovF_rg {s : Nat → Int32} {t : Int32} : ∀ (f : Nat) (x : Nat → Int32) (k : Nat), f + k ≤ 101 → ovF s t f x k = -1 ∨ (0 ≤ (ovF s t f x k).toInt ∧ (ovF s t f x k).toInt ≤ 100)
  | 0, x, k, _ => Or.inl rfl
  | f + 1, x, k, h => by
    unfold ovF
    split
    · have e : TI (Int32.ofNat k) k := on_ti (by omega)
      right
      rw [show (Int32.ofNat k).toInt = k from e]; omega
    · exact ovF_rg f _ (k + 1) (by omega)
theorem over9 {q : Nat} {s x : Nat → Int32} {m : MMt} (hq : q ≠ 54) (hx : ∀ j, j < 5 → m q j = x j) (hg : GW x) (hT : TH s m) (sd p t : Int32) (ht : sd * 40 = t) (Q : Int32 → MMt → Prop)
    (h : ∀ m' : MMt, FrC s m m' → Q (ovF s t 101 (phd x p) 0) m') : L_X7_overBehind q sd p m Q := by
  refine copyX9 hq hx hT.2.2.2 _ fun m1 f1 x1 => shove9 _ ?_
  have f2 : FrC s m (up2 m1 54 3 (hld (m1 54 3 + p) (-9) 9)) := ⟨fun a a1 a2 a3 => by rw [up2_ro _ _ _ _ _ a3, f1.1 a a1 a2 a3], MEM_congr f1.2 (by rw [up2_ro _ _ _ _ _ (by decide)]) fun _ _ => rfl⟩
  have x2 : ∀ j, j < 5 → up2 m1 54 3 (hld (m1 54 3 + p) (-9) 9) 54 j = phd x p j := fun j hj => by
    rw [uq, x1 3 (by decide)]; unfold phd upd
    by_cases e : j = 3
    · rw [if_pos e, if_pos e]
    · rw [if_neg e, if_neg e, x1 j hj]
  have hg2 := phd_GW hg p
  generalize phd x p = x0 at x2 hg2 h
  generalize up2 m1 54 3 (hld (m1 54 3 + p) (-9) 9) = m2 at f2 x2
  generalize hR : ovF s t 101 x0 0 = R at h
  unfold B_X7_overBehind_19
  rw [ht]
  refine LOOP_up 101 (fun k z => z.1 = Int32.ofNat k ∧ FrC s m z.2 ∧ ∃ y : Nat → Int32, (∀ j, j < 5 → z.2 54 j = y j) ∧ GW y ∧ ovF s t (101 - k) y k = R) ⟨rfl, f2, x0, x2, hg2, hR⟩ ?_ ?_
  · rintro k ⟨i, m3⟩ X hk ⟨e1, e2, y, e3, e4, e5⟩ hX
    dsimp only at e1 e2 e3 hX ⊢
    subst e1
    have hk2 : TI (Int32.ofNat k) k := on_ti (by omega)
    rw [show 101 - k = (100 - k) + 1 by omega] at e5
    refine ⟨fun d => absurd d (by rw [Int32.lt_iff_toInt_lt, show (Int32.ofNat k).toInt = k from hk2]; simp only [Int32.reduceToInt]; omega), fun _ => ?_⟩
    rw [e3 2 (by decide)]
    refine ⟨fun c => ?_, fun c => ?_⟩
    · refine goX9 (s := s) e3 e4 (TH_frC hT e2) _ fun m' g1 g2 => ⟨fun r => ⟨fun d => absurd rfl d, fun _ => ?_⟩, fun r => ⟨fun _ => ?_, fun d => absurd d (by decide)⟩⟩
      · rw [ovF_rs r c] at e5
        have hh := h m' (e2.tr g1)
        rw [← e5] at hh
        exact hh
      · rintro v5 rfl
        refine hX _ ⟨on_1 k, e2.tr g1, stp s y, g2, stp_GW e4, ?_⟩
        unfold ovF at e5
        rw [if_neg c] at e5
        rw [show 101 - (k + 1) = 100 - k by omega]; exact e5
    · unfold ovF at e5
      rw [if_pos c] at e5
      have hh := h m3 e2
      rw [← e5] at hh
      exact hh
  · rintro ⟨i, m3⟩ X ⟨e1, e2, y, e3, e4, e5⟩
    dsimp only at e1 e2 e3 ⊢
    subst e1
    rw [show 101 - 101 = 0 by omega] at e5
    have hh := h m3 e2
    rw [← e5] at hh
    exact ⟨fun _ => hh, fun d => absurd (by decide) d⟩
theorem overBy10 {a : Int32} {g : Nat} (ha : a.toInt = g) (hg : g < 8) {m : MMt} (hw : WL (m 77)) (sd p t : Int32) (ht : 40 * sd = t) (Q : Int32 → MMt → Prop)
    (h : ∀ m' : MMt, FrM m m' → Q (ovF (m 77) t 101 (phd (gd (m 77) g) p) 0) m') : L_X10_overBy a sd p m Q := by
  refine of10 (j := 2) ha hg rfl (by decide) _ _ (of10 (j := 3) ha hg rfl (by decide) _ _ ?_)
  refine pushed10 ha hg _ ?_
  generalize hs : m 77 = s at hw h
  rw [show s (10 + 5 * g + 2) = gd s g 2 from rfl, show s (10 + 5 * g + 3) = gd s g 3 from rfl]
  have i77 : up2 m 77 (10 + 5 * g + 3) (hld (gd s g 3 + p) (-9) 9) 77 = PUT s g (phd (gd s g) p) := by
    rw [up2_row, hs]
    have := PUT_upd s g (gd s g) (j := 3) (by decide) (hld (gd s g 3 + p) (-9) 9)
    rw [PUT_self] at this
    exact this
  have x23 : X23 (gd s g) (phd (gd s g) p) := fun j h1 h2 h3 => by unfold phd; rw [upd_ne h3]
  generalize phd (gd s g) p = x0 at i77 x23 h
  have i76 : ∀ q, q ≠ 77 → up2 m 77 (10 + 5 * g + 3) (hld (gd s g 3 + p) (-9) 9) q = m q := fun q hq => up2_ro _ _ _ _ _ hq
  generalize up2 m 77 (10 + 5 * g + 3) (hld (gd s g 3 + p) (-9) 9) = m2 at i77 i76
  generalize hR : ovF s t 101 x0 0 = R at h
  have fin : ∀ (k : Nat) (z : MMt) (y : Nat → Int32), k ≤ 101 → (∀ q, q ≠ 76 → q ≠ 77 → q ≠ 81 → q ≠ 82 → z q = m q) → (∀ j, j ≠ 12 → j ≠ 13 → z 76 j = m 76 j) → z 77 = PUT s g y → X23 (gd s g) y → (if 100 < k then (-1 : Int32) else Int32.ofNat k) = R → B_X10_overBy_77 a (gd s g 2) (gd s g 3) (Int32.ofNat k) z Q := by
    intro k z y hk p1 p2 p3 p4 p5
    have hk2 : TI (Int32.ofNat k) k := on_ti (by omega)
    refine backX10 ha hg (s := s) (x := gd s g) (y := y) p4 p3 _ fun m5 q1 q2 => ?_
    have f5 : FrM m m5 := by
      refine ⟨fun q x1 x2 x3 => ?_, fun j j1 j2 j3 => ?_⟩
      · by_cases e : q = 77
        · subst e; rw [q2, PUT_self, hs]
        · rw [q1 q e, p1 q x1 e x2 x3]
      · rw [q1 76 (by decide), p2 j j1 j2]
    have hh := h m5 f5
    rw [← p5] at hh
    refine ⟨fun d => ?_, fun d => ?_⟩
    · rw [Int32.lt_iff_toInt_lt, show (Int32.ofNat k).toInt = k from hk2] at d
      simp only [Int32.reduceToInt] at d
      rw [if_pos (by omega)] at hh; exact hh
    · rw [Int32.lt_iff_toInt_lt, show (Int32.ofNat k).toInt = k from hk2] at d
      simp only [Int32.reduceToInt] at d
      rw [if_neg (by omega)] at hh; exact hh
  unfold B_X10_overBy_26
  rw [ht]
  refine LOOP_up 101 (fun k z => z.1 = Int32.ofNat k ∧ (∀ q, q ≠ 76 → q ≠ 77 → q ≠ 81 → q ≠ 82 → z.2 q = m q) ∧ (∀ j, j ≠ 12 → j ≠ 13 → z.2 76 j = m 76 j) ∧ ∃ y : Nat → Int32, z.2 77 = PUT s g y ∧ X23 (gd s g) y ∧ ovF s t (101 - k) y k = R) ⟨rfl, fun q _ q2 _ _ => i76 q q2, fun j _ _ => by show m2 76 j = _; rw [i76 76 (by decide)], x0, i77, x23, hR⟩ ?_ ?_
  · rintro k ⟨i, z⟩ X hk ⟨e1, e2, e3, y, e4, e5, e6⟩ hX
    dsimp only at e1 e2 e3 e4 hX ⊢
    subst e1
    have hk2 : TI (Int32.ofNat k) k := on_ti (by omega)
    rw [show 101 - k = (100 - k) + 1 by omega] at e6
    unfold ovF at e6
    refine ⟨fun d => absurd d (by rw [Int32.lt_iff_toInt_lt, show (Int32.ofNat k).toInt = k from hk2]; simp only [Int32.reduceToInt]; omega), fun _ => ?_⟩
    refine of10 (j := 2) ha hg rfl (by decide) _ _ ?_
    rw [e4, show PUT s g y (10 + 5 * g + 2) = y 2 from PUT_gd s g y (by decide)]
    refine ⟨fun c => ?_, fun c => ?_⟩
    · rw [if_pos c] at e6
      exact fin k z y (by omega) e2 e3 e4 e5 (by rw [if_neg (by omega)]; exact e6)
    · rw [if_neg c] at e6
      refine goX10 ha hg hw e4 _ fun m' g1 g2 g3 _ => ?_
      rintro v8 rfl
      exact hX _ ⟨on_1 k, fun q q1 q2 q3 q4 => (g1 q q1 q2 q3 q4).trans (e2 q q1 q2 q3 q4), fun j j1 j2 => (g2 j j1 j2).trans (e3 j j1 j2), stp s y, g3, e5.stp, by rw [show 101 - (k + 1) = 100 - k by omega]; exact e6⟩
  · rintro ⟨i, z⟩ X ⟨e1, e2, e3, y, e4, e5, e6⟩
    dsimp only at e1 e2 e3 e4 ⊢
    subst e1
    exact ⟨fun _ => fin 101 z y (Nat.le_refl _) e2 e3 e4 e5 (by rw [if_pos (by decide)]; exact e6), fun d => absurd (by decide) d⟩
theorem rowX {n : Nat} {mem : MMt} (h : Inv n mem) {g : Nat} (hg : (g : Int) < (mem 77 6).toInt) : ∀ j, j < 5 → mem (3 + g) j = gd (mem 77) g j := fun j hj => h.row hg hj
theorem m1_lt {r : Int32} (h : r = -1 ∨ (0 ≤ r.toInt ∧ r.toInt ≤ 200)) : (r < 0 ↔ r = -1) ∧ (0 ≤ r ↔ ¬ r = -1) := by
  simp only [Int32.lt_iff_toInt_lt, Int32.le_iff_toInt_le, eq_ti, Int32.reduceToInt] at h ⊢
  omega
theorem k_rests {n : Nat} {a b : Int32} {mem : MMt} (h : Inv n mem) : L_X9_rests a b mem (fun r m => L_X10_rests a b m (fun r' m' => r = r' ∧ Inv n m')) := by
  by_cases c1 : 0 ≤ a.toInt ∧ a.toInt < (mem 77 6).toInt
  · obtain ⟨g, hg⟩ : ∃ g : Nat, a.toInt = g := ⟨a.toInt.toNat, by omega⟩
    have hgn : (g : Int) < (mem 77 6).toInt := by omega
    have e2 := h.n9.2
    have hg8 : g < 8 := by omega
    by_cases c2 : 0 ≤ b.toInt ∧ b.toInt ≤ 1
    · simp only [L_X9_rests, h.i9 a, within_sp, Int32.reduceToInt, if_pos c1, if_pos c2, e10, not_false_eq_true, not_true_eq_false, false_implies, forall_const, true_and, and_true, eq_self, imp_self, true_implies, tn_of hg, row3]
      refine ⟨vp_of hg hg8, ?_⟩
      refine rests9 (s := mem 77) (by omega) (rowX h hgn) (h.gw hgn) h.th _ fun m1 f1 x1 => ?_
      obtain ⟨h1, e77⟩ := Inv_frC h f1
      have rg := m1_lt (rsF_rg (s := mem 77) 201 (gd (mem 77) g) 0 (by omega))
      have M : ∀ (m : MMt) Q, m 77 = mem 77 → (∀ m' : MMt, FrM m m' → m' 76 15 = (rsF (mem 77) 201 (gd (mem 77) g) 0).2 → ((0 ≤ (rsF (mem 77) 201 (gd (mem 77) g) 0).1 → ((¬ b = 0 → Q (m' 76 15) m') ∧ (b = 0 → Q (rsF (mem 77) 201 (gd (mem 77) g) 0).1 m'))) ∧ (¬ 0 ≤ (rsF (mem 77) 201 (gd (mem 77) g) 0).1 → L_X10_error (2 : Int32) m' Q))) → L_X10_rests a b m Q := by
        intro m Q hm hk
        simp only [L_X10_rests, h.i10 a (m := m) (by rw [hm]), isIn_sp, Int64.reduceToInt, if_pos c1, if_pos c2, e10, not_false_eq_true, not_true_eq_false, false_implies, forall_const, true_and, and_true, eq_self, imp_self, true_implies]
        refine restOf10 hg hg8 (by rw [hm]; exact h.wl) _ fun m' k1 k2 => ?_
        rw [hm] at k2 ⊢
        exact hk m' k1 k2
      refine ⟨fun d => ⟨fun e => ?_, fun e => ?_⟩, fun d => ?_⟩
      · refine M m1 _ e77 fun m' k1 k2 => ⟨fun _ => ⟨fun _ => ⟨by rw [x1, k2], (Inv_frM h1 k1).1⟩, fun z => absurd z e⟩, fun z => absurd d z⟩
      · refine M m1 _ e77 fun m' k1 k2 => ⟨fun _ => ⟨fun z => absurd e z, fun _ => ⟨rfl, (Inv_frM h1 k1).1⟩⟩, fun z => absurd d z⟩
      · rw [err9 (by decide)]
        refine M _ _ (by rw [up2_ro _ _ _ _ _ (by decide), e77]) fun m' k1 k2 => ⟨fun z => absurd z d, fun _ => ?_⟩
        rw [err10 (by decide)]
        refine ⟨rfl, ?_⟩
        have hm' : Inv n (up2 (up2 m1 67 2 (m1 67 2 + 1)) 79 2 (m1 79 2 + 1)) := Inv_err h1 (k := 2) (fun q q1 q2 => by rw [up2_ro _ _ _ _ _ q2, up2_ro _ _ _ _ _ q1]) (by rw [up2_ro _ _ _ _ _ (by decide), up2_row]) (by rw [up2_row, up2_ro _ _ _ _ _ (by decide)]) (by decide)
        refine (Inv_frM hm' (m' := _) ⟨fun q q1 q2 q3 => ?_, fun j j1 j2 j3 => ?_⟩).1
        · by_cases e : q = 79
          · subst e
            rw [up2_row, up2_row, k1.1 79 (by decide) (by decide) (by decide), up2_ro _ _ _ _ _ (by decide)]; rfl
          · rw [up2_ro _ _ _ _ _ e, k1.1 q q1 q2 q3, up2_ro _ _ _ _ _ e]; rfl
        · rw [up2_ro _ _ _ _ _ (by decide), k1.2 j j1 j2 j3, up2_ro _ _ _ _ _ (by decide)]; rfl
    · simp only [L_X9_rests, h.i9 a, within_sp, Int32.reduceToInt, if_pos c1, if_neg c2, e10, not_false_eq_true, not_true_eq_false, false_implies, forall_const, true_and, and_true, eq_self, imp_self, true_implies]
      refine err_end h (by decide) (R := fun Q m => L_X10_rests a b m Q) fun m Q hm he => ?_
      simp only [L_X10_rests, h.i10 a (m := m) (by rw [hm 77 (by decide)]), isIn_sp, Int64.reduceToInt, if_pos c1, if_neg c2, e10, not_false_eq_true, not_true_eq_false, false_implies, forall_const, true_and, and_true, eq_self, imp_self, true_implies]
      exact he
  · simp only [L_X9_rests, h.i9 a, if_neg c1, e10, not_false_eq_true, not_true_eq_false, false_implies, forall_const, true_and, and_true, eq_self, imp_self, true_implies]
    refine err_end h (by decide) (R := fun Q m => L_X10_rests a b m Q) fun m Q hm he => ?_
    simp only [L_X10_rests, h.i10 a (m := m) (by rw [hm 77 (by decide)]), if_neg c1, e10, not_false_eq_true, not_true_eq_false, false_implies, forall_const, true_and, and_true, eq_self, imp_self, true_implies]
    exact he
