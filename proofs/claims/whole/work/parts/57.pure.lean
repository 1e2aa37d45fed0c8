theorem err_mid {n : Nat} {m1 : MMt} (h1 : Inv n m1) {k : Int32} (hk : 0 ≤ k.toInt ∧ k.toInt < 6) {R : (Int32 → MMt → Prop) → MMt → Prop}
    (hR : ∀ (m : MMt) (Q : Int32 → MMt → Prop), (∀ a, a ≠ 67 → m a = m1 a) → (∀ m' : MMt, FrM m m' → L_X10_error k m' Q) → R Q m) : L_X9_error k m1 (fun r m => R (fun r' m' => r = r' ∧ Inv n m') m) := by
  rw [err9 hk]
  refine hR _ _ (fun a ha => up2_ro _ _ _ _ _ ha) fun m' k1 => ?_
  rw [err10 hk]
  refine ⟨rfl, ?_⟩
  have kk : k.toNatClampNeg < 6 := by rw [tn_ti]; omega
  generalize k.toNatClampNeg = kn at kk k1 ⊢
  have hm' : Inv n (up2 (up2 m1 67 kn (m1 67 kn + 1)) 79 kn (m1 79 kn + 1)) := Inv_err h1 (k := kn) (fun q q1 q2 => by rw [up2_ro _ _ _ _ _ q2, up2_ro _ _ _ _ _ q1]) (by rw [up2_ro _ _ _ _ _ (by decide), up2_row]) (by rw [up2_row, up2_ro _ _ _ _ _ (by decide)]) kk
  refine (Inv_frM hm' (m' := _) ⟨fun q q1 q2 q3 => ?_, fun j j1 j2 j3 => ?_⟩).1
  · by_cases e : q = 79
    · subst e
      rw [up2_row, up2_row, k1.1 79 (by decide) (by decide) (by decide), up2_ro _ _ _ _ _ (by decide)]
    · rw [up2_ro _ _ _ _ _ e, k1.1 q q1 q2 q3, up2_ro _ _ _ _ _ e]
  · rw [up2_ro _ _ _ _ _ (by decide), k1.2 j j1 j2 j3, up2_ro _ _ _ _ _ (by decide)]; rfl
theorem FrM.rf (m : MMt) : FrM m m := ⟨fun _ _ _ _ => rfl, fun _ _ _ _ => rfl⟩
/-- FIRST among the first k goods: which, behind how many STEPS -/
def fsF (s : Nat → Int32) : Nat → Int32 × Int32
  | 0 => (-1, 201)
  | k + 1 => if (rsF s 201 (gd s k) 0).1 = -1 ∨ (fsF s k).2 ≤ (rsF s 201 (gd s k) 0).1 ∨ ¬ (16 ≤ (rsF s 201 (gd s k) 0).2.toInt ∧ (rsF s 201 (gd s k) 0).2.toInt ≤ 24) then fsF s k else (Int32.ofNat k, (rsF s 201 (gd s k) 0).1)
theorem fsF_rg (s : Nat → Int32) : ∀ k, k ≤ 8 → ((fsF s k).1 = -1 ∧ (fsF s k).2 = 201) ∨ (0 ≤ (fsF s k).1.toInt ∧ (fsF s k).1.toInt < 8)
  | 0, _ => Or.inl ⟨rfl, rfl⟩
  | k + 1, hk => by
    unfold fsF
    split
    · exact fsF_rg s k (by omega)
    · have e : TI (Int32.ofNat k) k := on_ti (by omega)
      right
      show 0 ≤ (Int32.ofNat k).toInt ∧ (Int32.ofNat k).toInt < 8
      rw [show (Int32.ofNat k).toInt = k from e]; omega
theorem f1_lt {x : Int32} (h : x = -1 ∨ (0 ≤ x.toInt ∧ x.toInt < 8)) : (x < 0 ↔ x = -1) ∧ (0 ≤ x ↔ ¬ x = -1) := by
  simp only [Int32.lt_iff_toInt_lt, Int32.le_iff_toInt_le, eq_ti, Int32.reduceToInt] at h ⊢
  omega
theorem k_first {n : Nat} {mem : MMt} (h : Inv n mem) : L_X9_first mem (fun r m => L_X10_first m (fun r' m' => r = r' ∧ Inv n m')) := by
  have e2 := h.n9.2
  obtain ⟨N, hN⟩ : ∃ N : Nat, (mem 77 6).toInt = N := ⟨(mem 77 6).toInt.toNat, by omega⟩
  have M : ∀ (m : MMt) Q, m 77 = mem 77 → (∀ m' : MMt, FrM m m' → ((¬ (fsF (mem 77) N).1 = -1 → Q (fsF (mem 77) N).1 m') ∧ ((fsF (mem 77) N).1 = -1 → L_X10_error (2 : Int32) m' Q))) → L_X10_first m Q := by
    intro m Q hm hk
    unfold L_X10_first B_X10_first_6
    refine LOOP_up N (fun k z => z.1 = (fsF (mem 77) k).1 ∧ (z.1 = -1 ∨ z.2.1 = (fsF (mem 77) k).2) ∧ z.2.2.1 = Int32.ofNat k ∧ FrM m z.2.2.2) ⟨rfl, Or.inl rfl, rfl, FrM.rf m⟩ ?_ ?_
    · rintro k ⟨x1, x2, x3, z⟩ X hk2 ⟨p1, p2, p3, p4⟩ hX
      dsimp only at p1 p2 p3 p4 hX ⊢
      subst p3
      have hki : TI (Int32.ofNat k) k := on_ti (by omega)
      have z77 : z 77 = mem 77 := by rw [p4.1 77 (by decide) (by decide) (by decide), hm]
      rw [z77]
      refine ⟨fun d => absurd d (nle_of hN hki hk2), fun _ => ?_⟩
      refine restOf10 hki (by omega) (by rw [z77]; exact h.wl) _ fun m' q1 q2 => ?_
      rw [z77] at q2 ⊢
      have rg := m1_lt (rsF_rg (s := mem 77) 201 (gd (mem 77) k) 0 (by omega))
      have fg := fsF_rg (mem 77) k (by omega)
      have fx := f1_lt (x := x1) (by rw [p1]; exact fg.elim (fun z => Or.inl z.1) Or.inr)
      have stay : ((rsF (mem 77) 201 (gd (mem 77) k) 0).1 = -1 ∨ (fsF (mem 77) k).2 ≤ (rsF (mem 77) 201 (gd (mem 77) k) 0).1 ∨ ¬ (16 ≤ (rsF (mem 77) 201 (gd (mem 77) k) 0).2.toInt ∧ (rsF (mem 77) 201 (gd (mem 77) k) 0).2.toInt ≤ 24)) → ∀ v : Int32, v = Int32.ofNat k + 1 → X (x1, x2, v, m') := by
        rintro hc v rfl
        have e : fsF (mem 77) (k + 1) = fsF (mem 77) k := if_pos hc
        exact hX _ ⟨by rw [e]; exact p1, by rw [e]; exact p2, on_1 k, p4.tr q1⟩
      have take : ¬ ((rsF (mem 77) 201 (gd (mem 77) k) 0).1 = -1 ∨ (fsF (mem 77) k).2 ≤ (rsF (mem 77) 201 (gd (mem 77) k) 0).1 ∨ ¬ (16 ≤ (rsF (mem 77) 201 (gd (mem 77) k) 0).2.toInt ∧ (rsF (mem 77) 201 (gd (mem 77) k) 0).2.toInt ≤ 24)) → B_X10_first_56 X (Int32.ofNat k) (rsF (mem 77) 201 (gd (mem 77) k) 0).1 m' Q := by
        rintro hc v rfl
        have e : fsF (mem 77) (k + 1) = (Int32.ofNat k, (rsF (mem 77) 201 (gd (mem 77) k) 0).1) := if_neg hc
        exact hX _ ⟨by rw [e], Or.inr (by rw [e]), on_1 k, p4.tr q1⟩
      refine ⟨fun c => stay (Or.inl (rg.1.mp c)), fun c => ?_⟩
      have c' : ¬ (rsF (mem 77) 201 (gd (mem 77) k) 0).1 = -1 := fun e => c (rg.1.mpr e)
      rw [isIn_sp, q2]
      simp only [Int64.reduceToInt]
      by_cases cm : 16 ≤ (rsF (mem 77) 201 (gd (mem 77) k) 0).2.toInt ∧ (rsF (mem 77) 201 (gd (mem 77) k) 0).2.toInt ≤ 24
      · rw [if_pos cm]
        refine ⟨fun d => absurd d (by decide), fun _ => ⟨fun d => take ?_, fun d => ⟨fun e => stay (Or.inr (Or.inl ?_)), fun e => take ?_⟩⟩⟩
        · rintro (z | z | z)
          · exact c' z
          · have x1m := fx.1.mp d
            rw [p1] at x1m
            have f201 : (fsF (mem 77) k).2 = 201 := by
              rcases fg with q | q
              · exact q.2
              · rw [x1m] at q; exact absurd q.1 (by decide)
            have rr := (rsF_rg (s := mem 77) 201 (gd (mem 77) k) 0 (by omega)).resolve_left c'
            rw [f201, Int32.le_iff_toInt_le] at z
            simp only [Int32.reduceToInt] at z; omega
          · exact z cm
        · have : ¬ x1 = -1 := fun z => d (fx.1.mpr z)
          rw [← p2.resolve_left this]; exact e
        · have : ¬ x1 = -1 := fun z => d (fx.1.mpr z)
          rintro (z | z | z)
          · exact c' z
          · rw [← p2.resolve_left this] at z; exact e z
          · exact z cm
      · rw [if_neg cm]
        exact ⟨fun _ => stay (Or.inr (Or.inr cm)), fun d => absurd trivial d⟩
    · rintro ⟨x1, x2, x3, z⟩ X ⟨p1, p2, p3, p4⟩
      dsimp only at p1 p2 p3 p4 ⊢
      subst p3
      have z77 : z 77 = mem 77 := by rw [p4.1 77 (by decide) (by decide) (by decide), hm]
      have fg := fsF_rg (mem 77) N (by omega)
      have fx := f1_lt (x := x1) (by rw [p1]; exact fg.elim (fun z => Or.inl z.1) Or.inr)
      obtain ⟨h1, h2⟩ := hk z p4
      rw [← p1] at h1 h2
      rw [z77]
      exact ⟨fun _ => ⟨fun d => h1 (fx.2.mp d), fun d => h2 (Classical.byContradiction fun e => d (fx.2.mpr e))⟩, fun d => absurd (le_of hN (on_ti (by omega) : (Int32.ofNat N).toInt = N) (Nat.le_refl _)) d⟩
  unfold L_X9_first B_X9_first_8
  refine LOOP_up N (fun k z => (z.1, z.2.1) = fsF (mem 77) k ∧ z.2.2.1 = Int32.ofNat k ∧ FrC (mem 77) mem z.2.2.2) ⟨rfl, rfl, fun _ _ _ _ => rfl, h.mem⟩ ?_ ?_
  · rintro k ⟨x1, x2, x3, z⟩ X hk2 ⟨p1, p3, p4⟩ hX
    dsimp only at p1 p3 p4 hX ⊢
    subst p3
    have hki : TI (Int32.ofNat k) k := on_ti (by omega)
    obtain ⟨hz, z77⟩ := Inv_frC h p4
    have hkn : (k : Int) < (z 77 6).toInt := by rw [z77]; omega
    rw [hz.n9.1, z77, hki.tn, row3]
    refine ⟨fun d => absurd d (nle_of hN hki hk2), fun _ => ⟨hki.vp (by omega), ?_⟩⟩
    have rx : ∀ j, j < 5 → z (3 + k) j = gd (mem 77) k j := fun j hj => by rw [← z77]; exact rowX hz hkn j hj
    have th : TH (mem 77) z := by rw [← z77]; exact hz.th
    refine rests9 (s := mem 77) (by omega) rx (h.gw (by omega)) th _ fun m' q1 q2 => ?_
    have rg := m1_lt (rsF_rg (s := mem 77) 201 (gd (mem 77) k) 0 (by omega))
    have px1 : x1 = (fsF (mem 77) k).1 := by rw [← p1]
    have px2 : x2 = (fsF (mem 77) k).2 := by rw [← p1]
    have stay : ((rsF (mem 77) 201 (gd (mem 77) k) 0).1 = -1 ∨ (fsF (mem 77) k).2 ≤ (rsF (mem 77) 201 (gd (mem 77) k) 0).1 ∨ ¬ (16 ≤ (rsF (mem 77) 201 (gd (mem 77) k) 0).2.toInt ∧ (rsF (mem 77) 201 (gd (mem 77) k) 0).2.toInt ≤ 24)) → ∀ v : Int32, v = Int32.ofNat k + 1 → X (x1, x2, v, m') := by
      rintro hc v rfl
      have e : fsF (mem 77) (k + 1) = fsF (mem 77) k := if_pos hc
      exact hX _ ⟨by rw [e]; exact p1, on_1 k, p4.tr q1⟩
    refine ⟨fun c => stay (Or.inl (rg.1.mp c)), fun c => ⟨fun d => stay (Or.inr (Or.inl (by rw [← px2]; exact d))), fun d => ?_⟩⟩
    have c' : ¬ (rsF (mem 77) 201 (gd (mem 77) k) 0).1 = -1 := fun e => c (rg.1.mpr e)
    unfold L_X9_isMiddle
    rw [within_sp, q2]
    simp only [Int32.reduceToInt]
    by_cases cm : 16 ≤ (rsF (mem 77) 201 (gd (mem 77) k) 0).2.toInt ∧ (rsF (mem 77) 201 (gd (mem 77) k) 0).2.toInt ≤ 24
    · rw [if_pos cm]
      refine ⟨fun d => absurd d (by decide), fun _ => ?_⟩
      rintro v rfl
      have hc : ¬ ((rsF (mem 77) 201 (gd (mem 77) k) 0).1 = -1 ∨ (fsF (mem 77) k).2 ≤ (rsF (mem 77) 201 (gd (mem 77) k) 0).1 ∨ ¬ (16 ≤ (rsF (mem 77) 201 (gd (mem 77) k) 0).2.toInt ∧ (rsF (mem 77) 201 (gd (mem 77) k) 0).2.toInt ≤ 24)) := by
        rintro (z | z | z)
        · exact c' z
        · rw [← px2] at z; exact d z
        · exact z cm
      have e : fsF (mem 77) (k + 1) = (Int32.ofNat k, (rsF (mem 77) 201 (gd (mem 77) k) 0).1) := if_neg hc
      exact hX _ ⟨by rw [e], on_1 k, p4.tr q1⟩
    · rw [if_neg cm]
      exact ⟨fun _ => stay (Or.inr (Or.inr cm)), fun d => absurd trivial d⟩
  · rintro ⟨x1, x2, x3, z⟩ X ⟨p1, p3, p4⟩
    dsimp only at p1 p3 p4 ⊢
    subst p3
    obtain ⟨hz, z77⟩ := Inv_frC h p4
    have px1 : x1 = (fsF (mem 77) N).1 := by rw [← p1]
    have fg := fsF_rg (mem 77) N (by omega)
    have fx := f1_lt (x := x1) (by rw [px1]; exact fg.elim (fun z => Or.inl z.1) Or.inr)
    rw [hz.n9.1, z77]
    refine ⟨fun _ => ⟨fun d => ?_, fun d => ?_⟩, fun d => absurd (le_of hN (on_ti (by omega) : (Int32.ofNat N).toInt = N) (Nat.le_refl _)) d⟩
    · have nm := fx.2.mp d
      rw [px1] at nm
      refine M z _ z77 fun m' k1 => ⟨fun _ => ⟨px1, (Inv_frM hz k1).1⟩, fun e => absurd e nm⟩
    · have nm : (fsF (mem 77) N).1 = -1 := by
        rw [← px1]; exact Classical.byContradiction fun e => d (fx.2.mpr e)
      refine err_mid hz (by decide) (R := fun Q m => L_X10_first m Q) fun m Q hm he => ?_
      exact M m Q (by rw [hm 77 (by decide), z77]) fun m' k1 => ⟨fun e => absurd nm e, fun _ => he m' k1⟩
theorem side40 {b : Int32} (h : 0 ≤ b.toInt ∧ b.toInt ≤ 1) : b * 40 = 40 * b := Int32.mul_comm _ _
theorem isSide9 (a : Int32) (mem : MMt) (Q : Int32 → MMt → Prop) : L_X9_isSide a mem Q ↔ if 0 ≤ a.toInt ∧ a.toInt ≤ 1 then Q 1 mem else Q 0 mem := by
  unfold L_X9_isSide; rw [within_sp]; simp only [Int32.reduceToInt]
theorem isSide10 (a : Int32) (mem : MMt) (Q : Int32 → MMt → Prop) : L_X10_isSide a mem Q ↔ if 0 ≤ a.toInt ∧ a.toInt ≤ 1 then Q 1 mem else Q 0 mem := by
  unfold L_X10_isSide; rw [isIn_sp]; simp only [Int64.reduceToInt]
theorem o1_lt {r : Int32} (h : r = -1 ∨ (0 ≤ r.toInt ∧ r.toInt ≤ 100)) : (r < 0 ↔ r = -1) ∧ (0 ≤ r ↔ ¬ r = -1) := m1_lt (h.elim Or.inl fun z => Or.inr ⟨z.1, by omega⟩)
theorem k_over {n : Nat} {a b c : Int32} {mem : MMt} (h : Inv n mem) : L_X9_over a b c mem (fun r m => L_X10_over a b c m (fun r' m' => r = r' ∧ Inv n m')) := by
  by_cases c1 : 0 ≤ a.toInt ∧ a.toInt < (mem 77 6).toInt
  · obtain ⟨g, hg⟩ : ∃ g : Nat, a.toInt = g := ⟨a.toInt.toNat, by omega⟩
    have hgn : (g : Int) < (mem 77 6).toInt := by omega
    have e2 := h.n9.2
    have hg8 : g < 8 := by omega
    by_cases c2 : 0 ≤ b.toInt ∧ b.toInt ≤ 1
    · by_cases c3 : -9 ≤ c.toInt ∧ c.toInt ≤ 9
      · simp only [L_X9_over, h.i9 a, isSide9, isPush9, if_pos c1, if_pos c2, if_pos c3, e10, not_false_eq_true, not_true_eq_false, false_implies, forall_const, true_and, and_true, eq_self, imp_self, true_implies, tn_of hg, row3]
        refine ⟨vp_of hg hg8, ?_⟩
        refine over9 (s := mem 77) (by omega) (rowX h hgn) (h.gw hgn) h.th b c (40 * b) (side40 c2) _ fun m1 f1 => ?_
        obtain ⟨h1, e77⟩ := Inv_frC h f1
        have rg := o1_lt (ovF_rg (s := mem 77) (t := 40 * b) 101 (phd (gd (mem 77) g) c) 0 (by omega))
        have M : ∀ (m : MMt) Q, m 77 = mem 77 → (∀ m' : MMt, FrM m m' → ((0 ≤ ovF (mem 77) (40 * b) 101 (phd (gd (mem 77) g) c) 0 → Q (ovF (mem 77) (40 * b) 101 (phd (gd (mem 77) g) c) 0) m') ∧ (¬ 0 ≤ ovF (mem 77) (40 * b) 101 (phd (gd (mem 77) g) c) 0 → L_X10_error (2 : Int32) m' Q))) → L_X10_over a b c m Q := by
          intro m Q hm hk
          simp only [L_X10_over, h.i10 a (m := m) (by rw [hm]), isSide10, isPush10, if_pos c1, if_pos c2, if_pos c3, e10, not_false_eq_true, not_true_eq_false, false_implies, forall_const, true_and, and_true, eq_self, imp_self, true_implies]
          refine overBy10 hg hg8 (by rw [hm]; exact h.wl) b c (40 * b) rfl _ fun m' k1 => ?_
          rw [hm]
          exact hk m' k1
        refine ⟨fun d => M m1 _ e77 fun m' k1 => ⟨fun _ => ⟨rfl, (Inv_frM h1 k1).1⟩, fun z => absurd d z⟩, fun d => ?_⟩
        refine err_mid h1 (by decide) (R := fun Q m => L_X10_over a b c m Q) fun m Q hm he => ?_
        exact M m Q (by rw [hm 77 (by decide), e77]) fun m' k1 => ⟨fun z => absurd z d, fun _ => he m' k1⟩
      · simp only [L_X9_over, h.i9 a, isSide9, isPush9, if_pos c1, if_pos c2, if_neg c3, e10, not_false_eq_true, not_true_eq_false, false_implies, forall_const, true_and, and_true, eq_self, imp_self, true_implies]
        refine err_end h (by decide) (R := fun Q m => L_X10_over a b c m Q) fun m Q hm he => ?_
        simp only [L_X10_over, h.i10 a (m := m) (by rw [hm 77 (by decide)]), isSide10, isPush10, if_pos c1, if_pos c2, if_neg c3, e10, not_false_eq_true, not_true_eq_false, false_implies, forall_const, true_and, and_true, eq_self, imp_self, true_implies]
        exact he
    · simp only [L_X9_over, h.i9 a, isSide9, if_pos c1, if_neg c2, e10, not_false_eq_true, not_true_eq_false, false_implies, forall_const, true_and, and_true, eq_self, imp_self, true_implies]
      refine err_end h (by decide) (R := fun Q m => L_X10_over a b c m Q) fun m Q hm he => ?_
      simp only [L_X10_over, h.i10 a (m := m) (by rw [hm 77 (by decide)]), isSide10, if_pos c1, if_neg c2, e10, not_false_eq_true, not_true_eq_false, false_implies, forall_const, true_and, and_true, eq_self, imp_self, true_implies]
      exact he
  · simp only [L_X9_over, h.i9 a, if_neg c1, e10, not_false_eq_true, not_true_eq_false, false_implies, forall_const, true_and, and_true, eq_self, imp_self, true_implies]
    refine err_end h (by decide) (R := fun Q m => L_X10_over a b c m Q) fun m Q hm he => ?_
    simp only [L_X10_over, h.i10 a (m := m) (by rw [hm 77 (by decide)]), if_neg c1, e10, not_false_eq_true, not_true_eq_false, false_implies, forall_const, true_and, and_true, eq_self, imp_self, true_implies]
    exact he
/-- OVER by the i-th PUSH by size -/
def ovI (s : Nat → Int32) (t : Int32) (x : Nat → Int32) (i : Nat) : Int32 := ovF s t 101 (phd x (psz (Int32.ofNat i))) 0
/-- SOONEST of the first k PUSHES: p, behind how many STEPS -/
def snF (s : Nat → Int32) (t : Int32) (x : Nat → Int32) : Nat → Int32 × Int32
  | 0 => (0, -1)
  | k + 1 => if ovI s t x k = -1 ∨ (¬ (snF s t x k).2 = -1 ∧ (snF s t x k).2 ≤ ovI s t x k) then snF s t x k else (psz (Int32.ofNat k), ovI s t x k)
theorem ovI_rg (s : Nat → Int32) (t : Int32) (x : Nat → Int32) (i : Nat) : ovI s t x i = -1 ∨ (0 ≤ (ovI s t x i).toInt ∧ (ovI s t x i).toInt ≤ 100) := ovF_rg 101 _ 0 (by omega)
theorem snF_rg (s : Nat → Int32) (t : Int32) (x : Nat → Int32) : ∀ k, (snF s t x k).2 = -1 ∨ (0 ≤ (snF s t x k).2.toInt ∧ (snF s t x k).2.toInt ≤ 100)
  | 0 => Or.inl rfl
  | k + 1 => by
    unfold snF
    split
    · exact snF_rg s t x k
    · exact ovI_rg s t x k
theorem le18 {k : Nat} (h : k < 19) : ¬ (18 : Int32) < Int32.ofNat k ∧ ¬ (19 : Int32) ≤ Int32.ofNat k := by
  have e : (Int32.ofNat k).toInt = k := on_ti (by omega)
  rw [Int32.lt_iff_toInt_lt, Int32.le_iff_toInt_le, e]
  simp only [Int32.reduceToInt]; omega
theorem snM {n : Nat} {a b c : Int32} {mem : MMt} (h : Inv n mem) {g : Nat} (hg : a.toInt = g) (hg8 : g < 8) (m : MMt) (Q : Int32 → MMt → Prop) (hm : m 77 = mem 77)
    (hk : ∀ m' : MMt, FrM m m' → ((¬ (snF (mem 77) (40 * b) (gd (mem 77) g) 19).2 = -1 → ((¬ c = 0 → Q (snF (mem 77) (40 * b) (gd (mem 77) g) 19).2 m') ∧ (c = 0 → Q (snF (mem 77) (40 * b) (gd (mem 77) g) 19).1 m'))) ∧ ((snF (mem 77) (40 * b) (gd (mem 77) g) 19).2 = -1 → L_X10_error (2 : Int32) m' Q))) : B_X10_soonest_40 a b c (-1) 0 0 m Q := by
  unfold B_X10_soonest_40
  refine LOOP_up 19 (fun k z => (z.2.1, z.1) = snF (mem 77) (40 * b) (gd (mem 77) g) k ∧ z.2.2.1 = Int32.ofNat k ∧ FrM m z.2.2.2) ⟨rfl, rfl, FrM.rf m⟩ ?_ ?_
  · rintro k ⟨x4, x5, x6, z⟩ X hk2 ⟨p1, p3, p4⟩ hX
    dsimp only at p1 p3 p4 hX ⊢
    subst p3
    have z77 : z 77 = mem 77 := by rw [p4.1 77 (by decide) (by decide) (by decide), hm]
    refine ⟨fun d => absurd d (le18 hk2).2, fun _ => psz10 _ _ _ ?_⟩
    refine overBy10 hg hg8 (by rw [z77]; exact h.wl) b _ (40 * b) rfl _ fun m' k1 => ?_
    rw [z77, show ovF (mem 77) (40 * b) 101 (phd (gd (mem 77) g) (psz (Int32.ofNat k))) 0 = ovI (mem 77) (40 * b) (gd (mem 77) g) k from rfl]
    have rg := o1_lt (ovI_rg (mem 77) (40 * b) (gd (mem 77) g) k)
    have fx := o1_lt (snF_rg (mem 77) (40 * b) (gd (mem 77) g) k)
    have px1 : x4 = (snF (mem 77) (40 * b) (gd (mem 77) g) k).2 := by rw [← p1]
    rw [← px1] at fx
    have stay : (ovI (mem 77) (40 * b) (gd (mem 77) g) k = -1 ∨ (¬ (snF (mem 77) (40 * b) (gd (mem 77) g) k).2 = -1 ∧ (snF (mem 77) (40 * b) (gd (mem 77) g) k).2 ≤ ovI (mem 77) (40 * b) (gd (mem 77) g) k)) → ∀ v : Int32, v = Int32.ofNat k + 1 → X (x4, x5, v, m') := by
      rintro hc v rfl
      have e : snF (mem 77) (40 * b) (gd (mem 77) g) (k + 1) = snF (mem 77) (40 * b) (gd (mem 77) g) k := if_pos hc
      exact hX _ ⟨by rw [e]; exact p1, on_1 k, p4.tr k1⟩
    have take : ¬ (ovI (mem 77) (40 * b) (gd (mem 77) g) k = -1 ∨ (¬ (snF (mem 77) (40 * b) (gd (mem 77) g) k).2 = -1 ∧ (snF (mem 77) (40 * b) (gd (mem 77) g) k).2 ≤ ovI (mem 77) (40 * b) (gd (mem 77) g) k)) → B_X10_soonest_77 X a b c (Int32.ofNat k) (ovI (mem 77) (40 * b) (gd (mem 77) g) k) m' Q := by
      intro hc
      refine psz10 _ _ _ ?_
      rintro v rfl
      have e : snF (mem 77) (40 * b) (gd (mem 77) g) (k + 1) = (psz (Int32.ofNat k), ovI (mem 77) (40 * b) (gd (mem 77) g) k) := if_neg hc
      exact hX _ ⟨by rw [e], on_1 k, p4.tr k1⟩
    refine ⟨fun d => stay (Or.inl (rg.1.mp d)), fun d => ⟨fun e => take ?_, fun e => ⟨fun f => stay (Or.inr ⟨?_, ?_⟩), fun f => take ?_⟩⟩⟩
    · rintro (z | z)
      · exact d (rg.1.mpr z)
      · rw [← px1] at z; exact z.1 (fx.1.mp e)
    · rw [← px1]; exact fun z => e (fx.1.mpr z)
    · rw [← px1]; exact f
    · rintro (z | z)
      · exact d (rg.1.mpr z)
      · rw [← px1] at z; exact f z.2
  · rintro ⟨x4, x5, x6, z⟩ X ⟨p1, p3, p4⟩
    dsimp only at p1 p3 p4 ⊢
    subst p3
    have fx := o1_lt (snF_rg (mem 77) (40 * b) (gd (mem 77) g) 19)
    have px1 : x4 = (snF (mem 77) (40 * b) (gd (mem 77) g) 19).2 := by rw [← p1]
    have px2 : x5 = (snF (mem 77) (40 * b) (gd (mem 77) g) 19).1 := by rw [← p1]
    obtain ⟨h1, h2⟩ := hk z p4
    rw [px1, px2]
    exact ⟨fun _ => ⟨fun d => h1 (fx.2.mp d), fun d => h2 (Classical.byContradiction fun e => d (fx.2.mpr e))⟩, fun d => absurd (by decide) d⟩
theorem k_soonest {n : Nat} {a b c : Int32} {mem : MMt} (h : Inv n mem) : L_X9_soonest a b c mem (fun r m => L_X10_soonest a b c m (fun r' m' => r = r' ∧ Inv n m')) := by
  by_cases c1 : 0 ≤ a.toInt ∧ a.toInt < (mem 77 6).toInt
  · obtain ⟨g, hg⟩ : ∃ g : Nat, a.toInt = g := ⟨a.toInt.toNat, by omega⟩
    have hgn : (g : Int) < (mem 77 6).toInt := by omega
    have e2 := h.n9.2
    have hg8 : g < 8 := by omega
    by_cases c2 : 0 ≤ b.toInt ∧ b.toInt ≤ 1
    · by_cases c3 : 0 ≤ c.toInt ∧ c.toInt ≤ 1
      · simp only [L_X9_soonest, h.i9 a, isSide9, within_sp, Int32.reduceToInt, if_pos c1, if_pos c2, if_pos c3, e10, not_false_eq_true, not_true_eq_false, false_implies, forall_const, true_and, and_true, eq_self, imp_self, true_implies]
        have M : ∀ (m : MMt) Q, m 77 = mem 77 → B_X10_soonest_40 a b c (-1) 0 0 m Q → L_X10_soonest a b c m Q := by
          intro m Q hm hk
          simp only [L_X10_soonest, h.i10 a (m := m) (by rw [hm]), isSide10, isIn_sp, Int64.reduceToInt, if_pos c1, if_pos c2, if_pos c3, e10, not_false_eq_true, not_true_eq_false, false_implies, forall_const, true_and, and_true, eq_self, imp_self, true_implies]
          exact hk
        unfold B_X9_soonest_39
        refine LOOP_up 19 (fun k z => (z.1, z.2.1) = snF (mem 77) (40 * b) (gd (mem 77) g) k ∧ z.2.2.1 = Int32.ofNat k ∧ FrC (mem 77) mem z.2.2.2) ⟨rfl, rfl, fun _ _ _ _ => rfl, h.mem⟩ ?_ ?_
        · rintro k ⟨x4, x5, x6, z⟩ X hk2 ⟨p1, p3, p4⟩ hX
          dsimp only at p1 p3 p4 hX ⊢
          subst p3
          obtain ⟨hz, z77⟩ := Inv_frC h p4
          rw [tn_of hg, row3]
          refine ⟨fun d => absurd d (le18 hk2).1, fun _ => ⟨vp_of hg hg8, psz9 _ _ _ ?_⟩⟩
          have rx : ∀ j, j < 5 → z (3 + g) j = gd (mem 77) g j := fun j hj => by rw [← z77]; exact rowX hz (by rw [z77]; exact hgn) j hj
          have th : TH (mem 77) z := by rw [← z77]; exact hz.th
          refine over9 (s := mem 77) (by omega) rx (h.gw hgn) th b _ (40 * b) (side40 c2) _ fun m' k1 => ?_
          rw [show ovF (mem 77) (40 * b) 101 (phd (gd (mem 77) g) (psz (Int32.ofNat k))) 0 = ovI (mem 77) (40 * b) (gd (mem 77) g) k from rfl]
          have rg := o1_lt (ovI_rg (mem 77) (40 * b) (gd (mem 77) g) k)
          have fx := o1_lt (snF_rg (mem 77) (40 * b) (gd (mem 77) g) k)
          have px1 : x5 = (snF (mem 77) (40 * b) (gd (mem 77) g) k).2 := by rw [← p1]
          rw [← px1] at fx
          have stay : (ovI (mem 77) (40 * b) (gd (mem 77) g) k = -1 ∨ (¬ (snF (mem 77) (40 * b) (gd (mem 77) g) k).2 = -1 ∧ (snF (mem 77) (40 * b) (gd (mem 77) g) k).2 ≤ ovI (mem 77) (40 * b) (gd (mem 77) g) k)) → ∀ v : Int32, v = Int32.ofNat k + 1 → X (x4, x5, v, m') := by
            rintro hc v rfl
            have e : snF (mem 77) (40 * b) (gd (mem 77) g) (k + 1) = snF (mem 77) (40 * b) (gd (mem 77) g) k := if_pos hc
            exact hX _ ⟨by rw [e]; exact p1, on_1 k, p4.tr k1⟩
          have take : ∀ Q', ¬ (ovI (mem 77) (40 * b) (gd (mem 77) g) k = -1 ∨ (¬ (snF (mem 77) (40 * b) (gd (mem 77) g) k).2 = -1 ∧ (snF (mem 77) (40 * b) (gd (mem 77) g) k).2 ≤ ovI (mem 77) (40 * b) (gd (mem 77) g) k)) → B_X9_soonest_87 X a b c (Int32.ofNat k) (ovI (mem 77) (40 * b) (gd (mem 77) g) k) m' Q' := by
            intro Q' hc
            refine psz9 _ _ _ ?_
            rintro v rfl
            have e : snF (mem 77) (40 * b) (gd (mem 77) g) (k + 1) = (psz (Int32.ofNat k), ovI (mem 77) (40 * b) (gd (mem 77) g) k) := if_neg hc
            exact hX _ ⟨by rw [e], on_1 k, p4.tr k1⟩
          refine ⟨fun d => stay (Or.inl (rg.1.mp d)), fun d => ⟨fun e => take _ ?_, fun e => ⟨fun f => stay (Or.inr ⟨?_, ?_⟩), fun f => take _ ?_⟩⟩⟩
          · rintro (z | z)
            · exact d (rg.1.mpr z)
            · rw [← px1] at z; exact z.1 (fx.1.mp e)
          · rw [← px1]; exact fun z => e (fx.1.mpr z)
          · rw [← px1]; exact f
          · rintro (z | z)
            · exact d (rg.1.mpr z)
            · rw [← px1] at z; exact f z.2
        · rintro ⟨x4, x5, x6, z⟩ X ⟨p1, p3, p4⟩
          dsimp only at p1 p3 p4 ⊢
          subst p3
          obtain ⟨hz, z77⟩ := Inv_frC h p4
          have fx := o1_lt (snF_rg (mem 77) (40 * b) (gd (mem 77) g) 19)
          have px1 : x5 = (snF (mem 77) (40 * b) (gd (mem 77) g) 19).2 := by rw [← p1]
          have px2 : x4 = (snF (mem 77) (40 * b) (gd (mem 77) g) 19).1 := by rw [← p1]
          rw [px1, px2]
          refine ⟨fun _ => ⟨fun d => ⟨fun e => ?_, fun e => ?_⟩, fun d => ?_⟩, fun d => absurd (by decide) d⟩
          · exact M z _ z77 (snM h hg hg8 z _ z77 fun m' k1 => ⟨fun _ => ⟨fun _ => ⟨rfl, (Inv_frM hz k1).1⟩, fun q => absurd q e⟩, fun q => absurd q (fx.2.mp d)⟩)
          · exact M z _ z77 (snM h hg hg8 z _ z77 fun m' k1 => ⟨fun _ => ⟨fun q => absurd e q, fun _ => ⟨rfl, (Inv_frM hz k1).1⟩⟩, fun q => absurd q (fx.2.mp d)⟩)
          · refine err_mid hz (by decide) (R := fun Q m => L_X10_soonest a b c m Q) fun m Q hm he => ?_
            exact M m _ (by rw [hm 77 (by decide), z77]) (snM h hg hg8 m _ (by rw [hm 77 (by decide), z77]) fun m' k1 => ⟨fun q => absurd (fx.2.mpr q) d, fun _ => he m' k1⟩)
      · simp only [L_X9_soonest, h.i9 a, isSide9, within_sp, Int32.reduceToInt, if_pos c1, if_pos c2, if_neg c3, e10, not_false_eq_true, not_true_eq_false, false_implies, forall_const, true_and, and_true, eq_self, imp_self, true_implies]
        refine err_end h (by decide) (R := fun Q m => L_X10_soonest a b c m Q) fun m Q hm he => ?_
        simp only [L_X10_soonest, h.i10 a (m := m) (by rw [hm 77 (by decide)]), isSide10, isIn_sp, Int64.reduceToInt, if_pos c1, if_pos c2, if_neg c3, e10, not_false_eq_true, not_true_eq_false, false_implies, forall_const, true_and, and_true, eq_self, imp_self, true_implies]
        exact he
    · simp only [L_X9_soonest, h.i9 a, isSide9, if_pos c1, if_neg c2, e10, not_false_eq_true, not_true_eq_false, false_implies, forall_const, true_and, and_true, eq_self, imp_self, true_implies]
      refine err_end h (by decide) (R := fun Q m => L_X10_soonest a b c m Q) fun m Q hm he => ?_
      simp only [L_X10_soonest, h.i10 a (m := m) (by rw [hm 77 (by decide)]), isSide10, if_pos c1, if_neg c2, e10, not_false_eq_true, not_true_eq_false, false_implies, forall_const, true_and, and_true, eq_self, imp_self, true_implies]
      exact he
  · simp only [L_X9_soonest, h.i9 a, if_neg c1, e10, not_false_eq_true, not_true_eq_false, false_implies, forall_const, true_and, and_true, eq_self, imp_self, true_implies]
    refine err_end h (by decide) (R := fun Q m => L_X10_soonest a b c m Q) fun m Q hm he => ?_
    simp only [L_X10_soonest, h.i10 a (m := m) (by rw [hm 77 (by decide)]), if_neg c1, e10, not_false_eq_true, not_true_eq_false, false_implies, forall_const, true_and, and_true, eq_self, imp_self, true_implies]
    exact he
theorem k_least {n : Nat} {a b : Int32} {mem : MMt} (h : Inv n mem) : L_X9_least a b mem (fun r m => L_X10_least a b m (fun r' m' => r = r' ∧ Inv n m')) := by
  by_cases c1 : 0 ≤ a.toInt ∧ a.toInt < (mem 77 6).toInt
  · obtain ⟨g, hg⟩ : ∃ g : Nat, a.toInt = g := ⟨a.toInt.toNat, by omega⟩
    have hgn : (g : Int) < (mem 77 6).toInt := by omega
    have e2 := h.n9.2
    have hg8 : g < 8 := by omega
    by_cases c2 : 0 ≤ b.toInt ∧ b.toInt ≤ 1
    · simp only [L_X9_least, h.i9 a, isSide9, if_pos c1, if_pos c2, e10, not_false_eq_true, not_true_eq_false, false_implies, forall_const, true_and, and_true, eq_self, imp_self, true_implies]
      have M : ∀ (m : MMt) Q (K : Nat), m 77 = mem 77 → K ≤ 19 → (∀ k, k < K → ovI (mem 77) (40 * b) (gd (mem 77) g) k = -1) → (K < 19 → ¬ ovI (mem 77) (40 * b) (gd (mem 77) g) K = -1) → (∀ m' : MMt, FrM m m' → ((K < 19 → Q (psz (Int32.ofNat K)) m') ∧ (K = 19 → L_X10_error (2 : Int32) m' Q))) → L_X10_least a b m Q := by
        intro m Q K hm hK hlo hat hk
        simp only [L_X10_least, h.i10 a (m := m) (by rw [hm]), isSide10, if_pos c1, if_pos c2, e10, not_false_eq_true, not_true_eq_false, false_implies, forall_const, true_and, and_true, eq_self, imp_self, true_implies]
        unfold B_X10_least_23
        refine LOOP_up K (fun k z => z.1 = Int32.ofNat k ∧ FrM m z.2) ⟨rfl, FrM.rf m⟩ ?_ ?_
        · rintro k ⟨x, z⟩ X hk2 ⟨p3, p4⟩ hX
          dsimp only at p3 p4 hX ⊢
          subst p3
          have z77 : z 77 = mem 77 := by rw [p4.1 77 (by decide) (by decide) (by decide), hm]
          refine ⟨fun d => absurd d (le18 (by omega)).2, fun _ => psz10 _ _ _ ?_⟩
          refine overBy10 hg hg8 (by rw [z77]; exact h.wl) b _ (40 * b) rfl _ fun m' k1 => ?_
          rw [z77, show ovF (mem 77) (40 * b) 101 (phd (gd (mem 77) g) (psz (Int32.ofNat k))) 0 = ovI (mem 77) (40 * b) (gd (mem 77) g) k from rfl, hlo k hk2]
          refine ⟨fun _ => ?_, fun d => absurd (by decide) d⟩
          rintro v rfl
          exact hX _ ⟨on_1 k, p4.tr k1⟩
        · rintro ⟨x, z⟩ X ⟨p3, p4⟩
          dsimp only at p3 p4 ⊢
          subst p3
          have z77 : z 77 = mem 77 := by rw [p4.1 77 (by decide) (by decide) (by decide), hm]
          by_cases e : K = 19
          · subst e
            exact ⟨fun _ => (hk z p4).2 rfl, fun d => absurd (by decide) d⟩
          · refine ⟨fun d => absurd d (le18 (by omega)).2, fun _ => psz10 _ _ _ ?_⟩
            refine overBy10 hg hg8 (by rw [z77]; exact h.wl) b _ (40 * b) rfl _ fun m' k1 => ?_
            rw [z77, show ovF (mem 77) (40 * b) 101 (phd (gd (mem 77) g) (psz (Int32.ofNat K))) 0 = ovI (mem 77) (40 * b) (gd (mem 77) g) K from rfl]
            have rg := o1_lt (ovI_rg (mem 77) (40 * b) (gd (mem 77) g) K)
            exact ⟨fun d => absurd (rg.1.mp d) (hat (by omega)), fun _ => psz10 _ _ _ ((hk m' (p4.tr k1)).1 (by omega))⟩
      unfold B_X9_least_23
      refine LOOP_up 19 (fun k z => (∀ q, q < k → ovI (mem 77) (40 * b) (gd (mem 77) g) q = -1) ∧ z.1 = Int32.ofNat k ∧ FrC (mem 77) mem z.2) ⟨fun q hq => absurd hq (by omega), rfl, fun _ _ _ _ => rfl, h.mem⟩ ?_ ?_
      · rintro k ⟨x, z⟩ X hk2 ⟨p1, p3, p4⟩ hX
        dsimp only at p1 p3 p4 hX ⊢
        subst p3
        obtain ⟨hz, z77⟩ := Inv_frC h p4
        rw [tn_of hg, row3]
        refine ⟨fun d => absurd d (le18 hk2).1, fun _ => ⟨vp_of hg hg8, psz9 _ _ _ ?_⟩⟩
        have rx : ∀ j, j < 5 → z (3 + g) j = gd (mem 77) g j := fun j hj => by rw [← z77]; exact rowX hz (by rw [z77]; exact hgn) j hj
        have th : TH (mem 77) z := by rw [← z77]; exact hz.th
        refine over9 (s := mem 77) (by omega) rx (h.gw hgn) th b _ (40 * b) (side40 c2) _ fun m' k1 => ?_
        rw [show ovF (mem 77) (40 * b) 101 (phd (gd (mem 77) g) (psz (Int32.ofNat k))) 0 = ovI (mem 77) (40 * b) (gd (mem 77) g) k from rfl]
        have rg := o1_lt (ovI_rg (mem 77) (40 * b) (gd (mem 77) g) k)
        obtain ⟨hm', m77⟩ := Inv_frC h (p4.tr k1)
        refine ⟨fun d => ?_, fun d => psz9 _ _ _ ?_⟩
        · rintro v rfl
          exact hX _ ⟨dec3 k p1 (rg.1.mp d), on_1 k, p4.tr k1⟩
        · exact M m' _ k m77 (by omega) p1 (fun _ => fun e => d (rg.1.mpr e)) fun m2 k2 => ⟨fun _ => ⟨rfl, (Inv_frM hm' k2).1⟩, fun e => absurd e (by omega)⟩
      · rintro ⟨x, z⟩ X ⟨p1, p3, p4⟩
        dsimp only at p1 p3 p4 ⊢
        subst p3
        obtain ⟨hz, z77⟩ := Inv_frC h p4
        refine ⟨fun _ => ?_, fun d => absurd (by decide) d⟩
        refine err_mid hz (by decide) (R := fun Q m => L_X10_least a b m Q) fun m Q hm he => ?_
        exact M m Q 19 (by rw [hm 77 (by decide), z77]) (Nat.le_refl _) p1 (fun e => absurd e (by decide)) fun m' k1 => ⟨fun e => absurd e (by decide), fun _ => he m' k1⟩
    · simp only [L_X9_least, h.i9 a, isSide9, if_pos c1, if_neg c2, e10, not_false_eq_true, not_true_eq_false, false_implies, forall_const, true_and, and_true, eq_self, imp_self, true_implies]
      refine err_end h (by decide) (R := fun Q m => L_X10_least a b m Q) fun m Q hm he => ?_
      simp only [L_X10_least, h.i10 a (m := m) (by rw [hm 77 (by decide)]), isSide10, if_pos c1, if_neg c2, e10, not_false_eq_true, not_true_eq_false, false_implies, forall_const, true_and, and_true, eq_self, imp_self, true_implies]
      exact he
  · simp only [L_X9_least, h.i9 a, if_neg c1, e10, not_false_eq_true, not_true_eq_false, false_implies, forall_const, true_and, and_true, eq_self, imp_self, true_implies]
    refine err_end h (by decide) (R := fun Q m => L_X10_least a b m Q) fun m Q hm he => ?_
    simp only [L_X10_least, h.i10 a (m := m) (by rw [hm 77 (by decide)]), if_neg c1, e10, not_false_eq_true, not_true_eq_false, false_implies, forall_const, true_and, and_true, eq_self, imp_self, true_implies]
    exact he
