theorem hasFrom9 {q : Nat} {i n : Int32} {mem : MMt} (hl : 0 ≤ (mem q 1).toInt ∧ (mem q 1).toInt ≤ 40) (Q : Int32 → MMt → Prop)
    (h1 : 0 ≤ i.toInt ∧ 0 ≤ n.toInt ∧ i.toInt + n.toInt ≤ (mem q 1).toInt → Q 1 mem) (h0 : ¬ (0 ≤ i.toInt ∧ 0 ≤ n.toInt ∧ i.toInt + n.toInt ≤ (mem q 1).toInt) → Q 0 mem) : L_X6_hasFrom q i n mem Q := by
  unfold L_X6_hasFrom
  simp only [Int32.lt_iff_toInt_lt, Int32.reduceToInt]
  refine ⟨fun c => h0 (by omega), fun c => ⟨fun d => h0 (by omega), fun d => ⟨fun e => h0 (by omega), fun e => ?_⟩⟩⟩
  have s : (mem q 1 - i).toInt = (mem q 1).toInt - i.toInt := sb_s (by have := rg_ti i; omega)
  rw [s]
  clear s
  exact ⟨fun f => h0 (by omega), fun f => h1 (by omega)⟩
theorem sub_ti {x n : Int32} (hx : 0 ≤ x.toInt ∧ x.toInt ≤ 40) (hn : 0 ≤ n.toInt) : (x - n).toInt = x.toInt - n.toInt := by
  have := rg_ti n
  exact sb_s (by omega)
theorem move115 {a i b j n : Int32} {ka kb I J N : Nat} (ha : a.toInt = ka) (hi : i.toInt = I) (hb : b.toInt = kb) (hj : j.toInt = J) (hn : n.toInt = N) (hka : ka < 4) (hkb : kb < 4) (hI : I + N ≤ 40) (hJ : J + N ≤ 40) {mem : MMt} (Q : Int32 → MMt → Prop)
    (h : ∀ m' : MMt, (∀ q, q ≠ 88 → q ≠ 90 → m' q = mem q) → (∀ x, m' 88 x = if 40 * kb + J ≤ x ∧ x < 40 * kb + J + N then mem 88 (40 * ka + I + (x - (40 * kb + J))) else mem 88 x) → Q n m') : B_X10_move_115 a i b j n 0 mem Q := by
  unfold B_X10_move_115
  refine LOOP_up N (fun k z => z.1 = Int32.ofNat k ∧ (∀ q, q ≠ 90 → z.2 q = mem q) ∧ ∀ x, x < k → z.2 90 x = mem 88 (40 * ka + I + x)) ⟨rfl, fun _ _ => rfl, fun x hx => absurd hx (by omega)⟩ ?_ ?_
  · rintro k ⟨y, m⟩ X hk ⟨e1, e2, e3⟩ hX
    dsimp only at e1 e2 e3 hX ⊢
    subst e1
    have hk2 : TI (Int32.ofNat k) k := on_ti (by omega)
    have eI : TI ((((40 : Int32) * a) + i) + Int32.ofNat k) (40 * ka + I + k) := by
      exact TI.add (TI.add (TI.mul (rfl : TI 40 40) ha (by omega)) hi (by omega)) hk2 (by omega)
    rw [eI.tn, hk2.tn, e2 88 (by decide)]
    refine ⟨fun d => absurd d (nle_of hn hk2 hk), fun _ => ⟨eI.vp (by omega), hk2.vp (by omega), ?_⟩⟩
    rintro m3 hm3 v5 rfl
    refine hX _ ⟨on_1 k, fun q hq => ?_, fun x hx => ?_⟩
    · show m3 q = _
      rw [hm3, up2_ro _ _ _ _ _ hq, e2 q hq]
    · show m3 90 x = _
      rw [hm3, uq]
      by_cases e : x = k
      · rw [if_pos e, e]
      · rw [if_neg e, e3 x (by omega)]
  · rintro ⟨y, m⟩ X ⟨e1, e2, e3⟩
    dsimp only at e1 e2 e3 ⊢
    subst e1
    have hN2 : TI (Int32.ofNat N) N := on_ti (by omega)
    refine ⟨fun _ => ?_, fun d => absurd (le_of hn hN2 (Nat.le_refl _)) d⟩
    unfold B_X10_move_152
    refine LOOP_up N (fun k z => z.1 = Int32.ofNat k ∧ (∀ q, q ≠ 88 → z.2 q = m q) ∧ ∀ x, z.2 88 x = if 40 * kb + J ≤ x ∧ x < 40 * kb + J + k then mem 88 (40 * ka + I + (x - (40 * kb + J))) else mem 88 x) ⟨rfl, fun _ _ => rfl, fun x => by show m 88 x = _; rw [if_neg (by omega), e2 88 (by decide)]⟩ ?_ ?_
    · rintro k ⟨y, m2⟩ X2 hk ⟨f1, f2, f3⟩ hX
      dsimp only at f1 f2 f3 hX ⊢
      subst f1
      have hk2 : TI (Int32.ofNat k) k := on_ti (by omega)
      have eI : TI ((((40 : Int32) * b) + j) + Int32.ofNat k) (40 * kb + J + k) := by
        exact TI.add (TI.add (TI.mul (rfl : TI 40 40) hb (by omega)) hj (by omega)) hk2 (by omega)
      rw [eI.tn, hk2.tn, f2 90 (by decide), e3 k hk]
      refine ⟨fun d => absurd d (nle_of hn hk2 hk), fun _ => ⟨hk2.vp (by omega), eI.vp (by omega), ?_⟩⟩
      rintro m3 hm3 v5 rfl
      refine hX _ ⟨on_1 k, fun q hq => ?_, fun x => ?_⟩
      · show m3 q = _
        rw [hm3, up2_ro _ _ _ _ _ hq, f2 q hq]
      · show m3 88 x = _
        rw [hm3, uq, f3]
        by_cases e : x = 40 * kb + J + k
        · rw [if_pos e, if_pos (by omega), show x - (40 * kb + J) = k by omega]
        · rw [if_neg e]
          by_cases e4 : 40 * kb + J ≤ x ∧ x < 40 * kb + J + k
          · rw [if_pos e4, if_pos (by omega)]
          · rw [if_neg e4, if_neg (by omega)]
    · rintro ⟨y, m2⟩ X2 ⟨f1, f2, f3⟩
      dsimp only at f1 f2 f3 ⊢
      subst f1
      exact ⟨fun _ => h m2 (fun q h1 h2 => (f2 q h1).trans (e2 q h2)) f3, fun d => absurd (le_of hn hN2 (Nat.le_refl _)) d⟩
theorem k_move {n : Nat} {a b c d e : Int32} {mem : MMt} (h : Inv n mem) : L_X9_move a b c d e mem (fun r m => L_X10_move a b c d e m (fun r' m' => r = r' ∧ Inv n m')) := by
  by_cases c1 : 0 ≤ a.toInt ∧ a.toInt ≤ 3
  · by_cases c2 : 0 ≤ c.toInt ∧ c.toInt ≤ 3
    · obtain ⟨ka, hka⟩ : ∃ k : Nat, a.toInt = k := ⟨a.toInt.toNat, by omega⟩
      obtain ⟨kc, hkc⟩ : ∃ k : Nat, c.toInt = k := ⟨c.toInt.toNat, by omega⟩
      have ha4 : ka < 4 := by omega
      have hc4 : kc < 4 := by omega
      obtain ⟨g1, g2, g3, g4, g5⟩ := h.sh ha4
      obtain ⟨f1, f2, f3, f4, f5⟩ := h.sh hc4
      have va := vp_of hka ha4
      have vc := vp_of hkc hc4
      by_cases c3 : mem 86 ka = 0
      · simp only [L_X9_move, isSheet9, if_pos c1, if_pos c2, e10, not_false_eq_true, not_true_eq_false, false_implies, forall_const, true_and, and_true, eq_self, imp_self, true_implies, tn_of hka, tn_of hkc, miss9, g1, f1, if_pos c3, va, vc]
        refine err_end h (by decide) (R := fun Q m => L_X10_move a b c d e m Q) fun m Q hm he => ?_
        simp only [L_X10_move, isSheet10, if_pos c1, if_pos c2, e10, not_false_eq_true, not_true_eq_false, false_implies, forall_const, true_and, and_true, eq_self, imp_self, true_implies, tn_of hka, tn_of hkc, va, vc, hm 86 (by decide), c3]
        exact he
      · by_cases c4 : mem 86 kc = 0
        · simp only [L_X9_move, isSheet9, if_pos c1, if_pos c2, e10, not_false_eq_true, not_true_eq_false, false_implies, forall_const, true_and, and_true, eq_self, imp_self, true_implies, tn_of hka, tn_of hkc, miss9, g1, f1, if_neg c3, if_pos c4, va, vc]
          refine err_end h (by decide) (R := fun Q m => L_X10_move a b c d e m Q) fun m Q hm he => ?_
          simp only [L_X10_move, isSheet10, if_pos c1, if_pos c2, e10, not_false_eq_true, not_true_eq_false, false_implies, forall_const, true_and, and_true, eq_self, imp_self, true_implies, tn_of hka, tn_of hkc, va, vc, hm 86 (by decide), c3, c4]
          exact he
        · by_cases c5 : mem 86 ka = mem 86 kc
          · have M : ∀ (m : MMt) (Q : Int32 → MMt → Prop), m 86 = mem 86 → m 87 = mem 87 →
                (0 ≤ b.toInt ∧ 0 ≤ e.toInt ∧ b.toInt + e.toInt ≤ (mem 87 ka).toInt ∧ 0 ≤ d.toInt ∧ d.toInt + e.toInt ≤ (mem 87 kc).toInt → B_X10_move_115 a b c d e 0 m Q) →
                (¬ (0 ≤ b.toInt ∧ 0 ≤ e.toInt ∧ b.toInt + e.toInt ≤ (mem 87 ka).toInt ∧ 0 ≤ d.toInt ∧ d.toInt + e.toInt ≤ (mem 87 kc).toInt) → L_X10_error 1 m Q) → L_X10_move a b c d e m Q := by
              intro m Q m86 m87 k1 k0
              simp only [L_X10_move, isSheet10, if_pos c1, if_pos c2, e10, not_false_eq_true, not_true_eq_false, false_implies, forall_const, true_and, and_true, eq_self, imp_self, true_implies, tn_of hka, tn_of hkc, va, vc, m86, m87, c3, c4]
              refine ⟨fun _ => ?_, fun q => absurd c5 q⟩
              simp only [Int32.lt_iff_toInt_lt, Int32.le_iff_toInt_le, Int32.reduceToInt]
              refine ⟨fun q => k0 (by omega), fun q => ⟨fun r => k0 (by omega), fun r => ⟨fun s => k0 (by omega), fun s => ?_⟩⟩⟩
              rw [sub_ti g4 (by omega), sub_ti f4 (by omega)]
              exact ⟨fun t => k0 (by omega), fun t => ⟨fun u => k1 (by omega), fun u => k0 (by omega)⟩⟩
            have E : ¬ (0 ≤ b.toInt ∧ 0 ≤ e.toInt ∧ b.toInt + e.toInt ≤ (mem 87 ka).toInt ∧ 0 ≤ d.toInt ∧ d.toInt + e.toInt ≤ (mem 87 kc).toInt) → L_X9_error 1 mem (fun r m => L_X10_move a b c d e m (fun r' m' => r = r' ∧ Inv n m')) := by
              intro hn
              refine err_end h (by decide) (R := fun Q m => L_X10_move a b c d e m Q) fun m Q hm he => ?_
              exact M m Q (hm 86 (by decide)) (hm 87 (by decide)) (fun q => absurd q hn) (fun _ => he)
            simp only [L_X9_move, isSheet9, if_pos c1, if_pos c2, e10, not_false_eq_true, not_true_eq_false, false_implies, forall_const, true_and, and_true, eq_self, imp_self, true_implies, tn_of hka, tn_of hkc, miss9, g1, f1, if_neg c3, if_neg c4, va, vc]
            refine ⟨fun _ => ?_, fun q => absurd c5 q⟩
            refine hasFrom9 (by rw [g3]; exact g4) _ (fun q => ⟨fun r => absurd r (by decide), fun _ => ?_⟩) (fun q => ⟨fun _ => E (by rw [g3] at q; omega), fun r => absurd rfl r⟩)
            rw [g3] at q
            refine hasFrom9 (by rw [f3]; exact f4) _ (fun r => ⟨fun _ => ?_, fun s => absurd s (by decide)⟩) (fun r => ⟨fun s => absurd rfl s, fun _ => E (by rw [f3] at r; omega)⟩)
            rw [f3] at r
            obtain ⟨I, hI⟩ : ∃ k : Nat, b.toInt = k := ⟨b.toInt.toNat, by omega⟩
            obtain ⟨J, hJ⟩ : ∃ k : Nat, d.toInt = k := ⟨d.toInt.toNat, by omega⟩
            obtain ⟨N, hN⟩ : ∃ k : Nat, e.toInt = k := ⟨e.toInt.toNat, by omega⟩
            rw [tn_of hI, tn_of hJ, tn_of hN]
            simp only [Int32.lt_iff_toInt_lt, Int32.reduceToInt]
            refine ⟨⟨by omega, by omega, by omega, by omega, by omega⟩, ?_⟩
            rintro m1 hm1
            have fr : ∀ q, q ≠ 68 + 2 * kc + 1 → m1 q = mem q := fun q hq => by rw [hm1]; funext x; unfold cp2; rw [if_neg hq]
            refine M m1 _ (fr 86 (by omega)) (fr 87 (by omega)) (fun _ => ?_) (fun s => absurd (by omega) s)
            refine move115 hka hI hkc hJ hN ha4 hc4 (by omega) (by omega) _ fun m2 p1 p2 => ⟨rfl, ?_⟩
            have f88 := fr 88 (by omega)
            refine Inv_s h (fun q q1 q2 q3 q4 q5 => by rw [p1 q q4 q5, fr q (by omega)]) ?_
            intro k' hk'
            by_cases ek : k' = kc
            · subst ek
              refine ⟨by rw [p1 _ (by omega) (by omega), p1 86 (by omega) (by omega), fr _ (by omega), fr 86 (by omega)]; exact f1, by rw [p1 86 (by omega) (by omega), fr 86 (by omega)]; exact f2, by rw [p1 _ (by omega) (by omega), p1 87 (by omega) (by omega), fr _ (by omega), fr 87 (by omega)]; exact f3, by rw [p1 87 (by omega) (by omega), fr 87 (by omega)]; exact f4, fun x hx => ?_⟩
              rw [p2, p1 _ (by omega) (by omega), f88, hm1]
              unfold cp2 va_cpy
              rw [if_pos rfl]
              by_cases e4 : J ≤ x ∧ x < J + N
              · rw [if_pos e4, if_pos (by omega), g5 _ (by omega)]
                congr 1; omega
              · rw [if_neg e4, if_neg (by omega), f5 x hx]
            · refine IS1_fr (h.sh hk') (by rw [p1 _ (by omega) (by omega), fr _ (by omega)]) (by rw [p1 _ (by omega) (by omega), fr _ (by omega)]) (by rw [p1 _ (by omega) (by omega), fr _ (by omega)]) (by rw [p1 _ (by omega) (by omega), fr _ (by omega)]) (fun x hx => ?_)
              rw [p2, if_neg (by omega), f88]
          · simp only [L_X9_move, isSheet9, if_pos c1, if_pos c2, e10, not_false_eq_true, not_true_eq_false, false_implies, forall_const, true_and, and_true, eq_self, imp_self, true_implies, tn_of hka, tn_of hkc, miss9, g1, f1, if_neg c3, if_neg c4, va, vc, c5]
            refine err_end h (by decide) (R := fun Q m => L_X10_move a b c d e m Q) fun m Q hm he => ?_
            simp only [L_X10_move, isSheet10, if_pos c1, if_pos c2, e10, not_false_eq_true, not_true_eq_false, false_implies, forall_const, true_and, and_true, eq_self, imp_self, true_implies, tn_of hka, tn_of hkc, va, vc, hm 86 (by decide), c3, c4, c5]
            exact he
    · simp only [L_X9_move, isSheet9, if_pos c1, if_neg c2, e10, not_false_eq_true, not_true_eq_false, false_implies, forall_const, true_and, and_true, eq_self, imp_self, true_implies]
      refine err_end h (by decide) (R := fun Q m => L_X10_move a b c d e m Q) fun m Q hm he => ?_
      simp only [L_X10_move, isSheet10, if_pos c1, if_neg c2, e10, not_false_eq_true, not_true_eq_false, false_implies, forall_const, true_and, and_true, eq_self, imp_self, true_implies]
      exact he
  · simp only [L_X9_move, isSheet9, if_neg c1, e10, not_false_eq_true, not_true_eq_false, false_implies, forall_const, true_and, and_true, eq_self, imp_self, true_implies]
    refine err_end h (by decide) (R := fun Q m => L_X10_move a b c d e m Q) fun m Q hm he => ?_
    simp only [L_X10_move, isSheet10, if_neg c1, e10, not_false_eq_true, not_true_eq_false, false_implies, forall_const, true_and, and_true, eq_self, imp_self, true_implies]
    exact he
