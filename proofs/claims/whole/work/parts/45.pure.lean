/-- how many of the first k goods are AT REST -/
def cnR (s : Nat → Int32) : Nat → Int32
  | 0 => 0
  | k + 1 => cnR s k + (if FF s (gd s k) = gd s k 2 ∧ VV s (gd s k) = gd s k 3 then 1 else 0)
def cnW (s : Nat → Int32) (lo hi : Int32) : Nat → Int32
  | 0 => 0
  | k + 1 => cnW s lo hi k + (if lo.toInt ≤ (gd s k 2).toInt ∧ (gd s k 2).toInt ≤ hi.toInt then 1 else 0)
theorem hmr9 {s : Nat → Int32} {mem : MMt} (hC : CR 1 s mem) (hW : WG s) (hT : TH s mem) (Q : Int32 → MMt → Prop)
    (h : ∀ m' : MMt, (∀ a, a ≠ 21 → a ≠ 17 → a ≠ 54 → m' a = mem a) → MEM s m' → Q (cnR s (s 6).toInt.toNat) m') : L_X9_howManyRest mem Q := by
  obtain ⟨w6, wg⟩ := hW
  obtain ⟨N, hN⟩ : ∃ N : Nat, (s 6).toInt = N := ⟨(s 6).toInt.toNat, by omega⟩
  rw [hN, show ((N : Int)).toNat = N from rfl] at h
  unfold L_X9_howManyRest B_X9_howManyRest_4
  refine LOOP_up N (fun k z => z.2.1 = Int32.ofNat k ∧ z.1 = cnR s k ∧ (∀ a, a ≠ 21 → a ≠ 17 → a ≠ 54 → z.2.2 a = mem a) ∧ MEM s z.2.2) ⟨rfl, rfl, fun _ _ _ _ => rfl, hT.2.2.2⟩ ?_ ?_
  · rintro k ⟨y, x, m⟩ X hk ⟨e1, e2, e3, e4⟩ hX
    dsimp only at e1 e2 e3 e4 hX ⊢
    subst e1; subst e2
    have hk2 : TI (Int32.ofNat k) k := on_ti (by omega)
    have h11 : mem 1 1 = s 6 := hC.1
    rw [e3 1 (by decide) (by decide) (by decide), h11, hk2.tn, row3]
    refine ⟨fun d => absurd d (nle_of hN hk2 hk), fun _ => ⟨hk2.vp (by omega), ?_⟩⟩
    have hgw : GW (gd s k) := wg k (by omega)
    have hr : ∀ j, j < 5 → m (3 + k) j = gd s k j := fun j hj => by
      rw [e3 _ (by omega) (by omega) (by omega), ← row3]; exact hC.2.2.2 k (by omega) j hj
    have hR := (FV_ext (s := s) hr).2.2.2
    have hT2 := TH_fr (m' := m) hT (e3 15 (by decide) (by decide) (by decide)) (e3 16 (by decide) (by decide) (by decide)) e4
    refine stays9 (s := s) (GW_ext (fun j hj => (hr j hj).symm) hgw) hT2 (by omega) (by omega) (by omega) _ fun m1 g1 g2 => ?_
    rw [hR]
    have key : ∀ b : Int32, b = (if FF s (gd s k) = gd s k 2 ∧ VV s (gd s k) = gd s k 3 then 1 else 0) → B_X9_howManyRest_40 X (Int32.ofNat k) b (cnR s k) m1 Q := by
      intro b hb
      rintro v1 rfl v2 rfl
      exact hX _ ⟨on_1 k, by rw [hb]; rfl, fun a a1 a2 a3 => (g1 a a1 a2 a3).trans (e3 a a1 a2 a3), g2⟩
    exact ⟨fun c => ⟨fun d => absurd d (by decide), fun _ => key 1 (by rw [if_pos (show _ ∧ _ from c)])⟩, fun c => ⟨fun _ => key 0 (by rw [if_neg (show ¬ (_ ∧ _) from c)]), fun d => absurd rfl d⟩⟩
  · rintro ⟨y, x, m⟩ X ⟨e1, e2, e3, e4⟩
    dsimp only at e1 e2 e3 e4 ⊢
    subst e1; subst e2
    have hk2 : TI (Int32.ofNat N) N := on_ti (by omega)
    rw [e3 1 (by decide) (by decide) (by decide), hC.1]
    exact ⟨fun _ => h m e3 e4, fun d => absurd (le_of hN hk2 (Nat.le_refl _)) d⟩
theorem rest10 {mem : MMt} (hW : 0 ≤ (mem 77 6).toInt ∧ (mem 77 6).toInt ≤ 8) (hw : WL (mem 77)) (Q : Int32 → MMt → Prop)
    (h : ∀ m' : MMt, (∀ q, q ≠ 76 → q ≠ 81 → q ≠ 82 → m' q = mem q) → (∀ j, j ≠ 12 → j ≠ 13 → m' 76 j = mem 76 j) → Q (cnR (mem 77) (mem 77 6).toInt.toNat) m') : L_X10_resting mem Q := by
  obtain ⟨N, hN⟩ : ∃ N : Nat, (mem 77 6).toInt = N := ⟨(mem 77 6).toInt.toNat, by omega⟩
  rw [hN, show ((N : Int)).toNat = N from rfl] at h
  unfold L_X10_resting B_X10_resting_4
  refine LOOP_up N (fun k z => z.2.1 = Int32.ofNat k ∧ z.1 = cnR (mem 77) k ∧ (∀ q, q ≠ 76 → q ≠ 81 → q ≠ 82 → z.2.2 q = mem q) ∧ (∀ j, j ≠ 12 → j ≠ 13 → z.2.2 76 j = mem 76 j)) ⟨rfl, rfl, fun _ _ _ _ => rfl, fun _ _ _ => rfl⟩ ?_ ?_
  · rintro k ⟨y, x, m⟩ X hk ⟨e1, e2, e3, e4⟩ hX
    dsimp only at e1 e2 e3 e4 hX ⊢
    subst e1; subst e2
    have hk2 : TI (Int32.ofNat k) k := on_ti (by omega)
    have f1 := e3 77 (by decide) (by decide) (by decide)
    rw [f1]
    refine ⟨fun d => absurd d (nle_of hN hk2 hk), fun _ => ?_⟩
    refine isAtRest10 hk2 (by omega) (by rw [f1]; exact hw) _ fun m1 g1 g2 g3 g4 => ?_
    rw [f1]
    have key : ∀ b : Int32, b = (if FF (mem 77) (gd (mem 77) k) = gd (mem 77) k 2 ∧ VV (mem 77) (gd (mem 77) k) = gd (mem 77) k 3 then 1 else 0) → B_X10_resting_29 X (Int32.ofNat k) b (cnR (mem 77) k) m1 Q := by
      intro b hb
      rintro v1 rfl v2 rfl
      exact hX _ ⟨on_1 k, by rw [hb]; rfl, fun a a1 a2 a3 => (g1 a a1 a2 a3).trans (e3 a a1 a2 a3), fun j j1 j2 => (g2 j j1 j2).trans (e4 j j1 j2)⟩
    exact ⟨fun c => ⟨fun d => absurd d (by decide), fun _ => key 1 (by rw [if_pos (show _ ∧ _ from c)])⟩, fun c => ⟨fun _ => key 0 (by rw [if_neg (show ¬ (_ ∧ _) from c)]), fun d => absurd rfl d⟩⟩
  · rintro ⟨y, x, m⟩ X ⟨e1, e2, e3, e4⟩
    dsimp only at e1 e2 e3 e4 ⊢
    subst e1; subst e2
    have hk2 : TI (Int32.ofNat N) N := on_ti (by omega)
    rw [e3 77 (by decide) (by decide) (by decide)]
    exact ⟨fun _ => h m e3 e4, fun d => absurd (le_of hN hk2 (Nat.le_refl _)) d⟩
theorem hmw9 {s : Nat → Int32} {mem : MMt} (hC : CR 1 s mem) (hW : WG s) (lo hi : Int32) (Q : Int32 → MMt → Prop)
    (h : Q (cnW s lo hi (s 6).toInt.toNat) mem) : L_X0_howManyWithin 1 lo hi mem Q := by
  obtain ⟨w6, wg⟩ := hW
  obtain ⟨N, hN⟩ : ∃ N : Nat, (s 6).toInt = N := ⟨(s 6).toInt.toNat, by omega⟩
  rw [hN, show ((N : Int)).toNat = N from rfl] at h
  unfold L_X0_howManyWithin B_X0_howManyWithin_5
  refine LOOP_up N (fun k z => z.2.1 = Int32.ofNat k ∧ z.1 = cnW s lo hi k ∧ z.2.2 = mem) ⟨rfl, rfl, rfl⟩ ?_ ?_
  · rintro k ⟨y, x, m⟩ X hk ⟨e1, e2, e3⟩ hX
    dsimp only at e1 e2 e3 hX ⊢
    subst e1; subst e2; subst e3
    have hk2 : TI (Int32.ofNat k) k := on_ti (by omega)
    rw [hC.1, hk2.tn]
    refine ⟨fun d => absurd d (nle_of hN hk2 hk), fun _ => ⟨hk2.vp (by omega), ?_⟩⟩
    rw [within_sp, hC.2.2.2 k (by omega) 2 (by decide)]
    have key : ∀ b : Int32, b = (if lo.toInt ≤ (gd s k 2).toInt ∧ (gd s k 2).toInt ≤ hi.toInt then 1 else 0) → B_X0_howManyWithin_38 1 X 1 lo hi (Int32.ofNat k) b (cnW s lo hi k) m Q := by
      intro b hb
      rintro v1 rfl v2 rfl
      exact hX _ ⟨on_1 k, by rw [hb]; rfl, rfl⟩
    split
    · rename_i c; exact ⟨fun d => absurd d (by decide), fun _ => key 1 (by rw [if_pos c])⟩
    · rename_i c; exact ⟨fun _ => key 0 (by rw [if_neg c]), fun d => absurd rfl d⟩
  · rintro ⟨y, x, m⟩ X ⟨e1, e2, e3⟩
    dsimp only at e1 e2 e3 ⊢
    subst e1; subst e2; subst e3
    have hk2 : TI (Int32.ofNat N) N := on_ti (by omega)
    rw [hC.1]
    exact ⟨fun _ => h, fun d => absurd (le_of hN hk2 (Nat.le_refl _)) d⟩
theorem betw10 {mem : MMt} (hW : 0 ≤ (mem 77 6).toInt ∧ (mem 77 6).toInt ≤ 8) (lo hi : Int32) (Q : Int32 → MMt → Prop)
    (h : Q (cnW (mem 77) lo hi (mem 77 6).toInt.toNat) mem) : L_X10_between lo hi mem Q := by
  obtain ⟨N, hN⟩ : ∃ N : Nat, (mem 77 6).toInt = N := ⟨(mem 77 6).toInt.toNat, by omega⟩
  rw [hN, show ((N : Int)).toNat = N from rfl] at h
  unfold L_X10_between B_X10_between_5
  refine LOOP_up N (fun k z => z.2.1 = Int32.ofNat k ∧ z.1 = cnW (mem 77) lo hi k ∧ z.2.2 = mem) ⟨rfl, rfl, rfl⟩ ?_ ?_
  · rintro k ⟨y, x, m⟩ X hk ⟨e1, e2, e3⟩ hX
    dsimp only at e1 e2 e3 hX ⊢
    subst e1; subst e2; subst e3
    have hk2 : TI (Int32.ofNat k) k := on_ti (by omega)
    refine ⟨fun d => absurd d (nle_of hN hk2 hk), fun _ => ?_⟩
    refine of10 (j := 2) hk2 (by omega) rfl (by decide) _ _ ?_
    rw [isIn_sp, Int32.toInt_toInt64, Int32.toInt_toInt64, show m 77 (10 + 5 * k + 2) = gd (m 77) k 2 from rfl]
    have key : ∀ b : Int32, b = (if lo.toInt ≤ (gd (m 77) k 2).toInt ∧ (gd (m 77) k 2).toInt ≤ hi.toInt then 1 else 0) → B_X10_between_41 X lo hi (Int32.ofNat k) b (cnW (m 77) lo hi k) m Q := by
      intro b hb
      rintro v1 rfl v2 rfl
      exact hX _ ⟨on_1 k, by rw [hb]; rfl, rfl⟩
    split
    · rename_i c; exact ⟨fun d => absurd d (by decide), fun _ => key 1 (by rw [if_pos c])⟩
    · rename_i c; exact ⟨fun _ => key 0 (by rw [if_neg c]), fun d => absurd rfl d⟩
  · rintro ⟨y, x, m⟩ X ⟨e1, e2, e3⟩
    dsimp only at e1 e2 e3 ⊢
    subst e1; subst e2; subst e3
    have hk2 : TI (Int32.ofNat N) N := on_ti (by omega)
    exact ⟨fun _ => h, fun d => absurd (le_of hN hk2 (Nat.le_refl _)) d⟩
theorem c11 {k : Int32} (h : 0 ≤ k.toInt ∧ k.toInt ≤ 10) : k = 0 ∨ k = 1 ∨ k = 2 ∨ k = 3 ∨ k = 4 ∨ k = 5 ∨ k = 6 ∨ k = 7 ∨ k = 8 ∨ k = 9 ∨ k = 10 := by
  simp only [eq_ti, Int32.reduceToInt]; omega
theorem k_count {n : Nat} {a : Int32} {mem : MMt} (h : Inv n mem) : L_X9_count a mem (fun r m => L_X10_count a m (fun r' m' => r = r' ∧ Inv n m')) := by
  have hn := h.n9.2
  by_cases c1 : 0 ≤ a.toInt ∧ a.toInt ≤ 10
  · obtain ⟨⟨⟨a1, a2, a3, a4, a5, a6⟩, -⟩, -⟩ := h.2.1
    obtain ⟨⟨q1, q2, q3, -⟩, -⟩ := h.1
    have v1 := h.2.2.2.2.2.1.1
    rcases c11 c1 with rfl | rfl | rfl | rfl | rfl | rfl | rfl | rfl | rfl | rfl | rfl
    · unfold L_X9_count L_X10_count; simp (decide := true) only [e10, not_false_eq_true, not_true_eq_false, false_implies, forall_const, true_and, and_true, eq_self, imp_self, true_implies]; exact ⟨q1, h⟩
    · unfold L_X9_count L_X10_count; simp (decide := true) only [e10, not_false_eq_true, not_true_eq_false, false_implies, forall_const, true_and, and_true, eq_self, imp_self, true_implies]; exact ⟨q2, h⟩
    · unfold L_X9_count L_X10_count; simp (decide := true) only [e10, not_false_eq_true, not_true_eq_false, false_implies, forall_const, true_and, and_true, eq_self, imp_self, true_implies]; exact ⟨q3, h⟩
    · unfold L_X9_count L_X10_count; simp (decide := true) only [e10, not_false_eq_true, not_true_eq_false, false_implies, forall_const, true_and, and_true, eq_self, imp_self, true_implies]
      exact hmw9 h.1.1 h.1.2 _ _ _ (betw10 hn _ _ _ ⟨rfl, h⟩)
    · unfold L_X9_count L_X10_count; simp (decide := true) only [e10, not_false_eq_true, not_true_eq_false, false_implies, forall_const, true_and, and_true, eq_self, imp_self, true_implies]
      exact hmw9 h.1.1 h.1.2 _ _ _ (betw10 hn _ _ _ ⟨rfl, h⟩)
    · unfold L_X9_count L_X10_count; simp (decide := true) only [e10, not_false_eq_true, not_true_eq_false, false_implies, forall_const, true_and, and_true, eq_self, imp_self, true_implies]
      exact hmw9 h.1.1 h.1.2 _ _ _ (betw10 hn _ _ _ ⟨rfl, h⟩)
    · unfold L_X9_count L_X10_count; simp (decide := true) only [e10, not_false_eq_true, not_true_eq_false, false_implies, forall_const, true_and, and_true, eq_self, imp_self, true_implies]
      refine hmr9 h.1.1 h.1.2 h.th _ fun m1 g1 g2 => ?_
      have f1 : m1 77 = mem 77 := g1 77 (by decide) (by decide) (by decide)
      refine rest10 (by rw [f1]; exact hn) (by rw [f1]; exact h.wl) _ fun m2 h3 h4 => ⟨by rw [f1], ?_⟩
      refine Inv_sc h (fun q hq => ?_) ?_ (MEM_congr g2 (h3 21 (by decide) (by decide) (by decide)) fun _ _ => rfl)
      · unfold SC at hq
        rw [h3 q (by omega) (by omega) (by omega), g1 q (by omega) (by omega) (by omega)]
      · rw [h4 2 (by decide) (by decide), h4 3 (by decide) (by decide), h4 24 (by decide) (by decide), g1 76 (by decide) (by decide) (by decide)]; exact ⟨rfl, rfl, rfl⟩
    · unfold L_X9_count L_X10_count; simp (decide := true) only [e10, not_false_eq_true, not_true_eq_false, false_implies, forall_const, true_and, and_true, eq_self, imp_self, true_implies]; exact ⟨a5, h⟩
    · unfold L_X9_count L_X10_count; simp (decide := true) only [e10, not_false_eq_true, not_true_eq_false, false_implies, forall_const, true_and, and_true, eq_self, imp_self, true_implies]; exact ⟨a6, h⟩
    · unfold L_X9_count L_X10_count; simp (decide := true) only [e10, not_false_eq_true, not_true_eq_false, false_implies, forall_const, true_and, and_true, eq_self, imp_self, true_implies]; exact ⟨v1, h⟩
    · unfold L_X9_count L_X10_count; simp (decide := true) only [e10, not_false_eq_true, not_true_eq_false, false_implies, forall_const, true_and, and_true, eq_self, imp_self, true_implies]; exact ⟨a4, h⟩
  · have E : L_X9_error 1 mem (fun r m => L_X10_count a m (fun r' m' => r = r' ∧ Inv n m')) := by
      refine err_end h (by decide) (R := fun Q m => L_X10_count a m Q) fun m Q hm he => ?_
      refine ⟨fun _ => he, fun _ => he, fun d => ?_, fun d => ?_, fun d => ?_, fun d => ?_, fun d => ?_, fun d => ?_, fun d => ?_, fun d => ?_, fun d => ?_, fun d => ?_, fun d => ?_⟩ <;> (subst d; exact absurd (by decide) c1)
    refine ⟨fun _ => E, fun _ => E, fun d => ?_, fun d => ?_, fun d => ?_, fun d => ?_, fun d => ?_, fun d => ?_, fun d => ?_, fun d => ?_, fun d => ?_, fun d => ?_, fun d => ?_⟩ <;> (subst d; exact absurd (by decide) c1)
