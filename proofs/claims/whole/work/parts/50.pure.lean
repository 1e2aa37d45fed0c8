def psN (s : Nat → Int32) : Nat → Nat → Int32
  | 0 => s
  | k + 1 => pst (psN s k)
theorem psN_WG {s : Nat → Int32} (h : WG s) : ∀ k, WG (psN s k)
  | 0 => h
  | k + 1 => pst_WG (psN_WG h k)
theorem psN_o {s : Nat → Int32} (h : WG s) {i : Nat} (h0 : i ≠ 0) (h1 : i ≠ 1) (h2 : i < 10 ∨ 50 ≤ i) : ∀ k, psN s k i = s i
  | 0 => rfl
  | k + 1 => (pst_o (psN_WG h k) h0 h1 h2).trans (psN_o h h0 h1 h2 k)
theorem psN_le {s : Nat → Int32} (h : WG s) (k : Nat) : LE2 s (psN s k) := fun i h1 h2 => psN_o h (by omega) (by omega) (by omega) k
/-- k STEPS of a course of the class -/
theorem goOnN9 {cb : Nat} (hcb : cb = 1 ∨ cb = 43) {s : Nat → Int32} {mem : MMt} (hC : CR cb s mem) (hG : WG s) (hT : TH2 s mem) (k : Nat) {m : MMt} (hr : ∀ a, a ≠ cb → (a < cb + 2 ∨ cb + 9 < a) → a ≠ 21 → a ≠ 17 → a ≠ 20 → m a = mem a) (hk : CR cb (psN s k) m) (hM : MEM s m) (Q : MMt → Prop)
    (h : ∀ m' : MMt, (∀ a, a ≠ cb → (a < cb + 2 ∨ cb + 9 < a) → a ≠ 21 → a ≠ 17 → a ≠ 20 → m' a = mem a) → CR cb (psN s (k + 1)) m' → MEM s m' → Q m') : L_X0_goOn cb m Q := by
  have ll := psN_le hG k
  have hTk : TH2 (psN s k) m := TH2_le hT ll (fun q hq => hr q (by omega) (by omega) (by omega) (by omega) (by omega)) hM
  refine goOn9 hcb hk (psN_WG hG k) hTk _ fun m' g1 g2 g3 => h m' (fun a a1 a2 a3 a4 a5 => (g1 a a1 a2 a3 a4 a5).trans (hr a a1 a2 a3 a4 a5)) g2 ?_
  intro i hi
  have := g3 i hi
  rw [gv_congr hT.wl.1 hT.wl.2 ll] at this
  exact this
theorem steps9 {a : Int32} {N : Nat} (ha : a.toInt = N) (hN : N ≤ 200) {s : Nat → Int32} {mem : MMt} (hC : CR 1 s mem) (hG : WG s) (hT : TH2 s mem) (Q : Int32 → MMt → Prop)
    (h : ∀ m' : MMt, (∀ a, a ≠ 1 → (a < 3 ∨ 10 < a) → a ≠ 21 → a ≠ 17 → a ≠ 20 → m' a = mem a) → CR 1 (psN s N) m' → MEM s m' → L_X9_howManyRest m' Q) : B_X9_steps_40 a 0 mem Q := by
  unfold B_X9_steps_40
  refine LOOP_up N (fun k z => z.1 = Int32.ofNat k ∧ (∀ a, a ≠ 1 → (a < 3 ∨ 10 < a) → a ≠ 21 → a ≠ 17 → a ≠ 20 → z.2 a = mem a) ∧ CR 1 (psN s k) z.2 ∧ MEM s z.2) ⟨rfl, fun _ _ _ _ _ _ => rfl, hC, hT.1.2.2.2⟩ ?_ ?_
  · rintro k ⟨x, m⟩ X hk ⟨e1, e2, e3, e4⟩ hX
    dsimp only at e1 e2 e3 e4 hX ⊢
    subst e1
    have hk2 : TI (Int32.ofNat k) k := on_ti (by omega)
    refine ⟨fun d => absurd d (nle_of ha hk2 hk), fun _ => ?_⟩
    refine goOnN9 (Or.inl rfl) hC hG hT k e2 e3 e4 _ fun m' g1 g2 g3 => ?_
    rintro v5 rfl
    exact hX _ ⟨on_1 k, g1, g2, g3⟩
  · rintro ⟨x, m⟩ X ⟨e1, e2, e3, e4⟩
    dsimp only at e1 e2 e3 e4 ⊢
    subst e1
    exact ⟨fun _ => h m e2 e3 e4, fun d => absurd (le_of ha (on_ti (by omega) : (Int32.ofNat N).toInt = N) (Nat.le_refl _)) d⟩
theorem stepN10 {mem : MMt} (hG : WG (mem 77)) (hw : WL (mem 77)) (k : Nat) {m : MMt} (hr : ∀ q, q ≠ 76 → q ≠ 77 → q ≠ 81 → q ≠ 82 → m q = mem q) (h76 : ∀ j, j ≠ 12 → j ≠ 13 → m 76 j = mem 76 j) (hk : m 77 = psN (mem 77) k) (Q : MMt → Prop)
    (h : ∀ m' : MMt, (∀ q, q ≠ 76 → q ≠ 77 → q ≠ 81 → q ≠ 82 → m' q = mem q) → (∀ j, j ≠ 12 → j ≠ 13 → m' 76 j = mem 76 j) → m' 77 = psN (mem 77) (k + 1) → Q m') : L_X10_step m Q := by
  refine step10 (by rw [hk]; exact psN_WG hG k) (by rw [hk]; exact WL_le hw (psN_le hG k)) _ fun m' g1 g2 g3 => h m' (fun q q1 q2 q3 q4 => (g1 q q1 q2 q3 q4).trans (hr q q1 q2 q3 q4)) (fun j j1 j2 => (g2 j j1 j2).trans (h76 j j1 j2)) ?_
  rw [g3, hk]; rfl
theorem steps10 {a : Int32} {N : Nat} (ha : a.toInt = N) (hN : N ≤ 200) {mem : MMt} (hG : WG (mem 77)) (hw : WL (mem 77)) (Q : Int32 → MMt → Prop)
    (h : ∀ m' : MMt, (∀ q, q ≠ 76 → q ≠ 77 → q ≠ 81 → q ≠ 82 → m' q = mem q) → (∀ j, j ≠ 12 → j ≠ 13 → m' 76 j = mem 76 j) → m' 77 = psN (mem 77) N → L_X10_resting m' Q) : B_X10_goOn_40 a 0 0 mem Q := by
  unfold B_X10_goOn_40
  refine LOOP_up N (fun k z => z.1 = Int32.ofNat k ∧ (∀ q, q ≠ 76 → q ≠ 77 → q ≠ 81 → q ≠ 82 → z.2 q = mem q) ∧ (∀ j, j ≠ 12 → j ≠ 13 → z.2 76 j = mem 76 j) ∧ z.2 77 = psN (mem 77) k) ⟨rfl, fun _ _ _ _ _ => rfl, fun _ _ _ => rfl, rfl⟩ ?_ ?_
  · rintro k ⟨x, m⟩ X hk ⟨e1, e2, e3, e4⟩ hX
    dsimp only at e1 e2 e3 e4 hX ⊢
    subst e1
    have hk2 : TI (Int32.ofNat k) k := on_ti (by omega)
    refine ⟨fun d => absurd d (nle_of ha hk2 hk), fun _ => ?_⟩
    unfold B_X10_goOn_48
    refine LOOP_up 0 (fun _ z => z.2 = m) rfl (fun q _ _ hq => absurd hq (by omega)) ?_
    rintro ⟨y, m9⟩ X9 e9
    dsimp only at e9 ⊢
    subst e9
    have E : B_X10_goOn_85 X a 0 (Int32.ofNat k) m9 Q := by
      refine stepN10 hG hw k e2 e3 e4 _ fun m' g1 g2 g3 => ?_
      rintro v2 rfl
      exact hX _ ⟨on_1 k, g1, g2, g3⟩
    exact ⟨fun _ => E, fun _ => ⟨fun _ => E, fun d => absurd rfl d⟩⟩
  · rintro ⟨x, m⟩ X ⟨e1, e2, e3, e4⟩
    dsimp only at e1 e2 e3 e4 ⊢
    subst e1
    exact ⟨fun _ => h m e2 e3 e4, fun d => absurd (le_of ha (on_ti (by omega) : (Int32.ofNat N).toInt = N) (Nat.le_refl _)) d⟩
/-- the end of steps() and loose() -/
theorem rest_end {n : Nat} {mem m1 : MMt} (h : Inv n mem) {t : Nat → Int32} (hW : WG t) (hC : CR 1 t m1) (hT : TH2 t m1) (hfr : ∀ q, 20 < q → q ≠ 21 → m1 q = mem q)
    {M : MMt → (Int32 → MMt → Prop) → Prop} (hM : ∀ (m2 : MMt) (Q : Int32 → MMt → Prop), (∀ q, q ≠ 21 → q ≠ 17 → q ≠ 54 → m2 q = m1 q) → (∀ m' : MMt, (∀ q, q ≠ 76 → q ≠ 77 → q ≠ 81 → q ≠ 82 → m' q = m2 q) → (∀ j, j ≠ 12 → j ≠ 13 → m' 76 j = m2 76 j) → m' 77 = t → L_X10_resting m' Q) → M m2 Q)
    (hI : ∀ m' : MMt, (∀ q, q ≠ 21 → q ≠ 17 → q ≠ 54 → q ≠ 76 → q ≠ 77 → q ≠ 81 → q ≠ 82 → m' q = m1 q) → (∀ j, j ≠ 12 → j ≠ 13 → m' 76 j = mem 76 j) → m' 77 = t → MEM t m' → Inv n m') :
    L_X9_howManyRest m1 (fun r m => M m (fun r' m' => r = r' ∧ Inv n m')) := by
  refine hmr9 hC hW hT.1 _ fun m2 g1 g2 => hM m2 _ g1 fun m3 k1 k2 k3 => ?_
  refine rest10 (by rw [k3]; exact hW.1) (by rw [k3]; exact hT.wl) _ fun m4 l1 l2 => ⟨by rw [k3], ?_⟩
  refine hI m4 (fun q q1 q2 q3 q4 q5 q6 q7 => by rw [l1 q q4 q6 q7, k1 q q4 q5 q6 q7, g1 q q1 q2 q3]) (fun j j1 j2 => by rw [l2 j j1 j2, k2 j j1 j2, g1 76 (by decide) (by decide) (by decide), hfr 76 (by decide) (by decide)]) (by rw [l1 77 (by decide) (by decide) (by decide), k3]) (MEM_congr g2 (by rw [l1 21 (by decide) (by decide) (by decide), k1 21 (by decide) (by decide) (by decide) (by decide)]) fun _ _ => rfl)
theorem k_steps {n : Nat} {a : Int32} {mem : MMt} (h : Inv n mem) : L_X9_steps a mem (fun r m => L_X10_steps a m (fun r' m' => r = r' ∧ Inv n m')) := by
  have e2 : mem 1 2 = mem 77 0 := h.1.1.2.1
  have hG := h.1.2
  by_cases c1 : 1 ≤ a.toInt ∧ a.toInt ≤ 200
  · obtain ⟨N, hN⟩ : ∃ N : Nat, a.toInt = N := ⟨a.toInt.toNat, by omega⟩
    have hN2 : N ≤ 200 := by omega
    by_cases c2 : mem 77 0 + a ≤ 9999
    · simp only [L_X9_steps, within_sp, Int32.reduceToInt, if_pos c1, e10, not_false_eq_true, not_true_eq_false, false_implies, forall_const, true_and, and_true, eq_self, imp_self, true_implies, e2]
      refine ⟨fun _ => ?_, fun d => absurd c2 d⟩
      refine steps9 hN hN2 h.1.1 hG h.th2 _ fun m1 g1 g2 g3 => ?_
      refine rest_end (M := fun m Q => L_X10_steps a m Q) h (t := psN (mem 77) N) (psN_WG hG N) g2 (TH2_le h.th2 (psN_le hG N) (fun q hq => g1 q (by omega) (by omega) (by omega) (by omega) (by omega)) g3) (fun q q1 q2 => g1 q (by omega) (by omega) q2 (by omega) (by omega)) ?_ ?_
      · intro m2 Q p1 p2
        have f77 : m2 77 = mem 77 := by rw [p1 77 (by decide) (by decide) (by decide), g1 77 (by decide) (by decide) (by decide) (by decide) (by decide)]
        simp only [L_X10_steps, L_X10_goOn, isIn_sp, Int64.reduceToInt, if_pos c1, e10, not_false_eq_true, not_true_eq_false, false_implies, forall_const, true_and, and_true, eq_self, imp_self, true_implies, f77]
        refine ⟨fun _ => ?_, fun d => absurd c2 d⟩
        refine steps10 hN hN2 (by rw [f77]; exact hG) (by rw [f77]; exact h.wl) _ fun m' k1 k2 k3 => p2 m' k1 k2 (by rw [k3, f77])
      · intro m' k1 k2 k3 k4
        refine Inv_c h (fun q q1 q2 q3 => ?_) ⟨k2 2 (by decide) (by decide), k2 3 (by decide) (by decide), k2 24 (by decide) (by decide)⟩ ⟨?_, by rw [k3]; exact psN_WG hG N⟩ (fun i i1 i2 i3 i4 => by rw [k3]; exact psN_o hG (by omega) (by omega) i3 N) ?_
        · unfold SC at q3
          rw [k1 q (by omega) (by omega) (by omega) (by omega) q1 (by omega) (by omega), g1 q (by omega) (by omega) (by omega) (by omega) (by omega)]
        · rw [k3]
          refine CR_congr g2 (fun j _ _ => by rw [k1 1 (by decide) (by decide) (by decide) (by decide) (by decide) (by decide) (by decide)]) (fun g j hg _ => by rw [k1 _ (by omega) (by omega) (by omega) (by omega) (by omega) (by omega) (by omega)]) (fun _ _ => rfl) ?_
          exact (psN_WG hG N).1.2
        · intro i hi
          have := k4 i hi
          rw [gv_congr h.wl.1 h.wl.2 (psN_le hG N)] at this
          exact this
    · simp only [L_X9_steps, within_sp, Int32.reduceToInt, if_pos c1, e10, not_false_eq_true, not_true_eq_false, false_implies, forall_const, true_and, and_true, eq_self, imp_self, true_implies, e2]
      refine ⟨fun d => absurd d c2, fun _ => ?_⟩
      refine err_end h (by decide) (R := fun Q m => L_X10_steps a m Q) fun m Q hm he => ?_
      simp only [L_X10_steps, L_X10_goOn, isIn_sp, Int64.reduceToInt, if_pos c1, e10, not_false_eq_true, not_true_eq_false, false_implies, forall_const, true_and, and_true, eq_self, imp_self, true_implies, hm 77 (by decide)]
      exact ⟨fun d => absurd d c2, fun _ => he⟩
  · simp only [L_X9_steps, within_sp, Int32.reduceToInt, if_neg c1, e10, not_false_eq_true, not_true_eq_false, false_implies, forall_const, true_and, and_true, eq_self, imp_self, true_implies]
    refine err_end h (by decide) (R := fun Q m => L_X10_steps a m Q) fun m Q hm he => ?_
    simp only [L_X10_steps, L_X10_goOn, isIn_sp, Int64.reduceToInt, if_neg c1, e10, not_false_eq_true, not_true_eq_false, false_implies, forall_const, true_and, and_true, eq_self, imp_self, true_implies]
    exact he
