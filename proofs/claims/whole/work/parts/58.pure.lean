/-- whether FLOORS behind 1, 2, .. STEPS are as the numbers from i on -/
def gsF (s : Nat → Int32) (num : Nat → Int32) : Nat → (Nat → Int32) → Nat → Bool
  | 0, _, _ => true
  | f + 1, x, i => if FF s x = num i then gsF s num f (stp s x) (i + 1) else false
theorem gsF_ext {s num : Nat → Int32} : ∀ (f : Nat) {x y : Nat → Int32} (i : Nat), (∀ j, j < 5 → x j = y j) → gsF s num f x i = gsF s num f y i
  | 0, _, _, _, _ => rfl
  | f + 1, x, y, i, h => by
    unfold gsF
    rw [(FV_ext (s := s) h).1, gsF_ext f (i + 1) (stp_ext h)]
theorem gso9 {q L : Nat} {s x num : Nat → Int32} {m : MMt} (hq : 68 ≤ q) (hL : (m q 1).toInt = L) (hL40 : L ≤ 40) (hnum : ∀ i, i < L → m (q + 1) i = num i) (hx : ∀ j, j < 5 → m 54 j = x j) (hg : GW x) (hT : TH s m) (Q : Int32 → MMt → Prop)
    (h : ∀ m' : MMt, FrC s m m' → (gsF s num L x 0 = true → Q 1 m') ∧ (gsF s num L x 0 = false → Q 0 m')) : L_X7_goesSo q m Q := by
  generalize hR : gsF s num L x 0 = R at h
  unfold L_X7_goesSo B_X7_goesSo_2
  refine LOOP_up L (fun k z => z.1 = Int32.ofNat k ∧ FrC s m z.2 ∧ ∃ y : Nat → Int32, (∀ j, j < 5 → z.2 54 j = y j) ∧ GW y ∧ gsF s num (L - k) y k = R) ⟨rfl, ⟨fun _ _ _ _ => rfl, hT.2.2.2⟩, x, hx, hg, hR⟩ ?_ ?_
  · rintro k ⟨i, m2⟩ X hk ⟨e1, e2, y, e3, e4, e5⟩ hX
    dsimp only at e1 e2 e3 hX ⊢
    subst e1
    have hk2 : TI (Int32.ofNat k) k := on_ti (by omega)
    rw [e2.1 q (by omega) (by omega) (by omega), hk2.tn]
    refine ⟨fun d => absurd d (nle_of hL hk2 hk), fun _ => ?_⟩
    have K : ∀ m' : MMt, FrC s m2 m' → (∀ j, j < 5 → m' 54 j = stp s y j) → (vp_in (Int32.ofNat k) 40 ∧ (((m' 54 2) = (m' (q + 1) k) → (∀ v6 : Int32, v6 = Int32.ofNat k + (1 : Int32) → X (v6, m'))) ∧ (¬ (m' 54 2) = (m' (q + 1) k) → Q (0 : Int32) m'))) := by
      intro m' g1 g2
      rw [show L - k = (L - (k + 1)) + 1 by omega] at e5
      unfold gsF at e5
      have f2 : m' 54 2 = FF s y := g2 2 (by decide)
      rw [f2, g1.1 (q + 1) (by omega) (by omega) (by omega), e2.1 (q + 1) (by omega) (by omega) (by omega), hnum k hk]
      refine ⟨hk2.vp (by omega), fun c => ?_, fun c => ?_⟩
      · rintro v6 rfl
        rw [if_pos c] at e5
        exact hX _ ⟨on_1 k, e2.tr g1, stp s y, g2, stp_GW e4, e5⟩
      · rw [if_neg c] at e5
        exact (h m' (e2.tr g1)).2 e5.symm
    exact goX9 (s := s) e3 e4 (TH_frC hT e2) _ fun m' g1 g2 => ⟨fun _ => K m' g1 g2, fun _ => K m' g1 g2⟩
  · rintro ⟨i, m2⟩ X ⟨e1, e2, y, e3, e4, e5⟩
    dsimp only at e1 e2 e3 ⊢
    subst e1
    rw [show L - L = 0 by omega] at e5
    rw [e2.1 q (by omega) (by omega) (by omega)]
    exact ⟨fun _ => (h m2 e2).1 e5.symm, fun d => absurd (le_of hL (on_ti (by omega) : (Int32.ofNat L).toInt = L) (Nat.le_refl _)) d⟩
theorem gso10 {a b : Int32} {g k L : Nat} (ha : a.toInt = g) (hg : g < 8) (hb : b.toInt = k) (hk4 : k < 4) {s x num : Nat → Int32} (hw : WL s) {m : MMt} (hm : m 77 = PUT s g x) (hL : (m 87 k).toInt = L) (hL40 : L ≤ 40) (hnum : ∀ i, i < L → m 88 (40 * k + i) = num i) (Q : Int32 → MMt → Prop)
    (h : ∀ m' : MMt, FrM m m' → (gsF s num L x 0 = true → Q 1 m') ∧ (gsF s num L x 0 = false → Q 0 m')) : L_X10_goesSo a b m Q := by
  refine of10 (j := 2) ha hg rfl (by decide) _ _ (of10 (j := 3) ha hg rfl (by decide) _ _ ?_)
  rw [hm, show PUT s g x (10 + 5 * g + 2) = x 2 from PUT_gd s g x (by decide), show PUT s g x (10 + 5 * g + 3) = x 3 from PUT_gd s g x (by decide)]
  generalize hR : gsF s num L x 0 = R at h
  have fin : ∀ (z : MMt) (y : Nat → Int32) (r : Int32), (∀ q, q ≠ 76 → q ≠ 77 → q ≠ 81 → q ≠ 82 → z q = m q) → (∀ j, j ≠ 12 → j ≠ 13 → z 76 j = m 76 j) → z 77 = PUT s g y → X23 x y → ((r = 1 ∧ R = true) ∨ (r = 0 ∧ R = false)) → B_X10_goesSo_94 a (x 2) (x 3) r z Q := by
    intro z y r p1 p2 p3 p4 p5
    refine backX10 ha hg (s := s) (x := x) (y := y) p4 p3 _ fun m5 q1 q2 => ?_
    have f5 : FrM m m5 := by
      refine ⟨fun q x1 x2 x3 => ?_, fun j j1 j2 j3 => ?_⟩
      · by_cases e : q = 77
        · subst e; rw [q2, hm]
        · rw [q1 q e, p1 q x1 e x2 x3]
      · rw [q1 76 (by decide), p2 j j1 j2]
    rcases p5 with ⟨rfl, e⟩ | ⟨rfl, e⟩
    · exact ⟨Or.inr rfl, (h m5 f5).1 e⟩
    · exact ⟨Or.inl rfl, (h m5 f5).2 e⟩
  unfold B_X10_goesSo_21
  refine LOOP_up L (fun i z => z.2.1 = Int32.ofNat i ∧ (∀ q, q ≠ 76 → q ≠ 77 → q ≠ 81 → q ≠ 82 → z.2.2 q = m q) ∧ (∀ j, j ≠ 12 → j ≠ 13 → z.2.2 76 j = m 76 j) ∧ ∃ y : Nat → Int32, z.2.2 77 = PUT s g y ∧ X23 x y ∧ ((z.1 = 1 ∧ gsF s num (L - i) y i = R) ∨ (z.1 = 0 ∧ R = false))) ⟨rfl, fun _ _ _ _ _ => rfl, fun _ _ _ => rfl, x, hm, fun _ _ _ _ => rfl, Or.inl ⟨rfl, hR⟩⟩ ?_ ?_
  · rintro i ⟨x5, x6, z⟩ X hi ⟨e1, e2, e3, y, e4, e5, e6⟩ hX
    dsimp only at e1 e2 e3 e4 e6 hX ⊢
    subst e1
    have hi2 : TI (Int32.ofNat i) i := on_ti (by omega)
    rw [tn_of hb, e2 87 (by decide) (by decide) (by decide) (by decide)]
    refine ⟨vp_of hb hk4, fun d => absurd d (nle_of hL hi2 hi), fun _ => ⟨fun d => ?_, fun d => ?_⟩⟩
    · rcases e6 with ⟨q, -⟩ | ⟨q, qf⟩
      · rw [q] at d; exact absurd d (by decide)
      · rw [d]; exact fin z y 0 e2 e3 e4 e5 (Or.inr ⟨rfl, qf⟩)
    · rcases e6 with ⟨q, qR⟩ | ⟨q, -⟩
      · have eI : TI (((40 : Int32) * b) + Int32.ofNat i) (40 * k + i) := TI.add (TI.mul (rfl : TI 40 40) hb (by omega)) hi2 (by omega)
        refine goX10 ha hg hw e4 _ fun m' g1 g2 g3 g4 => ?_
        rw [eI.tn, g4, g1 88 (by decide) (by decide) (by decide) (by decide), e2 88 (by decide) (by decide) (by decide) (by decide), hnum i hi]
        rw [show L - i = (L - (i + 1)) + 1 by omega] at qR
        unfold gsF at qR
        refine ⟨eI.vp (by omega), fun c => ?_, fun c => ?_⟩
        · rintro v rfl
          rw [if_neg (fun e => c e.symm)] at qR
          exact hX _ ⟨on_1 i, fun q q1 q2 q3 q4 => (g1 q q1 q2 q3 q4).trans (e2 q q1 q2 q3 q4), fun j j1 j2 => (g2 j j1 j2).trans (e3 j j1 j2), stp s y, g3, e5.stp, Or.inr ⟨rfl, qR.symm⟩⟩
        · rintro v rfl
          rw [if_pos c.symm] at qR
          exact hX _ ⟨on_1 i, fun q q1 q2 q3 q4 => (g1 q q1 q2 q3 q4).trans (e2 q q1 q2 q3 q4), fun j j1 j2 => (g2 j j1 j2).trans (e3 j j1 j2), stp s y, g3, e5.stp, Or.inl ⟨rfl, qR⟩⟩
      · exact absurd q d
  · rintro ⟨x5, x6, z⟩ X ⟨e1, e2, e3, y, e4, e5, e6⟩
    dsimp only at e1 e2 e3 e4 e6 ⊢
    subst e1
    rw [tn_of hb, e2 87 (by decide) (by decide) (by decide) (by decide)]
    refine ⟨vp_of hb hk4, fun _ => fin z y x5 e2 e3 e4 e5 ?_, fun d => absurd (le_of hL (on_ti (by omega) : (Int32.ofNat L).toInt = L) (Nat.le_refl _)) d⟩
    rcases e6 with ⟨q, qR⟩ | ⟨q, qf⟩
    · rw [show L - L = 0 by omega] at qR
      exact Or.inl ⟨q, qR.symm⟩
    · exact Or.inr ⟨q, qf⟩
/-- over the numbers from i on: how many are so, the first that is -/
def cnU (P : Nat → Bool) : Nat → Nat → Nat
  | 0, _ => 0
  | f + 1, i => cnU P f (i + 1) + (if P i = true then 1 else 0)
def fiU (P : Nat → Bool) (z : Int32) (v : Nat → Int32) : Nat → Nat → Int32
  | 0, _ => z
  | f + 1, i => if P i = true then v i else fiU P z v f (i + 1)
theorem cnU_le (P : Nat → Bool) : ∀ f i, cnU P f i ≤ f
  | 0, _ => Nat.le_refl _
  | f + 1, i => by
    have := cnU_le P f (i + 1)
    unfold cnU; split <;> omega
/-- SPEED number i -/
def spd (i : Nat) : Int32 := Int32.ofNat i - 9
theorem spd_ti {i : Nat} (h : i ≤ 19) : (spd i).toInt = (i : Int) - 9 := by
  unfold spd
  have e : (Int32.ofNat i).toInt = i := on_ti (by omega)
  rw [sb_s (by rw [e]; simp only [Int32.reduceToInt]; omega), e]; simp only [Int32.reduceToInt]
theorem spd_1 {i : Nat} (h : i < 19) : spd i + 1 = spd (i + 1) ∧ spd (i + 1) + -1 = spd i := by
  have e1 := spd_ti (i := i) (by omega)
  have e2 := spd_ti (i := i + 1) (by omega)
  constructor
  · rw [eq_ti, ad_s (by rw [e1]; simp only [Int32.reduceToInt]; omega), e1, e2]; simp only [Int32.reduceToInt]; omega
  · rw [eq_ti, ad_s (by rw [e2]; simp only [Int32.reduceToInt]; omega), e1, e2]; simp only [Int32.reduceToInt]; omega
theorem upd3_GW {x : Nat → Int32} (h : GW x) {v : Int32} (hv : -9 ≤ v.toInt ∧ v.toInt ≤ 9) : GW (upd x 3 v) := by
  obtain ⟨w0, w1, w2, w3, w4⟩ := h
  exact ⟨w0, w1, w2, hv, w4⟩
theorem upd0_GW {x : Nat → Int32} (h : GW x) {v : Int32} (hv : 0 ≤ v.toInt ∧ v.toInt ≤ 6) : GW (upd x 0 v) := by
  obtain ⟨w0, w1, w2, w3, w4⟩ := h
  exact ⟨hv, w1, w2, w3, w4⟩
theorem upd_row {m : MMt} {x : Nat → Int32} (hx : ∀ j, j < 5 → m 54 j = x j) (j0 : Nat) (v : Int32) : ∀ j, j < 5 → up2 m 54 j0 v 54 j = upd x j0 v j := fun j hj => by
  rw [uq, upd_at]
  by_cases e : j = j0
  · rw [if_pos e, if_pos e]
  · rw [if_neg e, if_neg e, hx j hj]
theorem FrC_54 {s : Nat → Int32} {m : MMt} (hM : MEM s m) (j0 : Nat) (v : Int32) : FrC s m (up2 m 54 j0 v) :=
  ⟨fun a _ _ a3 => up2_ro _ _ _ _ _ a3, MEM_congr hM (up2_ro _ _ _ _ _ (by decide)) fun _ _ => rfl⟩
/-- what rolled() and whose() take of a SHEET -/
theorem shF {n : Nat} {mem : MMt} (h : Inv n mem) {k L : Nat} (hk : k < 4) (hL : (mem 87 k).toInt = L) {m : MMt} (hf : FrC (mem 77) mem m) : (m (68 + 2 * k) 1).toInt = L ∧ L ≤ 40 ∧ ∀ i, i < L → m (68 + 2 * k + 1) i = itm mem k i := by
  obtain ⟨g1, g2, g3, g4, g5⟩ := h.sh hk
  refine ⟨by rw [hf.1 _ (by omega) (by omega) (by omega), g3]; exact hL, by omega, fun i hi => ?_⟩
  rw [hf.1 _ (by omega) (by omega) (by omega)]; exact g5 i (by omega)
