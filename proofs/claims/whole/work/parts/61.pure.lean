theorem mo_le (s : Nat → Int32) (t : Int32) : ∀ (l q : Nat) (x : Nat → Int32), mo s t l q x ≤ 3 ^ q
  | 0, q, x => by
    have : 1 ≤ 3 ^ q := Nat.one_le_pow _ _ (by decide)
    unfold mo; split <;> omega
  | l + 1, 0, x => mo_le s t l 0 _
  | l + 1, q + 1, x => by
    have h1 := mo_le s t l q (stp s (phd x (-1)))
    have h2 := mo_le s t l q (stp s (phd x 0))
    have h3 := mo_le s t l q (stp s (phd x 1))
    rw [Nat.pow_succ]
    unfold mo
    omega
theorem p243 {q : Nat} (h : q ≤ 5) : 3 ^ q ≤ 243 := by
  have : q = 0 ∨ q = 1 ∨ q = 2 ∨ q = 3 ∨ q = 4 ∨ q = 5 := by omega
  rcases this with rfl | rfl | rfl | rfl | rfl | rfl <;> decide
theorem X23.phd {x y : Nat → Int32} (h : X23 x y) (p : Int32) : X23 x (phd y p) := fun j h1 h2 h3 => by
  unfold Jvm.Pilot.CNeckWorldsLaw_law_r4975_c478a2.phd
  rw [upd_ne h3]; exact h j h1 h2 h3
theorem many10 {a sd t : Int32} {g : Nat} (ha : a.toInt = g) (hg : g < 8) {s : Nat → Int32} (hw : WL s) (ht : 40 * sd = t) : ∀ (l f q : Nat) (x : Nat → Int32) (c3 c4 : Int32) (m : MMt), l < f → l ≤ 50 → q ≤ 5 → GW x → c4.toInt = l → (c3.toInt = q ∨ (q = 0 ∧ -(50 - (l : Int)) ≤ c3.toInt ∧ c3.toInt ≤ 0)) → m 77 = PUT s g x →
    ∀ Q : Int32 → MMt → Prop, (∀ m' : MMt, FrM m m' → Q (Int32.ofNat (mo s t l q x)) m') → W_X10_manyOver f a sd c3 c4 m Q
  | 0, 0, _, _, _, _, _, hf, _, _, _, _, _, _, _, _ => absurd hf (by omega)
  | 0, f + 1, q, x, c3, c4, m, _, _, _, _, h4, _, hm, Q, hQ => by
    show L_X10_manyOver (W_X10_manyOver f) a sd c3 c4 m Q
    have c0 : c4 = 0 := by rw [eq_ti, h4]; rfl
    refine ⟨fun d => absurd c0 d, fun _ => of10 (j := 2) ha hg rfl (by decide) _ _ ?_⟩
    rw [hm, show PUT s g x (10 + 5 * g + 2) = x 2 from PUT_gd s g x (by decide), ht]
    have h := hQ m (FrM.rf m)
    unfold mo at h
    exact ⟨fun d => by rw [if_neg d] at h; exact h, fun d => by rw [if_pos d] at h; exact h⟩
  | l + 1, 0, _, _, _, _, _, hf, _, _, _, _, _, _, _, _ => absurd hf (by omega)
  | l + 1, f + 1, q, x, c3, c4, m, hf, hl, hq, hx, h4, h3, hm, Q, hQ => by
    show L_X10_manyOver (W_X10_manyOver f) a sd c3 c4 m Q
    have c0 : ¬ c4 = 0 := by rw [eq_ti, h4]; simp only [Int32.reduceToInt]; omega
    have ex2 : PUT s g x (10 + 5 * g + 2) = x 2 := PUT_gd s g x (by decide)
    have ex3 : PUT s g x (10 + 5 * g + 3) = x 3 := PUT_gd s g x (by decide)
    refine ⟨fun _ => of10 (j := 2) ha hg rfl (by decide) _ _ (of10 (j := 3) ha hg rfl (by decide) _ _ ?_), fun d => absurd d c0⟩
    rw [hm, ex2, ex3]
    have c41 : TI (c4 - 1) l := by
      have := TI.sub (a := c4) (b := 1) (k := l + 1) (l := 1) h4 rfl (by omega)
      rwa [show l + 1 - 1 = l by omega] at this
    have gen : ∀ (q' C : Nat) (b e : Int32), q' ≤ 5 → C ≤ 3 → (∀ i : Nat, i < C → ¬ e < b + Int32.ofNat i) → e < b + Int32.ofNat C → ((c3 - 1).toInt = q' ∨ (q' = 0 ∧ -(50 - (l : Int)) ≤ (c3 - 1).toInt ∧ (c3 - 1).toInt ≤ 0)) →
        ((c3 ≤ 0 ∧ e = 0) ∨ (¬ c3 ≤ 0 ∧ e = 1)) → sumN (fun d => mo s t l q' (stp s (phd x (b + Int32.ofNat d)))) C = mo s t (l + 1) q x → B_X10_manyOver_54 (W_X10_manyOver f) a sd c3 c4 (x 2) (x 3) 0 b m Q := by
      intro q' C b e hq' hC hlt hge h3' he hsum
      unfold B_X10_manyOver_54
      refine LOOP_up C (fun i z => z.2.1 = b + Int32.ofNat i ∧ z.1 = Int32.ofNat (sumN (fun d => mo s t l q' (stp s (phd x (b + Int32.ofNat d)))) i) ∧ FrM m z.2.2) ⟨(Int32.add_zero b).symm, rfl, FrM.rf m⟩ ?_ ?_
      · rintro i ⟨x7, x8, z⟩ X hi ⟨e1, e2, e3⟩ hX
        dsimp only at e1 e2 e3 hX ⊢
        subst e1; subst e2
        have z77 : z 77 = PUT s g x := by rw [e3.1 77 (by decide) (by decide) (by decide), hm]
        have body : B_X10_manyOver_65 (W_X10_manyOver f) X a sd c3 c4 (x 2) (x 3) (Int32.ofNat (sumN (fun d => mo s t l q' (stp s (phd x (b + Int32.ofNat d)))) i)) (b + Int32.ofNat i) e (b + Int32.ofNat i) z Q := by
          refine ⟨fun d => absurd d (hlt i hi), fun _ => ?_⟩
          rw [with_sp]
          refine setX10 (j0 := 3) ha hg rfl (by decide) z77 _ fun m4 k1 k2 => ?_
          refine goX10 ha hg hw k2 _ fun m7 n1 n2 n3 _ => ?_
          have n3' : m7 77 = PUT s g (stp s (phd x (b + Int32.ofNat i))) := n3
          refine many10 ha hg hw ht l f q' (stp s (phd x (b + Int32.ofNat i))) (c3 - 1) (c4 - 1) m7 (by omega) (by omega) hq' (stp_GW (phd_GW hx _)) c41 h3' n3' _ fun m8 o1 => ?_
          rintro v10 rfl
          have m877 : m8 77 = PUT s g (stp s (phd x (b + Int32.ofNat i))) := by rw [o1.1 77 (by decide) (by decide) (by decide), n3']
          have x23 : X23 x (stp s (phd x (b + Int32.ofNat i))) := (X23.phd (fun _ _ _ _ => rfl) _).stp
          refine backX10 ha hg x23 m877 _ fun m12 r1 r2 => ?_
          rintro v13 rfl
          refine hX _ ⟨?_, ?_, ?_⟩
          · show b + Int32.ofNat i + 1 = _
            rw [Int32.add_assoc, on_1]
          · show _ = Int32.ofNat (sumN (fun d => mo s t l q' (stp s (phd x (b + Int32.ofNat d)))) i + mo s t l q' (stp s (phd x (b + Int32.ofNat i))))
            rw [Int32.ofNat_add]
          · refine ⟨fun q y1 y2 y3 => ?_, fun j j1 j2 j3 => ?_⟩
            · show m12 q = m q
              by_cases e9 : q = 77
              · subst e9; rw [r2, hm]
              · rw [r1 q e9, o1.1 q y1 y2 y3, n1 q y1 e9 y2 y3, k1 q e9, e3.1 q y1 y2 y3]
            · show m12 76 j = m 76 j
              rw [r1 76 (by decide), o1.2 j j1 j2 j3, n2 j j1 j2, k1 76 (by decide), e3.2 j j1 j2 j3]
        rcases he with ⟨y1, y2⟩ | ⟨y1, y2⟩
        · subst y2; exact ⟨fun _ => body, fun d => absurd y1 d⟩
        · subst y2; exact ⟨fun d => absurd d y1, fun _ => body⟩
      · rintro ⟨x7, x8, z⟩ X ⟨e1, e2, e3⟩
        dsimp only at e1 e2 e3 ⊢
        subst e1; subst e2
        have h := hQ z e3
        rw [← hsum] at h
        have body : B_X10_manyOver_65 (W_X10_manyOver f) X a sd c3 c4 (x 2) (x 3) (Int32.ofNat (sumN (fun d => mo s t l q' (stp s (phd x (b + Int32.ofNat d)))) C)) (b + Int32.ofNat C) e (b + Int32.ofNat C) z Q := ⟨fun _ => h, fun d => absurd hge d⟩
        rcases he with ⟨y1, y2⟩ | ⟨y1, y2⟩
        · subst y2; exact ⟨fun _ => body, fun d => absurd y1 d⟩
        · subst y2; exact ⟨fun d => absurd d y1, fun _ => body⟩
    have c31 : (c3 - 1).toInt = c3.toInt - 1 := by
      refine sb_s ?_
      simp only [Int32.reduceToInt]
      rcases h3 with z | z <;> omega
    cases q with
    | zero =>
      have le0 : c3 ≤ 0 := by rw [Int32.le_iff_toInt_le]; simp only [Int32.reduceToInt]; rcases h3 with z | z <;> omega
      refine ⟨fun _ => ?_, fun d => absurd le0 d⟩
      refine gen 0 1 0 0 (by omega) (by omega) (fun i hi => ?_) (by decide) (Or.inr ⟨rfl, ?_, ?_⟩) (Or.inl ⟨le0, rfl⟩) ?_
      · obtain rfl : i = 0 := by omega
        decide
      · rw [c31]; rcases h3 with z | z <;> omega
      · rw [c31]; rcases h3 with z | z <;> omega
      · show 0 + mo s t l 0 (stp s (phd x (0 + Int32.ofNat 0))) = mo s t l 0 (stp s x)
        rw [show (0 : Int32) + Int32.ofNat 0 = 0 by decide, phd_0 hx, Nat.zero_add]
    | succ q =>
      have hq1 : c3.toInt = (q + 1 : Nat) := by
        rcases h3 with z | z
        · exact z
        · omega
      have gt0 : ¬ c3 ≤ 0 := by rw [Int32.le_iff_toInt_le, hq1]; simp only [Int32.reduceToInt]; omega
      refine ⟨fun d => absurd d gt0, fun _ => ?_⟩
      refine gen q 3 (-1) 1 (by omega) (by omega) (fun i hi => ?_) (by decide) (Or.inl ?_) (Or.inr ⟨gt0, rfl⟩) ?_
      · have : i = 0 ∨ i = 1 ∨ i = 2 := by omega
        rcases this with rfl | rfl | rfl <;> decide
      · rw [c31, hq1]; omega
      · show 0 + mo s t l q (stp s (phd x (-1 + Int32.ofNat 0))) + mo s t l q (stp s (phd x (-1 + Int32.ofNat 1))) + mo s t l q (stp s (phd x (-1 + Int32.ofNat 2))) = mo s t l q (stp s (phd x (-1))) + mo s t l q (stp s (phd x 0)) + mo s t l q (stp s (phd x 1))
        rw [show (-1 : Int32) + Int32.ofNat 0 = -1 by decide, show (-1 : Int32) + Int32.ofNat 1 = 0 by decide, show (-1 : Int32) + Int32.ofNat 2 = 1 by decide, Nat.zero_add]
/-- a fraction in lowest terms: the upper, how often 3 stays below -/
def rdc : Nat → Nat → Nat × Nat
  | 0, v => (v, 0)
  | i + 1, v => if v % 3 = 0 then rdc i (v / 3) else (v, i + 1)
theorem rdc_s (i v : Nat) : rdc (i + 1) v = if v % 3 = 0 then rdc i (v / 3) else (v, i + 1) := rfl
theorem rdc_0 : ∀ (i v : Nat), (rdc i v).1 = 0 → (rdc i v).2 = 0
  | 0, v, _ => rfl
  | i + 1, v, h => by
    unfold rdc at h ⊢
    split
    · rename_i c; rw [if_pos c] at h; exact rdc_0 i _ h
    · rename_i c
      rw [if_neg c] at h
      have h' : v = 0 := h
      subst h'; exact absurd rfl c
theorem rdc_le : ∀ (i v : Nat), (rdc i v).1 ≤ v ∧ (rdc i v).2 ≤ i
  | 0, v => ⟨Nat.le_refl _, Nat.le_refl _⟩
  | i + 1, v => by
    unfold rdc
    split
    · have := rdc_le i (v / 3)
      omega
    · exact ⟨Nat.le_refl _, Nat.le_refl _⟩
theorem m3_0 {v : Nat} (h : v < 2147483648) : (Int32.ofNat v - Int32.ofNat v / 3 * 3 = 0) ↔ v % 3 = 0 := by
  obtain ⟨d1, d2⟩ := dv3 h
  rw [d1, d2, eq_ti, show (Int32.ofNat (v % 3)).toInt = (v % 3 : Nat) from on_ti (by omega)]
  simp only [Int32.reduceToInt]; omega
theorem p3 (i : Nat) : 3 ^ (i + 1) / 3 = 3 ^ i ∧ 3 ^ (i + 1) % 3 = 0 := by
  rw [Nat.pow_succ]; omega
theorem red9 {N : Nat} {a d : Int32} (ha : a.toInt = N) (hN : N ≤ 5) {V : Nat} (hV : V ≤ 243) (m : MMt) (Q : Int32 → MMt → Prop)
    (h : (¬ d = 0 → Q (Int32.ofNat (3 ^ (rdc N V).2)) m) ∧ (d = 0 → Q (Int32.ofNat (rdc N V).1) m)) : B_X9_odds_89 a d (Int32.ofNat (3 ^ N)) (Int32.ofNat V) 0 m Q := by
  unfold B_X9_odds_89
  refine LOOP_up N (fun i z => z.2.2.2 = m ∧ z.2.2.1 = Int32.ofNat i ∧ ∃ v, z.1 = Int32.ofNat (3 ^ (N - i)) ∧ z.2.1 = Int32.ofNat v ∧ v ≤ 243 ∧ rdc (N - i) v = rdc N V) ⟨rfl, rfl, V, rfl, rfl, hV, rfl⟩ ?_ ?_
  · rintro i ⟨x5, x6, x7, z⟩ X hi ⟨e1, e2, v, e3, e4, e5, e6⟩ hX
    dsimp only at e1 e2 e3 e4 hX ⊢
    subst e1; subst e2; subst e3; subst e4
    have hi2 : TI (Int32.ofNat i) i := on_ti (by omega)
    rw [m3_0 (by omega)]
    have en : N - i = (N - (i + 1)) + 1 := by omega
    rw [en] at e6
    rw [rdc_s] at e6
    refine ⟨fun c => absurd c (nle_of ha hi2 hi), fun _ => ⟨fun c => ?_, fun c => ?_⟩⟩
    · rw [if_neg c] at e6
      refine ⟨fun c2 => ?_, fun c2 => ?_⟩
      · have := h.1 c2
        rw [← e6] at this
        rw [en]; exact this
      · have := h.2 c2
        rw [← e6] at this
        exact this
    · rw [if_pos c] at e6
      rintro v3 rfl v4 rfl v5 rfl
      have hp := p243 (q := N - i) (by omega)
      refine hX _ ⟨rfl, on_1 i, v / 3, ?_, (dv3 (by omega)).1, by omega, e6⟩
      show Int32.ofNat (3 ^ (N - i)) / 3 = _
      rw [(dv3 (by omega)).1, en, (p3 _).1]
  · rintro ⟨x5, x6, x7, z⟩ X ⟨e1, e2, v, e3, e4, e5, e6⟩
    dsimp only at e1 e2 e3 e4 ⊢
    subst e1; subst e2; subst e3; subst e4
    rw [show N - N = 0 by omega] at e6 ⊢
    have e6' : (v, 0) = rdc N V := e6
    refine ⟨fun _ => ⟨fun c2 => ?_, fun c2 => ?_⟩, fun c => absurd (le_of ha (on_ti (by omega) : (Int32.ofNat N).toInt = N) (Nat.le_refl _)) c⟩
    · have := h.1 c2
      rw [← e6'] at this; exact this
    · have := h.2 c2
      rw [← e6'] at this; exact this
theorem red10 {N : Nat} {d : Int32} (hN : N ≤ 5) {V : Nat} (hV : V ≤ 243) (m : MMt) (Q : Int32 → MMt → Prop)
    (h : (¬ d = 0 → Q (Int32.ofNat (3 ^ (rdc N V).2)) m) ∧ (d = 0 → Q (Int32.ofNat (rdc N V).1) m)) : B_X10_odds_79 d (Int32.ofNat (3 ^ N)) (Int32.ofNat V) m Q := by
  unfold B_X10_odds_79
  have out : ∀ (n v : Nat), v ≤ 243 → n ≤ 5 → (v, n) = rdc N V → B_X10_odds_108 d (Int32.ofNat (3 ^ n)) (Int32.ofNat v) m Q := by
    intro n v hv hn e
    obtain ⟨h1, h2⟩ := h
    have r0 := rdc_0 N V
    rw [← e] at h1 h2 r0
    refine ⟨fun c => ⟨fun _ => h1 c, fun c2 => ?_⟩, fun c => h2 c⟩
    have v0 : v = 0 := by
      have := congrArg Int32.toInt c2
      rw [on_ti (by omega)] at this
      simp only [Int32.reduceToInt] at this; omega
    have n0 : n = 0 := r0 v0
    have := h1 c
    rw [show (v, n).2 = n from rfl, n0] at this
    exact this
  refine LOOP_up N (fun i z => z.2.2 = m ∧ ∃ v, z.1 = Int32.ofNat (3 ^ (N - i)) ∧ z.2.1 = Int32.ofNat v ∧ v ≤ 243 ∧ rdc (N - i) v = rdc N V) ⟨rfl, V, rfl, rfl, hV, rfl⟩ ?_ ?_
  · rintro i ⟨x5, x6, z⟩ X hi ⟨e1, v, e3, e4, e5, e6⟩ hX
    dsimp only at e1 e3 e4 hX ⊢
    subst e1; subst e3; subst e4
    have en : N - i = (N - (i + 1)) + 1 := by omega
    have hp := p243 (q := N - i) (by omega)
    rw [m3_0 (by omega), m3_0 (by omega)]
    have pz : 3 ^ (N - i) % 3 = 0 := by rw [en]; exact (p3 _).2
    rw [en] at e6
    rw [rdc_s] at e6
    refine ⟨fun c => absurd pz c, fun _ => ⟨fun c => ?_, fun c => ?_⟩⟩
    · rw [if_neg c] at e6
      have := out (N - (i + 1) + 1) v e5 (by omega) e6
      rw [en]; exact this
    · rw [if_pos c] at e6
      rintro v3 rfl v4 rfl
      refine hX _ ⟨rfl, v / 3, ?_, (dv3 (by omega)).1, by omega, e6⟩
      show Int32.ofNat (3 ^ (N - i)) / 3 = _
      rw [(dv3 (by omega)).1, en, (p3 _).1]
  · rintro ⟨x5, x6, z⟩ X ⟨e1, v, e3, e4, e5, e6⟩
    dsimp only at e1 e3 e4 ⊢
    subst e1; subst e3; subst e4
    rw [show N - N = 0 by omega] at e6 ⊢
    have e6' : (v, 0) = rdc N V := e6
    exact ⟨fun _ => out 0 v e5 (by omega) e6', fun c => absurd c (by decide)⟩
theorem k_odds {n : Nat} {a b c d : Int32} {mem : MMt} (h : Inv n mem) : L_X9_odds a b c d mem (fun r m => L_X10_odds a b c d m (fun r' m' => r = r' ∧ Inv n m')) := by
  by_cases c1 : 0 ≤ a.toInt ∧ a.toInt < (mem 77 6).toInt
  · obtain ⟨g, hg⟩ : ∃ g : Nat, a.toInt = g := ⟨a.toInt.toNat, by omega⟩
    have hgn : (g : Int) < (mem 77 6).toInt := by omega
    have e2 := h.n9.2
    have hg8 : g < 8 := by omega
    by_cases c2 : 0 ≤ b.toInt ∧ b.toInt ≤ 1
    · by_cases c3 : 0 ≤ c.toInt ∧ c.toInt ≤ 5
      · by_cases c4 : 0 ≤ d.toInt ∧ d.toInt ≤ 1
        · obtain ⟨N, hN⟩ : ∃ N : Nat, c.toInt = N := ⟨c.toInt.toNat, by omega⟩
          have hN5 : N ≤ 5 := by omega
          simp only [L_X9_odds, h.i9 a, isSide9, within_sp, Int32.reduceToInt, if_pos c1, if_pos c2, if_pos c3, if_pos c4, e10, not_false_eq_true, not_true_eq_false, false_implies, forall_const, true_and, and_true, eq_self, imp_self, true_implies]
          unfold B_X9_odds_46
          have pw : ∀ i, i < N → Int32.ofNat (3 ^ i) * 3 = Int32.ofNat (3 ^ (i + 1)) := fun i hi => by
            rw [Nat.pow_succ, Int32.ofNat_mul]; rfl
          have hV : mo (mem 77) (40 * b) 50 N (gd (mem 77) g) ≤ 243 := Nat.le_trans (mo_le _ _ _ _ _) (p243 hN5)
          refine LOOP_up N (fun i z => z.2.2 = mem ∧ z.2.1 = Int32.ofNat i ∧ z.1 = Int32.ofNat (3 ^ i)) ⟨rfl, rfl, rfl⟩ ?_ ?_
          · rintro i ⟨x5, x6, z⟩ X hi ⟨q1, q2, q3⟩ hX
            dsimp only at q1 q2 q3 hX ⊢
            subst q2; subst q3
            have hi2 : TI (Int32.ofNat i) i := on_ti (by omega)
            refine ⟨fun e => absurd e (nle_of hN hi2 hi), fun _ => ?_⟩
            rintro v5 rfl v6 rfl
            exact hX _ ⟨q1, on_1 i, pw i hi⟩
          · rintro ⟨x5, x6, z⟩ X ⟨q1, q2, q3⟩
            dsimp only at q1 q2 q3 ⊢
            subst q2; subst q3; rw [q1]
            rw [tn_of hg, row3]
            refine ⟨fun _ => ⟨vp_of hg hg8, ?_⟩, fun e => absurd (le_of hN (on_ti (by omega) : (Int32.ofNat N).toInt = N) (Nat.le_refl _)) e⟩
            refine land9 (s := mem 77) (t := 40 * b) hN hN5 (side40 c2) (by omega) (by omega) (by omega) (rowX h hgn) (h.gw hgn) h.th _ fun m1 f1 => ?_
            obtain ⟨h1, e77⟩ := Inv_frC h f1
            have M : ∀ Q : Int32 → MMt → Prop, (∀ m' : MMt, FrM m1 m' → (¬ d = 0 → Q (Int32.ofNat (3 ^ (rdc N (mo (mem 77) (40 * b) 50 N (gd (mem 77) g))).2)) m') ∧ (d = 0 → Q (Int32.ofNat (rdc N (mo (mem 77) (40 * b) 50 N (gd (mem 77) g))).1) m')) → L_X10_odds a b c d m1 Q := by
              intro Q hq
              simp only [L_X10_odds, h.i10 a (m := m1) (by rw [e77]), isSide10, isIn_sp, Int64.reduceToInt, if_pos c1, if_pos c2, if_pos c3, if_pos c4, e10, not_false_eq_true, not_true_eq_false, false_implies, forall_const, true_and, and_true, eq_self, imp_self, true_implies]
              unfold B_X10_odds_50
              refine LOOP_up N (fun i z => z.2.2 = m1 ∧ z.2.1 = Int32.ofNat i ∧ z.1 = Int32.ofNat (3 ^ i)) ⟨rfl, rfl, rfl⟩ ?_ ?_
              · rintro i ⟨x5, x6, z⟩ X hi ⟨q1, q2, q3⟩ hX
                dsimp only at q1 q2 q3 hX ⊢
                subst q2; subst q3
                have hi2 : TI (Int32.ofNat i) i := on_ti (by omega)
                refine ⟨fun e => absurd e (nle_of hN hi2 hi), fun _ => ?_⟩
                rintro v5 rfl v6 rfl
                exact hX _ ⟨q1, on_1 i, pw i hi⟩
              · rintro ⟨x5, x6, z⟩ X ⟨q1, q2, q3⟩
                dsimp only at q1 q2 q3 ⊢
                subst q2; subst q3; rw [q1]
                refine ⟨fun _ => ?_, fun e => absurd (le_of hN (on_ti (by omega) : (Int32.ofNat N).toInt = N) (Nat.le_refl _)) e⟩
                refine many10 hg hg8 h.wl (t := 40 * b) rfl 50 60 N (gd (mem 77) g) c 50 m1 (by decide) (by decide) hN5 (h.gw hgn) rfl (Or.inl hN) (by rw [e77, PUT_self]) _ fun m2 k1 => ?_
                exact red10 hN5 hV m2 _ (hq m2 k1)
            refine red9 hN hN5 hV m1 _ ⟨fun e => M _ fun m' k1 => ⟨fun _ => ⟨rfl, (Inv_frM h1 k1).1⟩, fun z => absurd z e⟩, fun e => M _ fun m' k1 => ⟨fun z => absurd e z, fun _ => ⟨rfl, (Inv_frM h1 k1).1⟩⟩⟩
        · simp only [L_X9_odds, h.i9 a, isSide9, within_sp, Int32.reduceToInt, if_pos c1, if_pos c2, if_pos c3, if_neg c4, e10, not_false_eq_true, not_true_eq_false, false_implies, forall_const, true_and, and_true, eq_self, imp_self, true_implies]
          refine err_end h (by decide) (R := fun Q m => L_X10_odds a b c d m Q) fun m Q hm he => ?_
          simp only [L_X10_odds, h.i10 a (m := m) (by rw [hm 77 (by decide)]), isSide10, isIn_sp, Int64.reduceToInt, if_pos c1, if_pos c2, if_pos c3, if_neg c4, e10, not_false_eq_true, not_true_eq_false, false_implies, forall_const, true_and, and_true, eq_self, imp_self, true_implies]
          exact he
      · simp only [L_X9_odds, h.i9 a, isSide9, within_sp, Int32.reduceToInt, if_pos c1, if_pos c2, if_neg c3, e10, not_false_eq_true, not_true_eq_false, false_implies, forall_const, true_and, and_true, eq_self, imp_self, true_implies]
        refine err_end h (by decide) (R := fun Q m => L_X10_odds a b c d m Q) fun m Q hm he => ?_
        simp only [L_X10_odds, h.i10 a (m := m) (by rw [hm 77 (by decide)]), isSide10, isIn_sp, Int64.reduceToInt, if_pos c1, if_pos c2, if_neg c3, e10, not_false_eq_true, not_true_eq_false, false_implies, forall_const, true_and, and_true, eq_self, imp_self, true_implies]
        exact he
    · simp only [L_X9_odds, h.i9 a, isSide9, if_pos c1, if_neg c2, e10, not_false_eq_true, not_true_eq_false, false_implies, forall_const, true_and, and_true, eq_self, imp_self, true_implies]
      refine err_end h (by decide) (R := fun Q m => L_X10_odds a b c d m Q) fun m Q hm he => ?_
      simp only [L_X10_odds, h.i10 a (m := m) (by rw [hm 77 (by decide)]), isSide10, if_pos c1, if_neg c2, e10, not_false_eq_true, not_true_eq_false, false_implies, forall_const, true_and, and_true, eq_self, imp_self, true_implies]
      exact he
  · simp only [L_X9_odds, h.i9 a, if_neg c1, e10, not_false_eq_true, not_true_eq_false, false_implies, forall_const, true_and, and_true, eq_self, imp_self, true_implies]
    refine err_end h (by decide) (R := fun Q m => L_X10_odds a b c d m Q) fun m Q hm he => ?_
    simp only [L_X10_odds, h.i10 a (m := m) (by rw [hm 77 (by decide)]), if_neg c1, e10, not_false_eq_true, not_true_eq_false, false_implies, forall_const, true_and, and_true, eq_self, imp_self, true_implies]
    exact he
