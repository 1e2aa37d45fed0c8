/-- FLOORS of the first k goods together -/
def flo (s : Nat → Int32) : Nat → Int32
  | 0 => 0
  | k + 1 => flo s k + gd s k 2
theorem floors9 {cb : Nat} {s : Nat → Int32} {mem : MMt} (hC : CR cb s mem) (hG : WG s) (Q : Int32 → MMt → Prop) (h : Q (flo s (s 6).toInt.toNat) mem) : L_X0_floorsTogether cb mem Q := by
  have w6 := hG.1
  obtain ⟨N, hN⟩ : ∃ N : Nat, (s 6).toInt = N := ⟨(s 6).toInt.toNat, by omega⟩
  rw [show (s 6).toInt.toNat = N by omega] at h
  unfold L_X0_floorsTogether B_X0_floorsTogether_4
  refine LOOP_up N (fun k z => z.2.1 = Int32.ofNat k ∧ z.1 = flo s k ∧ z.2.2 = mem) ⟨rfl, rfl, rfl⟩ ?_ ?_
  · rintro k ⟨y, x, m⟩ X hk ⟨e1, e2, e3⟩ hX
    dsimp only at e1 e2 e3 hX ⊢
    subst e1; subst e2; subst e3
    have hk2 : TI (Int32.ofNat k) k := on_ti (by omega)
    rw [hC.1, hk2.tn, hC.2.2.2 k (by omega) 2 (by decide)]
    refine ⟨fun d => absurd d (nle_of hN hk2 hk), fun _ => ⟨hk2.vp (by omega), ?_⟩⟩
    rintro v3 rfl v4 rfl
    exact hX _ ⟨on_1 k, rfl, rfl⟩
  · rintro ⟨y, x, m⟩ X ⟨e1, e2, e3⟩
    dsimp only at e1 e2 e3 ⊢
    subst e1; subst e2; subst e3
    rw [hC.1]
    exact ⟨fun _ => h, fun d => absurd (le_of hN (on_ti (by omega) : (Int32.ofNat N).toInt = N) (Nat.le_refl _)) d⟩
theorem floors10 {mem : MMt} (hG : WG (mem 77)) (Q : Int32 → MMt → Prop) (h : Q (flo (mem 77) (mem 77 6).toInt.toNat) mem) : L_X10_floors mem Q := by
  have w6 := hG.1
  obtain ⟨N, hN⟩ : ∃ N : Nat, (mem 77 6).toInt = N := ⟨(mem 77 6).toInt.toNat, by omega⟩
  rw [show (mem 77 6).toInt.toNat = N by omega] at h
  unfold L_X10_floors B_X10_floors_4
  refine LOOP_up N (fun k z => z.2.1 = Int32.ofNat k ∧ z.1 = flo (mem 77) k ∧ z.2.2 = mem) ⟨rfl, rfl, rfl⟩ ?_ ?_
  · rintro k ⟨y, x, m⟩ X hk ⟨e1, e2, e3⟩ hX
    dsimp only at e1 e2 e3 hX ⊢
    subst e1; subst e2; subst e3
    have hk2 : TI (Int32.ofNat k) k := on_ti (by omega)
    refine ⟨fun d => absurd d (nle_of hN hk2 hk), fun _ => ?_⟩
    refine of10 (j := 2) hk2 (by omega) rfl (by decide) _ _ ?_
    rintro v3 rfl v4 rfl
    exact hX _ ⟨on_1 k, rfl, rfl⟩
  · rintro ⟨y, x, m⟩ X ⟨e1, e2, e3⟩
    dsimp only at e1 e2 e3 ⊢
    subst e1; subst e2; subst e3
    exact ⟨fun _ => h, fun d => absurd (le_of hN (on_ti (by omega) : (Int32.ofNat N).toInt = N) (Nat.le_refl _)) d⟩
/-- the k-th number that waits is so -/
def okW (s : Nat → Int32) (k : Nat) : Prop := flo (psN s (k + 1)) (s 6).toInt.toNat = s (100 + k)
theorem k_check {n : Nat} {mem : MMt} (h : Inv n mem) : L_X9_check mem (fun r m => L_X10_check m (fun r' m' => r = r' ∧ Inv n m')) := by
  have hG := h.1.2
  obtain ⟨⟨⟨a1, a2, a3, a4, a5, a6⟩, b1, b2, b3, b4, b5⟩, w1, w2, w3, w4⟩ := h.2.1
  obtain ⟨W, hW⟩ : ∃ W : Nat, (mem 77 8).toInt = W := ⟨(mem 77 8).toInt.toNat, by omega⟩
  have hW20 : W ≤ 20 := by omega
  rintro v1 hv1 m1 hm1
  rw [a6] at hv1
  have r1 : ∀ q, q ≠ 11 → m1 q = mem q := fun q hq => by rw [hm1, up2_ro _ _ _ _ _ hq]
  have c11 : ∀ j, m1 11 j = if j = 6 then 0 else mem 11 j := fun j => by rw [hm1, uq]
  have hC1 : CR 1 (mem 77) m1 := CR_congr h.1.1 (fun j _ _ => by rw [r1 1 (by decide)]) (fun g j hg _ => by rw [r1 _ (by omega)]) (fun _ _ => rfl) hG.1.2
  refine copyC (by omega) hC1 hG _ fun m2 g1 g2 => ?_
  have hT2 : TH2 (mem 77) m2 := TH2_le h.th2 (LE2.rf _) (fun q hq => by rw [g1 q (by omega) (by omega), r1 q (by omega)]) (MEM_congr h.mem (by rw [g1 21 (by decide) (by decide), r1 21 (by decide)]) fun _ _ => rfl)
  have model : ∀ (m : MMt) (K : Nat), (∀ q, (q < 43 ∨ 52 < q) → q ≠ 21 → q ≠ 17 → q ≠ 20 → m q = m1 q) → MEM (mem 77) m → K ≤ W → (∀ k, k < K → okW (mem 77) k) → (K = W ∨ (K < W ∧ ¬ okW (mem 77) K)) →
      L_X10_check m (fun r' m' => (if K = W then (0 : Int32) else Int32.ofNat (K + 1)) = r' ∧ Inv n m') := by
    intro m K fr hM hKW hok hend
    have f77 : m 77 = mem 77 := by rw [fr 77 (by decide) (by decide) (by decide) (by decide), r1 77 (by decide)]
    refine saves10 _ fun m3 l1 l2 l3 l4 => ?_
    have f3 : m3 77 = mem 77 := by rw [l1 77 (by decide), f77]
    have out : ∀ (i : Nat) (z : MMt), (∀ q, q ≠ 76 → q ≠ 77 → q ≠ 81 → q ≠ 82 → z q = m3 q) → (∀ j, j ≠ 12 → j ≠ 13 → z 76 j = m3 76 j) → z 77 = psN (mem 77) i → B_X10_check_57 (if K = W then (0 : Int32) else Int32.ofNat (K + 1)) z (fun r' m' => (if K = W then (0 : Int32) else Int32.ofNat (K + 1)) = r' ∧ Inv n m') := by
      intro i z p2 p3 p4
      refine puts10 _ fun m5 q1 q2 q3 q4 q5 => ?_
      rintro m6 hm6
      refine ⟨rfl, ?_⟩
      have b83 : ∀ x, z 83 x = m3 83 x := fun x => by rw [p2 83 (by decide) (by decide) (by decide) (by decide)]
      have e77 : m5 77 = mem 77 := by
        refine back_eq ?_ ?_ ?_ ?_
        · rw [q2, b83, l2, f77]
        · rw [q3, b83, l3, f77]
        · intro x hx; rw [q4 x hx, b83, l4 x hx, f77]
        · intro x h0 h1 h2; rw [q5 x h0 h1 h2, p4]; exact psN_o hG h0 h1 h2 i
      have e21 : m6 21 = m 21 := by rw [hm6, up2_ro _ _ _ _ _ (by decide), q1 21 (by decide), p2 21 (by decide) (by decide) (by decide) (by decide), l1 21 (by decide)]
      have gen : ∀ q, ¬ SC q → q ≠ 77 → q ≠ 11 → m6 q = mem q := fun q hq e77 e11 => by
        unfold SC at hq
        rw [hm6, up2_ro _ _ _ _ _ e77, q1 q e77, p2 q (by omega) e77 (by omega) (by omega), l1 q (by omega), fr q (by omega) (by omega) (by omega) (by omega), r1 q e11]
      have g11 : ∀ j, m6 11 j = if j = 6 then 0 else mem 11 j := fun j => by
        rw [hm6, up2_ro _ _ _ _ _ (by decide), q1 11 (by decide), p2 11 (by decide) (by decide) (by decide) (by decide), l1 11 (by decide), fr 11 (by decide) (by decide) (by decide) (by decide), c11]
      have g77 : ∀ j, m6 77 j = if j = 8 then 0 else mem 77 j := fun j => by rw [hm6, uq, e77]
      have h76 : ∀ j, j ≠ 12 → j ≠ 13 → m6 76 j = mem 76 j := fun j j1 j2 => by
        rw [hm6, up2_ro _ _ _ _ _ (by decide), q1 76 (by decide), p3 j j1 j2, l1 76 (by decide), fr 76 (by decide) (by decide) (by decide) (by decide), r1 76 (by decide)]
      have hV : Inv n (fun q => if q = 77 then mem 77 else if q = 11 then mem 11 else m6 q) := by
        refine Inv_sc h (fun q hq => ?_) ?_ (MEM_congr hM ?_ fun _ _ => rfl)
        · show (if q = 77 then mem 77 else if q = 11 then mem 11 else m6 q) = mem q
          by_cases e : q = 77
          · rw [if_pos e, e]
          · rw [if_neg e]
            by_cases e2 : q = 11
            · rw [if_pos e2, e2]
            · rw [if_neg e2, gen q hq e e2]
        · exact ⟨h76 2 (by decide) (by decide), h76 3 (by decide) (by decide), h76 24 (by decide) (by decide)⟩
        · exact e21
      have v77 : (fun q => if q = 77 then mem 77 else if q = 11 then mem 11 else m6 q) 77 = mem 77 := rfl
      have v11 : (fun q => if q = 77 then mem 77 else if q = 11 then mem 11 else m6 q) 11 = mem 11 := rfl
      have n13 := gen 13 (by unfold SC; omega) (by decide) (by decide)
      refine Inv_w hV (fun q q1 q2 q3 q4 => ?_) (fun j j1 j2 => ?_) ?_ ?_ ?_ ?_ ?_ ?_ ?_ (fun x x1 x2 x3 => ?_)
      · show m6 q = if q = 77 then mem 77 else if q = 11 then mem 11 else m6 q
        rw [if_neg q4, if_neg q1]
      · show m6 11 j = mem 11 j
        rw [g11, if_neg j2]
      · rw [g11, g77]; exact a5
      · rw [g11, g77]; rfl
      · rw [g77]; exact w2
      · rw [g77, if_pos rfl]; exact ⟨by decide, by decide⟩
      · intro x hx
        rw [g77, if_neg (by decide)] at hx
        rw [g77, if_neg (by omega), n13]; exact b1 x hx
      · rw [n13]; exact b2
      · intro x hx
        rw [g77, if_pos rfl] at hx
        exact absurd hx (by simp only [Int32.reduceToInt]; omega)
      · show m6 77 x = mem 77 x
        rw [g77, if_neg x2]
    have wl3 : WL (m3 77) := by rw [f3]; exact w4
    have hG3 : WG (m3 77) := by rw [f3]; exact hG
    have run : ∀ (k : Nat) (z : MMt) (X : MMt → (Int32 → MMt → Prop)), k < W → (∀ q, q ≠ 76 → q ≠ 77 → q ≠ 81 → q ≠ 82 → z q = m3 q) → (∀ j, j ≠ 12 → j ≠ 13 → z 76 j = m3 76 j) → z 77 = psN (m3 77) k →
        ∀ Y : (Int32 × Int32 × MMt → Prop), (∀ z' : MMt, (∀ q, q ≠ 76 → q ≠ 77 → q ≠ 81 → q ≠ 82 → z' q = m3 q) → (∀ j, j ≠ 12 → j ≠ 13 → z' 76 j = m3 76 j) → z' 77 = psN (m3 77) (k + 1) → (okW (mem 77) k → Y (0, Int32.ofNat (k + 1), z')) ∧ (¬ okW (mem 77) k → Y (Int32.ofNat (k + 1), Int32.ofNat (k + 1), z'))) →
        L_X10_step z (fun m3' => L_X10_floors m3' (fun r5 m4 => (vp_in ((100 : Int32) + Int32.ofNat k) 322 ∧ ((¬ r5 = (m4 77 ((100 : Int32) + Int32.ofNat k).toNatClampNeg) → B_X10_check_50 Y (Int32.ofNat k) (Int32.ofNat k + (1 : Int32)) m4 (fun r' m' => (if K = W then (0 : Int32) else Int32.ofNat (K + 1)) = r' ∧ Inv n m')) ∧ (r5 = (m4 77 ((100 : Int32) + Int32.ofNat k).toNatClampNeg) → B_X10_check_50 Y (Int32.ofNat k) (0 : Int32) m4 (fun r' m' => (if K = W then (0 : Int32) else Int32.ofNat (K + 1)) = r' ∧ Inv n m')))))) := by
      intro k z X hk p2 p3 p4 Y hY
      have hk2 : TI (Int32.ofNat k) k := on_ti (by omega)
      have i1 : TI ((100 : Int32) + Int32.ofNat k) (100 + k) := TI.add (rfl : TI 100 100) hk2 (by omega)
      refine stepN10 hG3 wl3 k p2 p3 p4 _ fun z' q1 q2 q3 => ?_
      refine floors10 (by rw [q3]; exact psN_WG hG3 _) _ ?_
      have s6 : psN (mem 77) (k + 1) 6 = mem 77 6 := psN_o hG (by decide) (by decide) (by decide) _
      have s100 : psN (mem 77) (k + 1) (100 + k) = mem 77 (100 + k) := psN_o hG (by omega) (by omega) (by omega) _
      obtain ⟨y1, y2⟩ := hY z' q1 q2 q3
      rw [i1.tn, q3, f3, s6, s100]
      refine ⟨i1.vp (by omega), fun d => ?_, fun d => ?_⟩
      · rintro w rfl; rw [on_1]; exact y2 d
      · rintro w rfl; rw [on_1]; exact y1 d
    unfold B_X10_check_8
    rcases hend with e | ⟨hlt, hno⟩
    · subst e
      rw [if_pos rfl] at out ⊢
      refine LOOP_up K (fun k z => z.1 = 0 ∧ z.2.1 = Int32.ofNat k ∧ (∀ q, q ≠ 76 → q ≠ 77 → q ≠ 81 → q ≠ 82 → z.2.2 q = m3 q) ∧ (∀ j, j ≠ 12 → j ≠ 13 → z.2.2 76 j = m3 76 j) ∧ z.2.2 77 = psN (m3 77) k) ⟨rfl, rfl, fun _ _ _ _ _ => rfl, fun _ _ _ => rfl, rfl⟩ ?_ ?_
      · rintro k ⟨y, x, z⟩ X hk ⟨p0, p1, p2, p3, p4⟩ hX
        dsimp only at p0 p1 p2 p3 p4 hX ⊢
        subst p0; subst p1
        have hk2 : TI (Int32.ofNat k) k := on_ti (by omega)
        have e8 : z 77 8 = mem 77 8 := by rw [p4, f3]; exact psN_o hG (by decide) (by decide) (by decide) k
        rw [e8]
        refine ⟨fun d => absurd d (nle_of hW hk2 hk), fun _ => ⟨fun d => absurd rfl d, fun _ => ?_⟩⟩
        have := run k z (fun _ _ _ => True) hk p2 p3 p4 X fun z' q1 q2 q3 => ⟨fun _ => hX _ ⟨rfl, rfl, q1, q2, q3⟩, fun d => absurd (hok k hk) d⟩
        rw [if_pos rfl] at this
        exact this
      · rintro ⟨y, x, z⟩ X ⟨p0, p1, p2, p3, p4⟩
        dsimp only at p0 p1 p2 p3 p4 ⊢
        subst p0; subst p1
        have e8 : z 77 8 = mem 77 8 := by rw [p4, f3]; exact psN_o hG (by decide) (by decide) (by decide) K
        rw [e8]
        rw [f3] at p4
        exact ⟨fun _ => out K z p2 p3 p4, fun d => absurd (le_of hW (on_ti (by omega) : (Int32.ofNat K).toInt = K) (Nat.le_refl _)) d⟩
    · have hne : ¬ K = W := by omega
      rw [if_neg hne] at out ⊢
      refine LOOP_up (K + 1) (fun k z => z.1 = (if k = K + 1 then Int32.ofNat (K + 1) else 0) ∧ z.2.1 = Int32.ofNat k ∧ (∀ q, q ≠ 76 → q ≠ 77 → q ≠ 81 → q ≠ 82 → z.2.2 q = m3 q) ∧ (∀ j, j ≠ 12 → j ≠ 13 → z.2.2 76 j = m3 76 j) ∧ z.2.2 77 = psN (m3 77) k) ⟨by rw [if_neg (by omega)], rfl, fun _ _ _ _ _ => rfl, fun _ _ _ => rfl, rfl⟩ ?_ ?_
      · rintro k ⟨y, x, z⟩ X hk ⟨p0, p1, p2, p3, p4⟩ hX
        dsimp only at p0 p1 p2 p3 p4 hX ⊢
        rw [if_neg (by omega)] at p0
        subst p0; subst p1
        have hk2 : TI (Int32.ofNat k) k := on_ti (by omega)
        have e8 : z 77 8 = mem 77 8 := by rw [p4, f3]; exact psN_o hG (by decide) (by decide) (by decide) k
        rw [e8]
        refine ⟨fun d => absurd d (nle_of hW hk2 (by omega)), fun _ => ⟨fun d => absurd rfl d, fun _ => ?_⟩⟩
        have := run k z (fun _ _ _ => True) (by omega) p2 p3 p4 X fun z' q1 q2 q3 => ⟨fun d => hX _ ⟨by
            have : k ≠ K := fun e => hno (e ▸ d)
            rw [if_neg (by omega)], rfl, q1, q2, q3⟩, fun d => hX _ ⟨by
            have : k = K := by
              rcases Nat.lt_or_ge k K with z | z
              · exact absurd (hok k z) d
              · omega
            rw [if_pos (by omega), this], rfl, q1, q2, q3⟩⟩
        rw [if_neg hne] at this
        exact this
      · rintro ⟨y, x, z⟩ X ⟨p0, p1, p2, p3, p4⟩
        dsimp only at p0 p1 p2 p3 p4 ⊢
        rw [if_pos rfl] at p0
        subst p0; subst p1
        have nz : ¬ Int32.ofNat (K + 1) = 0 := by
          intro e
          have := congrArg Int32.toInt e
          rw [on_ti (by omega)] at this
          simp only [Int32.reduceToInt] at this; omega
        rw [f3] at p4
        have O := out (K + 1) z p2 p3 p4
        exact ⟨fun _ => O, fun _ => ⟨fun _ => O, fun d => absurd d nz⟩⟩
  unfold B_X9_check_29
  refine LOOP_up W (fun k z => z.1 = Int32.ofNat k ∧ (∀ q, q < k → okW (mem 77) q) ∧ (∀ q, q ≠ 43 → (q < 45 ∨ 52 < q) → q ≠ 21 → q ≠ 17 → q ≠ 20 → z.2 q = m2 q) ∧ CR 43 (psN (mem 77) k) z.2 ∧ MEM (mem 77) z.2) ⟨rfl, fun q hq => absurd hq (by omega), fun _ _ _ _ _ _ => rfl, g2, hT2.1.2.2.2⟩ ?_ ?_
  · rintro k ⟨x, m⟩ X hk ⟨p1, p0, p2, p3, p4⟩ hX
    dsimp only at p1 p0 p2 p3 p4 hX ⊢
    subst p1
    have hk2 : TI (Int32.ofNat k) k := on_ti (by omega)
    rw [hv1]
    refine ⟨fun d => absurd d (nle_of hW hk2 hk), fun _ => ?_⟩
    refine goOnN9 (Or.inr rfl) g2 hG hT2 k p2 p3 p4 _ fun m' q1 q2 q3 => ?_
    refine floors9 q2 (psN_WG hG _) _ ?_
    have s6 : psN (mem 77) (k + 1) 6 = mem 77 6 := psN_o hG (by decide) (by decide) (by decide) _
    have w14 : m' 14 k = mem 77 (100 + k) := by
      rw [q1 14 (by decide) (by decide) (by decide) (by decide) (by decide), g1 14 (by decide) (by decide), r1 14 (by decide)]; exact b3 k (by omega)
    rw [hk2.tn, w14, s6]
    refine ⟨hk2.vp (by omega), fun d => ?_, fun d => ?_⟩
    · rintro v7 rfl
      exact hX _ ⟨on_1 k, dec3 k p0 d, q1, q2, q3⟩
    · have := model m' k (fun q z1 z2 z3 z4 => by rw [q1 q (by omega) (by omega) z2 z3 z4, g1 q (by omega) (by omega)]) q3 (by omega) p0 (Or.inr ⟨hk, d⟩)
      rw [if_neg (by omega), ← on_1, Int32.add_comm] at this
      exact this
  · rintro ⟨x, m⟩ X ⟨p1, p0, p2, p3, p4⟩
    dsimp only at p1 p0 p2 p3 p4 ⊢
    subst p1
    rw [hv1]
    refine ⟨fun _ => ?_, fun d => absurd (le_of hW (on_ti (by omega) : (Int32.ofNat W).toInt = W) (Nat.le_refl _)) d⟩
    have := model m W (fun q z1 z2 z3 z4 => by rw [p2 q (by omega) (by omega) z2 z3 z4, g1 q (by omega) (by omega)]) p4 (Nat.le_refl _) p0 (Or.inl rfl)
    rw [if_pos rfl] at this
    exact this
