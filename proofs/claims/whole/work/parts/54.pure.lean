theorem held50 {x : Int32} {L : Nat} (hx : x.toInt = L) (hL : L ≤ 50) : hld x 0 50 = x := by
  unfold hld
  rw [if_neg (by rw [Int32.lt_iff_toInt_lt, hx]; simp only [Int32.reduceToInt]; omega), if_neg (by rw [Int32.lt_iff_toInt_lt, hx]; simp only [Int32.reduceToInt]; omega)]
theorem hold9 {q a L : Nat} {len : Int32} (hl : len.toInt = L) (hL : L ≤ 50) (ha : a ≠ q) (ha2 : a ≠ q + 1) {mem : MMt} (Q : MMt → Prop)
    (h : ∀ m' : MMt, (∀ b, b ≠ q → b ≠ q + 1 → m' b = mem b) → (∀ j, j ≠ 2 → m' q j = mem q j) → m' q 2 = len → (∀ k, k < L → m' (q + 1) k = mem a k) → Q m') : L_X2_hold q a len mem Q := by
  unfold L_X2_hold
  rw [held_sp (by decide), held50 hl hL]
  rintro m3 hm3
  have z0 : (0 : Int32).toNatClampNeg = 0 := rfl
  have e2 : m3 q 2 = len := by rw [hm3, up2_eq]
  rw [e2, tn_of hl, z0]
  refine ⟨⟨by decide, by decide, by rw [Int32.lt_iff_toInt_lt, hl]; simp only [Int32.reduceToInt]; omega, by omega, by omega⟩, ?_⟩
  rintro m4 hm4
  have r4 : ∀ b, b ≠ q + 1 → m4 b = m3 b := fun b hb => by rw [hm4]; funext j; unfold cp2; rw [if_neg hb]
  refine h m4 (fun b b1 b2 => by rw [r4 b b2, hm3, up2_ro _ _ _ _ _ b1]) (fun j hj => by rw [r4 q (by omega), hm3, uq, if_neg hj]) (by rw [r4 q (by omega), e2]) (fun k hk => ?_)
  rw [hm4]
  unfold cp2 va_cpy
  rw [if_pos rfl, if_pos (by omega), hm3, up2_ro _ _ _ _ _ ha]
  congr 1; omega
theorem LWR_len {lq o : Nat} {s : Nat → Int32} {mem : MMt} (h : LWR lq s o mem) : ∃ L : Nat, (mem lq 2).toInt = L ∧ L ≤ 50 ∧ ((s o = -1 ∧ L = 0) ∨ (s o).toInt.toNat = L) := by
  rcases h with ⟨h1, h2⟩ | ⟨h1, h2, h3, h4⟩
  · exact ⟨0, by rw [h2]; rfl, by omega, Or.inl ⟨h1, rfl⟩⟩
  · exact ⟨(s o).toInt.toNat, by rw [h3]; omega, by omega, Or.inr rfl⟩
theorem LWR_cp {la lb o : Nat} {s : Nat → Int32} {mem m' : MMt} (h : LWR la s o mem) (h2 : m' lb 2 = mem la 2) {L : Nat} (hL : (mem la 2).toInt = L) (hw : ∀ k, k < L → m' (lb + 1) k = mem (la + 1) k) : LWR lb s o m' := by
  rcases h with ⟨g1, g2⟩ | ⟨g1, g2, g3, g4⟩
  · exact Or.inl ⟨g1, h2.trans g2⟩
  · refine Or.inr ⟨g1, g2, h2.trans g3, fun k hk => ?_⟩
    rw [hw k (by rw [g3] at hL; omega)]
    exact g4 k hk
theorem fits_b {x : Int32} (h : -128 ≤ x.toInt ∧ x.toInt ≤ 127) : fits .byte (.int x) = true := by
  have h1 : (-128 : Int32) ≤ x := by rw [Int32.le_iff_toInt_le]; simp only [Int32.reduceToInt]; exact h.1
  have h2 : x ≤ (127 : Int32) := by rw [Int32.le_iff_toInt_le]; simp only [Int32.reduceToInt]; exact h.2
  show (decide (-128 ≤ x) && decide (x ≤ 127)) = true
  simp [h1, h2]
/-- a setting is copied -/
theorem copyS {qb qa : Nat} (hd : qb + 10 < qa ∨ qa + 10 < qb) {s : Nat → Int32} {mem : MMt} (hS : SRr qa s mem) (hW : WS s) (Q : MMt → Prop)
    (h : ∀ m' : MMt, (∀ a, (a < qb ∨ qb + 10 < a) → m' a = mem a) → m' (qb + 4) 0 = mem (qb + 4) 0 → m' (qb + 7) 0 = mem (qb + 7) 0 → (∀ i, i < 410 → m' (qb + 10) i = 100) → SRr qb s m' → Q m') : L_X5_copyFrom qb qa mem Q := by
  obtain ⟨⟨a1, a2, a3, a4, a5, a6⟩, b1, b2, b3, b4, b5⟩ := hS
  obtain ⟨w1, w2, w3, w4⟩ := hW
  have z0 : (0 : Int32).toNatClampNeg = 0 := rfl
  have z50 : (50 : Int32).toNatClampNeg = 50 := rfl
  have z20 : (20 : Int32).toNatClampNeg = 20 := rfl
  rintro m1 hm1 m2 hm2 m3 hm3 m4 hm4 m5 hm5
  have r5 : ∀ a, a ≠ qb → a ≠ qb + 1 → m5 a = mem a := fun a h1 h2 => by rw [hm5, up2_ro _ _ _ _ _ h1, hm4, up2_ro _ _ _ _ _ h1, hm3, up2_ro _ _ _ _ _ h2, hm2, up2_ro _ _ _ _ _ h2, hm1, up2_ro _ _ _ _ _ h1]
  have p0 : m5 qb 0 = s 2 := by rw [hm5, uq, if_neg (by decide), hm4, uq, if_neg (by decide), hm3, up2_ro _ _ _ _ _ (by omega), hm2, up2_ro _ _ _ _ _ (by omega), hm1, up2_eq]; exact a1
  have p2 : m5 qb 2 = s 5 := by rw [hm5, uq, if_neg (by decide), hm4, up2_eq, hm3, up2_ro _ _ _ _ _ (by omega), hm2, up2_ro _ _ _ _ _ (by omega), hm1, up2_ro _ _ _ _ _ (by omega)]; exact a4
  have p4 : m5 qb 4 = s 7 := by rw [hm5, up2_eq, hm4, up2_ro _ _ _ _ _ (by omega), hm3, up2_ro _ _ _ _ _ (by omega), hm2, up2_ro _ _ _ _ _ (by omega), hm1, up2_ro _ _ _ _ _ (by omega)]; exact a5
  have p10 : m5 (qb + 1) 0 = s 3 := by rw [hm5, up2_ro _ _ _ _ _ (by omega), hm4, up2_ro _ _ _ _ _ (by omega), hm3, uq, if_neg (by decide), hm2, up2_eq, hm1, up2_ro _ _ _ _ _ (by omega)]; exact a2
  have p11 : m5 (qb + 1) 1 = s 4 := by rw [hm5, up2_ro _ _ _ _ _ (by omega), hm4, up2_ro _ _ _ _ _ (by omega), hm3, up2_eq, hm2, up2_ro _ _ _ _ _ (by omega), hm1, up2_ro _ _ _ _ _ (by omega)]; exact a3
  clear hm1 hm2 hm3 hm4 hm5
  rw [z0, z50, z20]
  refine ⟨⟨by decide, by decide, by decide, by decide, by decide⟩, fun i hi => ?_, ?_⟩
  · rw [r5 _ (by omega) (by omega), Nat.zero_add]
    exact fits_b (b2 i hi)
  rintro m6 hm6 m8 hm8
  have r6 : ∀ a, a ≠ qb + 2 → m6 a = m5 a := fun a ha => by rw [hm6]; funext j; unfold cp2; rw [if_neg ha]
  have t6 : ∀ i, i < 50 → m6 (qb + 2) i = mem (qa + 2) i := fun i hi => by
    rw [hm6]; unfold cp2 va_cpy
    rw [if_pos rfl, if_pos (by omega), r5 _ (by omega) (by omega)]
    congr 1; omega
  have r8 : ∀ a, a ≠ qb → m8 a = m6 a := fun a ha => by rw [hm8, up2_ro _ _ _ _ _ ha]
  have p86 : m8 qb 6 = s 8 := by rw [hm8, up2_eq, r6 _ (by omega), r5 _ (by omega) (by omega)]; exact a6
  have p8 : ∀ j, j ≠ 6 → m8 qb j = m5 qb j := fun j hj => by rw [hm8, uq, if_neg hj, r6 _ (by omega)]
  refine ⟨⟨by decide, by decide, by decide, by decide, by decide⟩, ?_⟩
  rintro m9 hm9
  have r9 : ∀ a, a ≠ qb + 3 → m9 a = m8 a := fun a ha => by rw [hm9]; funext j; unfold cp2; rw [if_neg ha]
  have t9 : ∀ i, i < 20 → m9 (qb + 3) i = mem (qa + 3) i := fun i hi => by
    rw [hm9]; unfold cp2 va_cpy
    rw [if_pos rfl, if_pos (by omega), r8 _ (by omega), r6 _ (by omega), r5 _ (by omega) (by omega)]
    congr 1; omega
  have R9 : ∀ a, a ≠ qb → a ≠ qb + 1 → a ≠ qb + 2 → a ≠ qb + 3 → m9 a = mem a := fun a h1 h2 h3 h4 => by rw [r9 a h4, r8 a h1, r6 a h3, r5 a h1 h2]
  obtain ⟨L1, l1, l2, -⟩ := LWR_len b4
  obtain ⟨L2, k1, k2, -⟩ := LWR_len b5
  rw [R9 (qa + 4) (by omega) (by omega) (by omega) (by omega)]
  refine hold9 l1 l2 (by omega) (by omega) _ fun m11 u1 u2 u3 u4 => ?_
  rw [u1 (qa + 7) (by omega) (by omega), R9 (qa + 7) (by omega) (by omega) (by omega) (by omega)]
  refine hold9 k1 k2 (by omega) (by omega) _ fun m12 v1 v2 v3 v4 => ?_
  refine fillB_spec (by decide) _ ?_
  have e100 : (100 : Int32).toInt8.toInt32 = 100 := by decide
  rw [e100]
  generalize hm' : fil m12 (qb + 10) 410 100 = m'
  have F : ∀ a, a ≠ qb + 10 → m' a = m12 a := fun a ha => by rw [← hm']; funext j; unfold fil; rw [if_neg (by omega)]
  have F10 : ∀ i, i < 410 → m' (qb + 10) i = 100 := fun i hi => by rw [← hm']; unfold fil; rw [if_pos ⟨rfl, hi⟩]
  clear hm'
  have G : ∀ a, a ≠ qb + 4 → a ≠ qb + 5 → a ≠ qb + 7 → a ≠ qb + 8 → a ≠ qb + 10 → m' a = m9 a := fun a x1 x2 x3 x4 x5 => by
    rw [F a x5, v1 a x3 (by omega), u1 a x1 (by omega)]
  refine h m' (fun a ha => by rw [G a (by omega) (by omega) (by omega) (by omega) (by omega), R9 a (by omega) (by omega) (by omega) (by omega)]) ?_ ?_ F10 ⟨⟨?_, ?_, ?_, ?_, ?_, ?_⟩, ?_, ?_, ?_, ?_, ?_⟩
  · rw [F _ (by omega), v1 _ (by omega) (by omega), u2 0 (by decide), R9 _ (by omega) (by omega) (by omega) (by omega)]
  · rw [F _ (by omega), v2 0 (by decide), u1 _ (by omega) (by omega), R9 _ (by omega) (by omega) (by omega) (by omega)]
  · rw [G qb (by omega) (by omega) (by omega) (by omega) (by omega), r9 _ (by omega), p8 0 (by decide), p0]
  · rw [G _ (by omega) (by omega) (by omega) (by omega) (by omega), r9 _ (by omega), r8 _ (by omega), r6 _ (by omega), p10]
  · rw [G _ (by omega) (by omega) (by omega) (by omega) (by omega), r9 _ (by omega), r8 _ (by omega), r6 _ (by omega), p11]
  · rw [G qb (by omega) (by omega) (by omega) (by omega) (by omega), r9 _ (by omega), p8 2 (by decide), p2]
  · rw [G qb (by omega) (by omega) (by omega) (by omega) (by omega), r9 _ (by omega), p8 4 (by decide), p4]
  · rw [G qb (by omega) (by omega) (by omega) (by omega) (by omega), r9 _ (by omega), p86]
  · intro i hi
    rw [G _ (by omega) (by omega) (by omega) (by omega) (by omega), r9 _ (by omega), r8 _ (by omega), t6 i (by omega)]
    exact b1 i hi
  · intro i hi
    rw [G _ (by omega) (by omega) (by omega) (by omega) (by omega), r9 _ (by omega), r8 _ (by omega), t6 i hi]
    exact b2 i hi
  · intro i hi
    rw [G _ (by omega) (by omega) (by omega) (by omega) (by omega), t9 i (by omega)]
    exact b3 i hi
  · refine LWR_cp b4 ?_ l1 (fun k hk => ?_)
    · rw [F _ (by omega), v1 _ (by omega) (by omega), u3]
    · rw [F _ (by omega), v1 _ (by omega) (by omega), u4 k hk, R9 _ (by omega) (by omega) (by omega) (by omega)]
  · refine LWR_cp b5 ?_ k1 (fun k hk => ?_)
    · rw [F _ (by omega), v3]
    · rw [F _ (by omega), v4 k hk, u1 _ (by omega) (by omega), R9 _ (by omega) (by omega) (by omega) (by omega)]
theorem over10_ {a b : Nat} (hab : a ≠ b) {mem : MMt} (Q : MMt → Prop) (h : ∀ m' : MMt, (∀ q, q ≠ b → m' q = mem q) → (∀ i, i < 322 → m' b i = mem a i) → Q m') : L_X10_over_ a b mem Q := by
  unfold L_X10_over_ B_X10_over__2
  refine LOOP_up 322 (fun k z => z.1 = Int32.ofNat k ∧ (∀ q, q ≠ b → z.2 q = mem q) ∧ ∀ i, i < k → z.2 b i = mem a i) ⟨rfl, fun _ _ => rfl, fun i hi => absurd hi (by omega)⟩ ?_ ?_
  · rintro k ⟨x, m⟩ X hk ⟨e1, e2, e3⟩ hX
    dsimp only at e1 e2 e3 hX ⊢
    subst e1
    have hk2 : TI (Int32.ofNat k) k := on_ti (by omega)
    rw [hk2.tn, e2 a hab]
    refine ⟨fun d => absurd d (nle_of (n := 322) rfl hk2 hk), fun _ => ⟨hk2.vp (by omega), hk2.vp (by omega), ?_⟩⟩
    rintro m3 hm3 v5 rfl
    refine hX _ ⟨on_1 k, fun q hq => ?_, fun i hi => ?_⟩
    · show m3 q = _
      rw [hm3, up2_ro _ _ _ _ _ hq, e2 q hq]
    · show m3 b i = _
      rw [hm3, uq]
      by_cases e : i = k
      · rw [if_pos e, e]
      · rw [if_neg e, e3 i (by omega)]
  · rintro ⟨x, m⟩ X ⟨e1, e2, e3⟩
    dsimp only at e1 e2 e3 ⊢
    subst e1
    exact ⟨fun _ => h m e2 e3, fun d => absurd (le_of (n := 322) rfl (on_ti (by omega) : (Int32.ofNat 322).toInt = (322 : Nat)) (Nat.le_refl _)) d⟩
theorem k_image {n : Nat} (hn : n < 1000000) {mem : MMt} (h : Inv n mem) : L_X9_image mem (fun r m => L_X10_image m (fun r' m' => r = r' ∧ Inv (n + 1) m')) := by
  obtain ⟨c1, c2, c3, c4, c5, c6, c7⟩ := h
  obtain ⟨k1, k2, k3, k4⟩ := c4
  refine copyC (by omega) c1.1 c1.2 _ fun m1 g1 g2 => ?_
  have hS1 : SRr 11 (mem 77) m1 := SRr_congr c2.1 (fun a ha => g1 a (by omega) (by omega)) (fun _ _ _ _ _ => rfl) ⟨c2.2.2.1.2, c2.2.2.2.1.2⟩
  refine copyS (by omega) hS1 c2.2 _ fun m2 f1 f2 f3 f4 f5 => ?_
  rintro m3 hm3
  refine over10_ (by decide) _ fun m4 p1 p2 => ?_
  rintro m5 hm5 m6 hm6
  have R3 : ∀ q, (q < 22 ∨ 42 < q) → q ≠ 0 → m3 q = mem q := fun q hq h0 => by
    rw [hm3, up2_ro _ _ _ _ _ h0, f1 q (by omega), g1 q (by omega) (by omega)]
  have R3b : ∀ q, q ≠ 0 → m3 q = m2 q := fun q h0 => by rw [hm3, up2_ro _ _ _ _ _ h0]
  have R : ∀ q, q ≠ 76 → q ≠ 78 → m6 q = m3 q := fun q h1 h2 => by rw [hm6, up2_ro _ _ _ _ _ h1, hm5, up2_ro _ _ _ _ _ h1, p1 q h2]
  have R2 : ∀ q, (q < 22 ∨ 42 < q) → q ≠ 0 → q ≠ 76 → q ≠ 78 → m6 q = mem q := fun q h1 h2 h3 h4 => by rw [R q h3 h4, R3 q h1 h2]
  have q76 : ∀ j, m6 76 j = if j = 3 then mem 76 3 + 1 else if j = 2 then 1 else mem 76 j := fun j => by
    rw [hm6, uq, hm5, uq, uq, if_neg (show ¬ (3 = 2) by decide), p1 76 (by decide), R3 76 (by decide) (by decide)]
  have q78 : ∀ i, i < 322 → m6 78 i = mem 77 i := fun i hi => by
    rw [hm6, up2_ro _ _ _ _ _ (by decide), hm5, up2_ro _ _ _ _ _ (by decide), p2 i hi, R3 77 (by decide) (by decide)]
  have q0 : m6 0 11 = mem 76 3 + 1 := by
    rw [R 0 (by decide) (by decide), hm3, up2_eq, f1 0 (by decide), g1 0 (by decide) (by decide), k1]
  have a0 : m3 0 11 = mem 76 3 + 1 := by rw [← R 0 (by decide) (by decide)]; exact q0
  have e77 := R2 77 (by decide) (by decide) (by decide) (by decide)
  have t3 : (mem 76 3 + 1).toInt = (mem 76 3).toInt + 1 := by rw [ad_s (by simp only [Int32.reduceToInt]; omega)]; simp only [Int32.reduceToInt]
  refine ⟨by rw [a0, q76, if_pos rfl], ?_⟩
  have nz : ¬ mem 76 3 + 1 = 0 := by
    intro e; have := congrArg Int32.toInt e; rw [t3] at this; simp only [Int32.reduceToInt] at this; omega
  refine ⟨IC_fr c1 (fun a ha => R2 a (by omega) (by omega) (by omega) (by omega)) (fun i _ => by rw [e77]), IT_fr c2 (fun a h1 h2 h3 => R2 a (by omega) (by omega) (by omega) (by omega)) (fun i _ _ _ _ => by rw [e77]), IM_fr c3 c2.2.2.2.2 (by rw [R2 15 (by decide) (by decide) (by decide) (by decide)]) (by rw [R2 18 (by decide) (by decide) (by decide) (by decide)]) (R2 21 (by decide) (by decide) (by decide) (by decide)) (fun i _ _ => by rw [e77]), ⟨?_, ?_, ?_, fun _ => ?_⟩, IE_fr c5 (R2 _ (by decide) (by decide) (by decide) (by decide)) (R2 _ (by decide) (by decide) (by decide) (by decide)), IV_fr c6 (R2 _ (by decide) (by decide) (by decide) (by decide)) (R2 _ (by decide) (by decide) (by decide) (by decide)) (R2 _ (by decide) (by decide) (by decide) (by decide)) (by rw [q76, if_neg (by decide), if_neg (by decide)]), ISh_fr c7 (fun a ha => R2 a (by omega) (by omega) (by omega) (by omega))⟩
  · rw [q0, q76, if_pos rfl]
  · rw [q76, if_pos rfl, t3]; omega
  · rw [q76, q76, if_neg (by decide), if_pos rfl, if_pos rfl]
    exact ⟨fun e => absurd e (by decide), fun e => absurd e nz⟩
  · have hG2 : WG (m6 78) := WG_congr c1.2 (fun i hi => q78 i (by omega))
    have hW2 : WS (m6 78) := WS_congr c2.2 (fun i _ _ _ hi => q78 i hi)
    refine ⟨CR_congr g2 (fun j _ _ => by rw [R 22 (by decide) (by decide), R3b 22 (by decide), f1 22 (by decide)]) (fun g j hg _ => by rw [R _ (by omega) (by omega), R3b _ (by omega), f1 _ (by omega)]) (fun i hi => q78 i (by omega)) c1.2.1.2, hG2, SRr_congr f5 (fun a ha => by rw [R a (by omega) (by omega), R3b a (by omega)]) (fun i _ _ _ hi => q78 i hi) ⟨c2.2.2.1.2, c2.2.2.2.1.2⟩, hW2⟩
theorem k_restore {n : Nat} {mem : MMt} (h : Inv n mem) : L_X9_restore mem (fun r m => L_X10_restore m (fun r' m' => r = r' ∧ Inv n m')) := by
  have hh := h
  obtain ⟨c1, c2, c3, c4, c5, c6, c7⟩ := h
  have c4' := c4
  obtain ⟨k1, k2, k3, k4⟩ := c4
  by_cases z : mem 76 2 = 0
  · refine ⟨fun d => absurd (k1.trans (k3.mp z)) d, fun _ => ?_⟩
    refine err_end hh (by decide) (R := fun Q m => L_X10_restore m Q) fun m Q hm he => ?_
    unfold L_X10_restore
    rw [hm 76 (by decide)]
    exact ⟨fun d => absurd z d, fun _ => he⟩
  · have nz : ¬ mem 0 11 = 0 := by rw [k1]; exact fun e => z (k3.mpr e)
    obtain ⟨d1, d2, d3, d4⟩ := k4 z
    refine ⟨fun _ => ?_, fun d => absurd d nz⟩
    refine copyC (by omega) d1 d2 _ fun m1 g1 g2 => ?_
    have hS1 : SRr 32 (mem 78) m1 := SRr_congr d3 (fun a ha => g1 a (by omega) (by omega)) (fun _ _ _ _ _ => rfl) ⟨d4.2.1.2, d4.2.2.1.2⟩
    refine copyS (by omega) hS1 d4 _ fun m2 f1 f2 f3 f4 f5 => ?_
    have R2 : ∀ q, (q = 0 ∨ q = 2 ∨ 21 < q) → m2 q = mem q := fun q hq => by rw [f1 q (by omega), g1 q (by omega) (by omega)]
    unfold L_X10_restore
    dsimp only
    rw [R2 76 (by decide)]
    refine ⟨fun _ => ?_, fun d => absurd d z⟩
    refine over10_ (by decide) _ fun m3 p1 p2 => ?_
    have q77 : ∀ i, i < 322 → m3 77 i = mem 78 i := fun i hi => by rw [p2 i hi, R2 78 (by decide)]
    have R : ∀ q, (q = 0 ∨ q = 2 ∨ 21 < q) → q ≠ 77 → m3 q = mem q := fun q h1 h2 => by rw [p1 q h2, R2 q h1]
    have e12 : m2 1 2 = mem 78 0 := by rw [f1 1 (by decide)]; exact g2.2.1
    have e76 := R 76 (by decide) (by decide)
    refine ⟨by rw [e12, q77 0 (by decide)], ?_⟩
    refine ⟨⟨CR_congr g2 (fun j _ _ => by rw [p1 1 (by decide), f1 1 (by decide)]) (fun g j hg _ => by rw [p1 _ (by omega), f1 _ (by omega)]) (fun i hi => q77 i (by omega)) d2.1.2, WG_congr d2 (fun i hi => q77 i (by omega))⟩, ⟨SRr_congr f5 (fun a ha => p1 a (by omega)) (fun i _ _ _ hi => q77 i hi) ⟨d4.2.1.2, d4.2.2.1.2⟩, WS_congr d4 (fun i _ _ _ hi => q77 i hi)⟩, ⟨?_, ?_, ?_⟩, IK_fr c4' (by rw [R 0 (by decide) (by decide)]) (by rw [e76]) (by rw [e76]) (fun a ha => R a (by omega) (by omega)), IE_fr c5 (R _ (by decide) (by decide)) (R _ (by decide) (by decide)), IV_fr c6 (R _ (by decide) (by decide)) (R _ (by decide) (by decide)) (R _ (by decide) (by decide)) (by rw [e76]), ISh_fr c7 (fun a ha => R a (by omega) (by omega))⟩
    · rw [p1 15 (by decide), f2, g1 _ (by decide) (by decide)]; exact c3.1
    · rw [p1 18 (by decide), f3, g1 _ (by decide) (by decide)]; exact c3.2.1
    · intro i hi
      exact Or.inl (by rw [p1 21 (by decide)]; exact f4 i hi)
