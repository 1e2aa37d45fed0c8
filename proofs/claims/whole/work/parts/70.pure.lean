theorem RUN_dep : ∀ {o : List (Int32 × Int32)} {d e : Nat}, RUN o d e → ∃ dep : Nat → Nat, dep 0 = d ∧ dep o.length = e ∧ ∀ k, k < o.length → WST (o.getD k (0, 0)).1 (o.getD k (0, 0)).2 (dep k) (dep (k + 1))
  | [], d, e, h => ⟨fun _ => d, rfl, h, fun k hk => absurd hk (by simp)⟩
  | x :: r, d, e, ⟨d', h1, h2⟩ => by
    obtain ⟨dep, e1, e2, e3⟩ := RUN_dep h2
    refine ⟨fun k => if k = 0 then d else dep (k - 1), rfl, e2, fun k hk => ?_⟩
    cases k with
    | zero =>
      show WST x.1 x.2 d (dep 0)
      rw [e1]; exact h1
    | succ k => exact e3 k (by simp at hk; omega)
/-- what is left of it: a fault at at1 -/
def FLT (s : Nat → Int32) (a : Int32) (n at1 : Nat) : Prop := at1 ≤ n ∧ (NOM (W_X10_readsT 80) s a 0 0 at1 ∨ (at1 ≠ n ∧ ∃ o : List (Int32 × Int32), o.length ≤ at1 ∧ OKM (W_X10_readsT 80) s a 0 0 at1 o))
theorem fault9 {N : Nat} {mem : MMt} (h : Inv N mem) {a : Int32} (ha : a = 0 ∨ a = 1) {n : Nat} (hn : (mem 77 7).toInt = n) (K : Int32 → MMt → Prop)
    (k0 : ∀ (m' : MMt) (at1 : Nat) (v : Int32), (∀ q, q ≠ 55 → q ≠ 56 → m' q = mem q) → v.toInt = at1 → FLT (mem 77) a n at1 → K v m')
    (k1 : ∀ (m' : MMt) (o : List (Int32 × Int32)), (∀ q, q ≠ 55 → q ≠ 56 → m' q = mem q) → 1 ≤ o.length → o.length ≤ n → WV o → (m' 55 1).toInt = o.length → (∀ k, k < o.length → m' 56 k = encw (o.getD k (0, 0)).1 (o.getD k (0, 0)).2) → OKM (W_X10_readsT 80) (mem 77) a 0 0 n o → K (-1) m') : L_X4_fault (mem 11 4) a mem K := by
  obtain ⟨⟨⟨a1, a2, a3, a4, a5, a6⟩, b1, b2, b3, b4, b5⟩, w1, w2, w3, w4⟩ := h.2.1
  have hn50 : n ≤ 50 := by omega
  unfold L_X4_fault
  rw [min_sp, if_neg (by rw [Int32.lt_iff_toInt_lt, a5, hn]; simp only [Int32.reduceToInt]; omega), a5]
  rintro m2 hm2
  have main : ∀ b : Nat, a.toInt = b → b < 2 → B_X4_fault_27 b m2 K := by
    rintro b hb hb2 m3 hm3 m4 hm4
    have r4 : ∀ q, q ≠ 55 → m4 q = mem q := fun q hq => by rw [hm4, up2_ro _ _ _ _ _ hq, hm3, up2_ro _ _ _ _ _ hq, hm2, up2_ro _ _ _ _ _ hq]
    have hCS : CS (mem 77) n 0 0 m4 := by
      refine ⟨by rw [hm4, uq, if_neg (by decide), hm3, uq, if_neg (by decide), hm2, up2_eq]; exact hn, by rw [hm4, uq, if_neg (by decide), hm3, up2_eq]; rfl, by rw [hm4, up2_eq]; rfl, fun i hi => ?_⟩
      rw [r4 13 (by decide)]
      exact BT_of (b2 i (by omega)) (b1 i (by omega))
    refine text_all hb hb2 hn hn50 m4 0 0 hCS (Nat.le_refl _) (Nat.zero_le _) _ (fun m' at1 o x1 x2 x3 x4 x5 x6 x7 x8 => ⟨fun q => absurd q (by decide), fun _ => ⟨fun ne => ?_, fun eq => ?_⟩⟩) (fun m' at1 x1 x2 x3 x4 x5 => ⟨fun _ => ?_, fun q => absurd rfl q⟩)
    · refine k0 m' at1 _ (fun q h1 h2 => by rw [x6.1 q h1 h2, r4 q h1]) x5.2.1 ⟨x3, Or.inr ⟨fun e => ne ?_, o, by omega, x8⟩⟩
      rw [eq_ti, x5.2.1, x5.1, e]
    · have e : at1 = n := by rw [eq_ti, x5.2.1, x5.1] at eq; omega
      subst e
      refine k1 m' o (fun q h1 h2 => by rw [x6.1 q h1 h2, r4 q h1]) x2 (by omega) x4 (by rw [x5.2.2.1]; simp) (fun k hk => ?_) x8
      have := x7.2 k hk
      rwa [Nat.zero_add] at this
    · exact k0 m' at1 _ (fun q h1 h2 => by rw [x4.1 q h1 h2, r4 q h1]) x3 ⟨x2, Or.inl x5⟩
  rcases ha with rfl | rfl
  · exact ⟨fun q => absurd rfl q, fun _ => main 0 rfl (by decide)⟩
  · exact ⟨fun _ => main 1 rfl (by decide), fun q => absurd q (by decide)⟩
/-- the reference at a fault -/
theorem flt10 {s : Nat → Int32} {a : Int32} (ha : a = 0 ∨ a = 1) {n at1 : Nat} (hn : (s 7).toInt = n) (hF : FLT s a n at1) {m : MMt} (hm : m 77 = s) (Q : Int32 → MMt → Prop)
    (hQ : ∀ (M : MMt) (v : Int32), (∀ q, q ≠ 76 → q ≠ 77 → q ≠ 80 → M q = m q) → (∀ j, j ≠ 5 → j ≠ 6 → j ≠ 7 → j ≠ 8 → M 76 j = m 76 j) → (∀ i, i ≠ 7 → M 77 i = s i) → M 77 7 = 0 → v.toInt = at1 → Q (-10 - v) M) : L_X10_text a m Q := by
  have c1 : (0 : Int) ≤ a.toInt ∧ a.toInt ≤ 1 := by rcases ha with rfl | rfl <;> decide
  simp only [L_X10_text, isIn_sp, Int64.reduceToInt, if_pos c1]
  refine ⟨fun _ => ?_, fun q => absurd q (by decide)⟩
  rintro m4 hm4 m5 hm5 m6 hm6 m7 hm7
  have r7 : ∀ q, q ≠ 76 → m7 q = m q := fun q hq => by rw [hm7, up2_ro _ _ _ _ _ hq, hm6, up2_ro _ _ _ _ _ hq, hm5, up2_ro _ _ _ _ _ hq, hm4, up2_ro _ _ _ _ _ hq]
  have hMS : MSt s a 0 0 0 m7 := by
    refine ⟨by rw [r7 77 (by decide)]; exact hm, ?_, ?_, ?_, ?_⟩
    · rw [hm7, uq, if_neg (by decide), hm6, uq, if_neg (by decide), hm5, up2_eq]; rfl
    · rw [hm7, uq, if_neg (by decide), hm6, up2_eq]; rfl
    · rw [hm7, uq, if_neg (by decide), hm6, uq, if_neg (by decide), hm5, uq, if_neg (by decide), hm4, up2_eq]
    · rw [hm7, up2_eq]; rfl
  have r76 : ∀ j, j ≠ 5 → j ≠ 6 → j ≠ 7 → j ≠ 8 → m7 76 j = m 76 j := fun j h1 h2 h3 h4 => by rw [hm7, uq, if_neg h4, hm6, uq, if_neg h2, hm5, uq, if_neg h1, hm4, uq, if_neg h3]
  have B : ∀ (M : MMt) (c : Nat), MSt s a at1 0 c M → FrP m7 M → B_X10_text_61 a M Q := by
    rintro M c h1 h2 M1 hM1
    refine ⟨fun q => absurd rfl q, fun _ => ?_⟩
    have e : M1 76 5 = M 76 5 := by rw [hM1, up2_ro _ _ _ _ _ (by decide)]
    refine hQ M1 (M1 76 5) (fun q a1 a2 a3 => by rw [hM1, up2_ro _ _ _ _ _ a2, h2.1 q a1 a3, r7 q a1]) (fun j j5 j6 j7 j8 => by rw [hM1, up2_ro _ _ _ _ _ (by decide), h2.2 j j5 j6 j8, r76 j j5 j6 j7 j8]) (fun i hi => by rw [hM1, uq, if_neg hi, h1.1]) (by rw [hM1, up2_eq]) (by rw [e]; exact h1.2.1)
  obtain ⟨hle, hno | ⟨hne, o, hol, hok⟩⟩ := hF
  · exact hno m7 0 hMS (Nat.le_refl _) _ fun M' c' p1 p2 p3 => ⟨fun _ => B M' c' p1 p3, fun q => absurd rfl q⟩
  · refine hok m7 0 hMS (Nat.le_refl _) _ fun M' p1 p2 p3 => ⟨fun q => absurd q (by decide), fun _ => ⟨fun _ => B M' _ p1 p2, fun e => ?_⟩⟩
    rw [eq_ti, p1.2.1, p1.1, hn] at e
    exact absurd (by omega) hne
/-- the reference takes the LAW -/
theorem tak10 {s : Nat → Int32} {a : Int32} {b : Nat} (ha : a = 0 ∧ b = 0 ∨ a = 1 ∧ b = 1) {n : Nat} (hn : (s 7).toInt = n) (hn50 : n ≤ 50) {o : List (Int32 × Int32)} (ho : o.length ≤ n) (hok : OKM (W_X10_readsT 80) s a 0 0 n o) {m : MMt} (hm : m 77 = s) (Q : Int32 → MMt → Prop)
    (hQ : ∀ M : MMt, (∀ q, q ≠ 76 → q ≠ 77 → q ≠ 80 → M q = m q) → (∀ j, j ≠ 5 → j ≠ 6 → j ≠ 7 → j ≠ 8 → M 76 j = m 76 j) → (∀ i, i ≠ 7 → (i < 120 + 101 * b ∨ 120 + 101 * b + 2 * o.length < i) → M 77 i = s i) → M 77 7 = 0 → (M 77 (120 + 101 * b)).toInt = o.length →
      (∀ k, k < o.length → M 77 (120 + 101 * b + 1 + 2 * k) = (o.getD k (0, 0)).1 ∧ M 77 (120 + 101 * b + 2 + 2 * k) = (o.getD k (0, 0)).2) → Q 1 M) : L_X10_text a m Q := by
  have c1 : (0 : Int) ≤ a.toInt ∧ a.toInt ≤ 1 := by rcases ha with ⟨rfl, -⟩ | ⟨rfl, -⟩ <;> decide
  simp only [L_X10_text, isIn_sp, Int64.reduceToInt, if_pos c1]
  refine ⟨fun _ => ?_, fun q => absurd q (by decide)⟩
  rintro m4 hm4 m5 hm5 m6 hm6 m7 hm7
  have r7 : ∀ q, q ≠ 76 → m7 q = m q := fun q hq => by rw [hm7, up2_ro _ _ _ _ _ hq, hm6, up2_ro _ _ _ _ _ hq, hm5, up2_ro _ _ _ _ _ hq, hm4, up2_ro _ _ _ _ _ hq]
  have hMS : MSt s a 0 0 0 m7 := by
    refine ⟨by rw [r7 77 (by decide)]; exact hm, ?_, ?_, ?_, ?_⟩
    · rw [hm7, uq, if_neg (by decide), hm6, uq, if_neg (by decide), hm5, up2_eq]; rfl
    · rw [hm7, uq, if_neg (by decide), hm6, up2_eq]; rfl
    · rw [hm7, uq, if_neg (by decide), hm6, uq, if_neg (by decide), hm5, uq, if_neg (by decide), hm4, up2_eq]
    · rw [hm7, up2_eq]; rfl
  have r76 : ∀ j, j ≠ 5 → j ≠ 6 → j ≠ 7 → j ≠ 8 → m7 76 j = m 76 j := fun j h1 h2 h3 h4 => by rw [hm7, uq, if_neg h4, hm6, uq, if_neg h2, hm5, uq, if_neg h1, hm4, uq, if_neg h3]
  refine hok m7 0 hMS (Nat.le_refl _) _ fun M' p1 p2 p3 => ⟨fun q => absurd q (by decide), fun _ => ⟨fun e => absurd (by rw [eq_ti, p1.2.1, p1.1, hn]) e, fun _ => ?_⟩⟩
  rw [Nat.zero_add] at p1
  rintro M1 hM1
  refine ⟨fun _ => ?_, fun q => absurd q (by decide)⟩
  rintro v3 hv3
  have hv : v3.toInt = (120 + 101 * b : Nat) := by rcases ha with ⟨rfl, rfl⟩ | ⟨rfl, rfl⟩ <;> · rw [hv3]; decide
  have hb2 : b < 2 := by omega
  refine ⟨vp_of hv (by omega), ?_⟩
  rw [tn_of hv]
  rintro M2 hM2
  have s8 : M2 76 8 = M' 76 8 := by rw [hM2, up2_ro _ _ _ _ _ (by decide), hM1, up2_ro _ _ _ _ _ (by decide)]
  have r80 : M2 80 = M' 80 := by rw [hM2, up2_ro _ _ _ _ _ (by decide), hM1, up2_ro _ _ _ _ _ (by decide)]
  have r2 : ∀ q, q ≠ 77 → M2 q = M' q := fun q hq => by rw [hM2, up2_ro _ _ _ _ _ hq, hM1, up2_ro _ _ _ _ _ hq]
  have r77 : ∀ i, i ≠ 7 → i ≠ 120 + 101 * b → M2 77 i = s i := fun i i1 i2 => by rw [hM2, uq, if_neg i2, hM1, uq, if_neg i1, p1.1]
  have r777 : M2 77 7 = 0 := by rw [hM2, uq, if_neg (by omega), hM1, up2_eq]
  have r7v : M2 77 (120 + 101 * b) = M' 76 8 := by rw [hM2, up2_eq, hM1, up2_ro _ _ _ _ _ (by decide)]
  unfold B_X10_text_104
  refine LOOP_up (2 * o.length) (fun k z => z.1 = Int32.ofNat k ∧ (∀ q, q ≠ 77 → z.2 q = M2 q) ∧ (∀ i, (i < 120 + 101 * b + 1 ∨ 120 + 101 * b + 1 + k ≤ i) → z.2 77 i = M2 77 i) ∧ ∀ i, i < k → z.2 77 (120 + 101 * b + 1 + i) = M' 80 i) ⟨rfl, fun _ _ => rfl, fun _ _ => rfl, fun i hi => absurd hi (by omega)⟩ ?_ ?_
  · rintro k ⟨x4, z⟩ X hk ⟨e1, e2, e3, e4⟩ hX
    dsimp only at e1 e2 e3 e4 hX ⊢
    subst e1
    have hk2 : TI (Int32.ofNat k) k := on_ti (by omega)
    have t8 : (z 76 8).toInt = o.length := by rw [e2 76 (by decide), s8]; exact p1.2.2.2.2
    have t1 : TI ((2 : Int32) * z 76 8) (2 * o.length) := TI.mul (rfl : TI 2 2) t8 (by omega)
    have t2 : TI (v3 + 1 + Int32.ofNat k) (120 + 101 * b + 1 + k) := TI.add (TI.add hv (rfl : TI 1 1) (by omega)) hk2 (by omega)
    refine ⟨fun d => absurd d (nle_of t1 hk2 hk), fun _ => ⟨hk2.vp (by omega), t2.vp (by omega), ?_⟩⟩
    rw [t2.tn, hk2.tn]
    rintro M3 hM3 v5 rfl
    refine hX _ ⟨on_1 k, fun q hq => by rw [hM3]; dsimp only; rw [up2_ro _ _ _ _ _ hq]; exact e2 q hq, fun i hi => ?_, fun i hi => ?_⟩
    · rw [hM3]; dsimp only; rw [uq, if_neg (by omega)]; exact e3 i (by omega)
    · rw [hM3]; dsimp only; rw [uq]
      split
      · have : i = k := by omega
        subst this
        rw [e2 80 (by decide), r80]
      · exact e4 i (by omega)
  · rintro ⟨x4, z⟩ X ⟨e1, e2, e3, e4⟩
    dsimp only at e1 e2 e3 e4 ⊢
    subst e1
    have t8 : (z 76 8).toInt = o.length := by rw [e2 76 (by decide), s8]; exact p1.2.2.2.2
    have t1 : TI ((2 : Int32) * z 76 8) (2 * o.length) := TI.mul (rfl : TI 2 2) t8 (by omega)
    refine ⟨fun _ => ?_, fun d => absurd (le_of t1 (on_ti (by omega)) (Nat.le_refl _)) d⟩
    refine hQ z (fun q a1 a2 a3 => by rw [e2 q a2, r2 q a2, p2.1 q a1 a3, r7 q a1]) (fun j j5 j6 j7 j8 => by rw [e2 76 (by decide), r2 76 (by decide), p2.2 j j5 j6 j8, r76 j j5 j6 j7 j8]) (fun i h1 h2 => ?_) ?_ ?_ (fun k hk => ?_)
    · rw [e3 i (by omega), r77 i h1 (by omega)]
    · rw [e3 7 (by omega), r777]
    · rw [e3 _ (by omega), r7v]; exact p1.2.2.2.2
    · have hc := p3.2 k hk
      rw [Nat.zero_add] at hc
      unfold cd at hc
      have h1 := e4 (2 * k) (by omega)
      have h2 := e4 (2 * k + 1) (by omega)
      rw [show 120 + 101 * b + 1 + (2 * k + 1) = 120 + 101 * b + 2 + 2 * k by omega] at h2
      rw [h1, h2, ← hc]
      exact ⟨rfl, rfl⟩
