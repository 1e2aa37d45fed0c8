def bcf (x : Int32) : Int32 :=
  let v1 := x - (((x.toUInt32 >>> ((1 : Int32).toUInt32 &&& Int32.toUInt32 31)).toInt32) &&& (1431655765 : Int32))
  let v2 := (v1 &&& (858993459 : Int32)) + (((v1.toUInt32 >>> ((2 : Int32).toUInt32 &&& Int32.toUInt32 31)).toInt32) &&& (858993459 : Int32))
  let v3 := (v2 + ((v2.toUInt32 >>> ((4 : Int32).toUInt32 &&& Int32.toUInt32 31)).toInt32)) &&& (252645135 : Int32)
  let v4 := v3 + ((v3.toUInt32 >>> ((8 : Int32).toUInt32 &&& Int32.toUInt32 31)).toInt32)
  let v5 := v4 + ((v4.toUInt32 >>> ((16 : Int32).toUInt32 &&& Int32.toUInt32 31)).toInt32)
  v5 &&& (63 : Int32)
theorem bcf9 (x : Int32) (mem : MMt) (Q : Int32 → MMt → Prop) (h : Q (bcf x) mem) : L_J6_bitCount_0f7a4 x mem Q := by
  rintro v1 rfl v2 rfl v3 rfl v4 rfl v5 rfl
  exact h
def btn (x : Int32) (u : Nat) : Bool := !decide ((x >>> (Int32.ofNat u &&& 31)) &&& (1 : Int32) = 0)
theorem bit_or : ∀ t, t < 256 → ∀ u, u < 8 → Int32.ofNat t ||| ((1 : Int32) <<< (Int32.ofNat u &&& 31)) = Int32.ofNat (t ||| (1 <<< u)) ∧ t ||| (1 <<< u) < 256 ∧ (btn (Int32.ofNat t) u = false → bcf (Int32.ofNat (t ||| (1 <<< u))) = bcf (Int32.ofNat t) + 1) := by decide +kernel
theorem bit_set : ∀ t, t < 256 → ∀ u, u < 8 → ∀ v, v < 8 → btn (Int32.ofNat (t ||| (1 <<< u))) v = (decide (v = u) || btn (Int32.ofNat t) v) := by decide +kernel
theorem bit_0 : ∀ u, u < 8 → btn 0 u = false := by decide +kernel
theorem bcf_0 : bcf 0 = 0 := by decide +kernel
def LUs (N : Nat) (lo U : List Nat) : Prop := N ≤ 8 ∧ lo.length ≤ N ∧ U.length ≤ N ∧ (∀ j, j < lo.length → lo.getD j 0 < N) ∧ (∀ j, j < U.length → U.getD j 0 < N) ∧ (∀ i j, i < lo.length → j < lo.length → lo.getD i 0 = lo.getD j 0 → i = j) ∧ (∀ i j, i < U.length → j < U.length → U.getD i 0 = U.getD j 0 → i = j) ∧ ∀ i j, i < lo.length → j < U.length → lo.getD i 0 ≠ U.getD j 0
def CIs (N : Nat) (lo U : List Nat) (LD : Nat → Int32) (most : Nat) (m : MMt) : Prop := (m 58 4).toInt = lo.length ∧ (m 58 5).toInt = U.length ∧ (m 58 6).toInt = most ∧ (∀ k, k < lo.length → (m 59 k).toInt = lo.getD k 0) ∧ (∀ k, k < U.length → (m 60 k).toInt = U.getD k 0) ∧ ∀ g, g < N → m 62 g = LD g
def FrL (m m' : MMt) : Prop := (∀ q, q ≠ 58 → q ≠ 61 → q ≠ 63 → m' q = m q) ∧ ∀ j, j ≠ 7 → m' 58 j = m 58 j
theorem FrL.rf (m : MMt) : FrL m m := ⟨fun _ _ _ _ => rfl, fun _ _ => rfl⟩
theorem FrL.tr {a b c : MMt} (h1 : FrL a b) (h2 : FrL b c) : FrL a c := ⟨fun q x y z => (h2.1 q x y z).trans (h1.1 q x y z), fun j x => (h2.2 j x).trans (h1.2 j x)⟩
theorem CIs.fr {N : Nat} {lo U : List Nat} {LD : Nat → Int32} {most : Nat} {m m' : MMt} (h : CIs N lo U LD most m) (hf : FrL m m') : CIs N lo U LD most m' := by
  obtain ⟨h1, h2, h3, h4, h5, h6⟩ := h
  exact ⟨by rw [hf.2 4 (by decide)]; exact h1, by rw [hf.2 5 (by decide)]; exact h2, by rw [hf.2 6 (by decide)]; exact h3, fun k hk => by rw [hf.1 59 (by decide) (by decide) (by decide)]; exact h4 k hk, fun k hk => by rw [hf.1 60 (by decide) (by decide) (by decide)]; exact h5 k hk, fun g hg => by rw [hf.1 62 (by decide) (by decide) (by decide)]; exact h6 g hg⟩
/-- v is the mate of g -/
def MOs (N : Nat) (pr : Nat → Int32) (g : Nat) (v : Int32) : Prop := (∀ h, h < N → pr h = Int32.ofNat g → v = Int32.ofNat h) ∧ ((∀ h, h < N → ¬ pr h = Int32.ofNat g) → v = pr g)
def SRC (N : Nat) (m : MMt) (st : Sst) : Prop := match st with
  | none => (m 58 7).toInt < 0
  | some (b, pr) => m 58 7 = b ∧ 0 ≤ b.toInt ∧ ∀ g, g < N → MOs N pr g (m 63 g)
def TRl (lo U : List Nat) (i : Nat) (pr : Nat → Int32) (m : MMt) : Prop := ∀ j, j < i → (m 61 j = -1 ∧ pr (lo.getD j 0) = -1) ∨ ∃ u, u < U.length ∧ (m 61 j).toInt = u ∧ pr (lo.getD j 0) = Int32.ofNat (U.getD u 0)
def PIs (lo U : List Nat) (i : Nat) (pr : Nat → Int32) (T : Nat → Bool) : Prop := (∀ g, (∀ j, j < i → lo.getD j 0 ≠ g) → pr g = -1) ∧ (∀ j, j < i → ∀ u, u < U.length → pr (lo.getD j 0) = Int32.ofNat (U.getD u 0) → T (U.getD u 0) = true) ∧ ∀ j j', j < i → j' < i → ¬ pr (lo.getD j 0) = -1 → pr (lo.getD j 0) = pr (lo.getD j' 0) → j = j'
theorem on_m1 {k : Nat} (hk : k < 100) : ¬ Int32.ofNat k = -1 := by
  rw [eq_ti, on_ti (by omega)]; simp only [Int32.reduceToInt]; omega
theorem on_inj {a b : Nat} (ha : a < 100) (hb : b < 100) (h : Int32.ofNat a = Int32.ofNat b) : a = b := by
  rw [eq_ti, on_ti (by omega), on_ti (by omega)] at h; omega
/-- a full way to pair is weighed -/
theorem kib9 {N : Nat} {lo U : List Nat} {LD : Nat → Int32} {most : Nat} (hL : LUs N lo U) {m : MMt} (hC : CIs N lo U LD most m) {pr : Nat → Int32} {T : Nat → Bool} (hT : TRl lo U lo.length pr m) (hP : PIs lo U lo.length pr T) {sum : Int32} (hs : 0 ≤ sum.toInt) {st : Sst} (hS : SRC N m st) (Q : MMt → Prop)
    (hQ : ∀ m' : MMt, FrL m m' → m' 61 = m 61 → SRC N m' (upS st sum pr) → Q m') : L_X3_keepIfBetter sum m Q := by
  obtain ⟨hN, hlo, hUl, l1, l2, l3, l4, l5⟩ := hL
  obtain ⟨p1, p2, p3⟩ := hP
  have new : (∀ m' : MMt, FrL m m' → m' 61 = m 61 → SRC N m' (some (sum, pr)) → Q m') → B_X3_keepIfBetter_16 sum m Q := by
    intro hQ'
    rintro m1 hm1
    refine fillI_spec (by decide) _ ?_
    have f1 : FrL m (fil m1 63 8 (-1)) := by
      refine ⟨fun q h1 h2 h3 => ?_, fun j hj => ?_⟩
      · funext j; unfold fil; rw [if_neg (by omega), hm1, up2_ro _ _ _ _ _ h1]
      · unfold fil; rw [if_neg (by omega), hm1, uq, if_neg hj]
    have f7 : fil m1 63 8 (-1) 58 7 = sum := by unfold fil; rw [if_neg (by omega), hm1, up2_eq]
    have f61 : fil m1 63 8 (-1) 61 = m 61 := by funext j; unfold fil; rw [if_neg (by omega), hm1, up2_ro _ _ _ _ _ (by decide)]
    have f63 : ∀ g, g < 8 → fil m1 63 8 (-1) 63 g = -1 := fun g hg => by unfold fil; rw [if_pos ⟨rfl, hg⟩]
    generalize fil m1 63 8 (-1) = m2 at f1 f7 f61 f63
    unfold B_X3_keepIfBetter_31
    refine LOOP_up lo.length (fun j z => z.1 = Int32.ofNat j ∧ FrL m z.2 ∧ z.2 58 7 = sum ∧ z.2 61 = m 61 ∧ ∀ g, g < N → (∀ j', j' < j → pr (lo.getD j' 0) = Int32.ofNat g → z.2 63 g = Int32.ofNat (lo.getD j' 0)) ∧ (∀ j', j' < j → lo.getD j' 0 = g → z.2 63 g = pr g) ∧ ((∀ j', j' < j → ¬ pr (lo.getD j' 0) = Int32.ofNat g ∧ lo.getD j' 0 ≠ g) → z.2 63 g = -1)) ⟨rfl, f1, f7, f61, fun g hg => ⟨fun j h => absurd h (by omega), fun j h => absurd h (by omega), fun _ => f63 g (by omega)⟩⟩ ?_ ?_
    · rintro j ⟨x, z⟩ X hj ⟨e1, e2, e3, e4, e5⟩ hX
      dsimp only at e1 e2 e3 e4 e5 hX ⊢
      subst e1
      have hC' := hC.fr e2
      obtain ⟨c1, c2, c3, c4, c5, c6⟩ := hC'
      have tj : TI (Int32.ofNat j) j := on_ti (by omega)
      have vj : vp_in (Int32.ofNat j) 8 := tj.vp (by omega)
      refine ⟨fun d => absurd d (nle_of c1 tj hj), fun _ => ⟨vj, ?_, ?_⟩⟩
      · rw [tj.tn]
        rintro hneg v rfl
        have pm : pr (lo.getD j 0) = -1 := by
          rcases hT j hj with w | ⟨u, u1, u2, u3⟩
          · exact w.2
          · rw [e4, Int32.lt_iff_toInt_lt, u2] at hneg; simp only [Int32.reduceToInt] at hneg; omega
        refine hX _ ⟨on_1 j, e2, e3, e4, fun g hg => ⟨fun j' h1 h2 => ?_, fun j' h1 h2 => ?_, fun h => ?_⟩⟩
        · by_cases e : j' = j
          · subst e; rw [pm] at h2; exact absurd h2.symm (on_m1 (by omega))
          · exact (e5 g hg).1 j' (by omega) h2
        · by_cases e : j' = j
          · subst e
            subst h2
            rw [pm]
            refine (e5 _ hg).2.2 fun j2 hj2 => ⟨fun q => ?_, fun q => ?_⟩
            · rcases hT j2 (by omega) with w | ⟨u, u1, u2, u3⟩
              · rw [w.2] at q; exact absurd q.symm (on_m1 (by omega))
              · rw [u3] at q
                exact l5 j' u hj u1 (on_inj (by have := l2 u u1; omega) (by omega) q).symm
            · exact absurd (l3 j2 j' (by omega) hj q) (by omega)
          · exact (e5 g hg).2.1 j' (by omega) h2
        · exact (e5 g hg).2.2 fun j' h' => h j' (by omega)
      · rw [tj.tn]
        intro hpos
        obtain ⟨u, u1, u2, u3⟩ : ∃ u, u < U.length ∧ (m 61 j).toInt = u ∧ pr (lo.getD j 0) = Int32.ofNat (U.getD u 0) := by
          rcases hT j hj with w | w
          · rw [e4, w.1] at hpos; exact absurd (by decide) hpos
          · exact w
        have hlj := l1 j hj
        have hUu := l2 u u1
        have t61 : TI (z 61 j) u := by rw [e4]; exact u2
        have t59 : TI (z 59 j) (lo.getD j 0) := c4 j hj
        have t60 : TI (z 60 u) (U.getD u 0) := c5 u u1
        refine ⟨vj, vj, t61.vp (by omega), t59.vp (by omega), ?_⟩
        rw [t61.tn, t59.tn]
        rintro m8 hm8
        have r60 : m8 60 = z 60 := by rw [hm8, up2_ro _ _ _ _ _ (by decide)]
        have r61 : m8 61 = z 61 := by rw [hm8, up2_ro _ _ _ _ _ (by decide)]
        have r59 : m8 59 = z 59 := by rw [hm8, up2_ro _ _ _ _ _ (by decide)]
        rw [r61, r60, r59]
        refine ⟨vj, t61.vp (by omega), vj, ?_⟩
        rw [t61.tn]
        refine ⟨t60.vp (by omega), ?_⟩
        rw [t60.tn]
        rintro m13 hm13 v rfl
        have v59 : z 59 j = Int32.ofNat (lo.getD j 0) := by rw [eq_ti, t59, on_ti (by omega)]
        have v60 : z 60 u = Int32.ofNat (U.getD u 0) := by rw [eq_ti, t60, on_ti (by omega)]
        have lne : lo.getD j 0 ≠ U.getD u 0 := l5 j u hj u1
        have e63 : ∀ g, m13 63 g = if g = U.getD u 0 then Int32.ofNat (lo.getD j 0) else if g = lo.getD j 0 then Int32.ofNat (U.getD u 0) else z 63 g := fun g => by rw [hm13, uq, hm8, uq, v59, v60]
        have fr : FrL z m13 := ⟨fun q h1 h2 h3 => by rw [hm13, up2_ro _ _ _ _ _ h3, hm8, up2_ro _ _ _ _ _ h3], fun j _ => by rw [hm13, up2_ro _ _ _ _ _ (by decide), hm8, up2_ro _ _ _ _ _ (by decide)]⟩
        refine hX _ ⟨on_1 j, e2.tr fr, by rw [← e3, hm13]; dsimp only; rw [up2_ro _ _ _ _ _ (by decide), hm8, up2_ro _ _ _ _ _ (by decide)], by rw [← e4, hm13]; dsimp only; rw [up2_ro _ _ _ _ _ (by decide), hm8, up2_ro _ _ _ _ _ (by decide)], fun g hg => ?_⟩
        show (∀ j', j' < j + 1 → pr (lo.getD j' 0) = Int32.ofNat g → m13 63 g = Int32.ofNat (lo.getD j' 0)) ∧ (∀ j', j' < j + 1 → lo.getD j' 0 = g → m13 63 g = pr g) ∧ ((∀ j', j' < j + 1 → ¬ pr (lo.getD j' 0) = Int32.ofNat g ∧ lo.getD j' 0 ≠ g) → m13 63 g = -1)
        rw [e63]
        refine ⟨fun j' h1 h2 => ?_, fun j' h1 h2 => ?_, fun h => ?_⟩
        · by_cases e : j' = j
          · subst e
            rw [u3] at h2
            rw [if_pos (on_inj (by omega) (by omega) h2).symm]
          · have hne : g ≠ U.getD u 0 := by
              intro q
              refine e (p3 j' j (by omega) (by omega) ?_ ?_)
              · rw [h2]; exact on_m1 (by omega)
              · rw [h2, u3, q]
            have hne2 : g ≠ lo.getD j 0 := by
              intro q
              rcases hT j' (by omega) with w | ⟨u', w1, w2, w3⟩
              · rw [w.2] at h2; exact absurd h2.symm (on_m1 (by omega))
              · rw [w3] at h2
                have := l2 u' w1
                exact l5 j u' hj w1 (by rw [← q]; exact (on_inj (by omega) (by omega) h2).symm)
            rw [if_neg hne, if_neg hne2]
            exact (e5 g hg).1 j' (by omega) h2
        · by_cases e : j' = j
          · subst e
            subst h2
            rw [if_neg lne, if_pos rfl, u3]
          · have hne : g ≠ U.getD u 0 := by rw [← h2]; exact l5 j' u (by omega) u1
            have hne2 : g ≠ lo.getD j 0 := by rw [← h2]; exact fun q => e (l3 j' j (by omega) hj q)
            rw [if_neg hne, if_neg hne2]
            exact (e5 g hg).2.1 j' (by omega) h2
        · have hj2 := h j (by omega)
          rw [if_neg (fun q => hj2.1 (by rw [u3, q])), if_neg (fun q => hj2.2 q.symm)]
          exact (e5 g hg).2.2 fun j' h' => h j' (by omega)
    · rintro ⟨x, z⟩ X ⟨e1, e2, e3, e4, e5⟩
      dsimp only at e1 e2 e3 e4 e5 ⊢
      subst e1
      have hC' := hC.fr e2
      refine ⟨fun _ => hQ' z e2 e4 ⟨e3, hs, fun g hg => ⟨fun h hh heq => ?_, fun hno => ?_⟩⟩, fun d => absurd (le_of hC'.1 (on_ti (by omega)) (Nat.le_refl _)) d⟩
      · by_cases ex : ∃ j, j < lo.length ∧ lo.getD j 0 = h
        · obtain ⟨j, j1, j2⟩ := ex
          have := (e5 g hg).1 j j1 (by rw [j2]; exact heq)
          rw [j2] at this; exact this
        · have := p1 h fun j j1 j2 => ex ⟨j, j1, j2⟩
          rw [this] at heq
          exact absurd heq.symm (on_m1 (by omega))
      · by_cases ex : ∃ j, j < lo.length ∧ lo.getD j 0 = g
        · obtain ⟨j, j1, j2⟩ := ex
          exact (e5 g hg).2.1 j j1 j2
        · rw [p1 g fun j j1 j2 => ex ⟨j, j1, j2⟩]
          exact (e5 g hg).2.2 fun j j1 => ⟨hno _ (l1 j j1), fun j2 => ex ⟨j, j1, j2⟩⟩
  unfold upS at hQ
  cases st with
  | none =>
    have hS' : (m 58 7).toInt < 0 := hS
    exact ⟨fun _ => new hQ, fun d => absurd (by rw [Int32.lt_iff_toInt_lt]; simp only [Int32.reduceToInt]; exact hS') d⟩
  | some x =>
    obtain ⟨b, q⟩ := x
    obtain ⟨s1, s2, s3⟩ := hS
    dsimp only at hQ
    refine ⟨fun d => absurd d (by rw [s1, Int32.lt_iff_toInt_lt]; simp only [Int32.reduceToInt]; omega), fun _ => ⟨fun d => new fun m' h1 h2 h3 => hQ m' h1 h2 ?_, fun d => hQ m (FrL.rf m) rfl ?_⟩⟩
    · rw [s1] at d; rw [if_pos d]; exact h3
    · rw [s1] at d; rw [if_neg d]; exact ⟨s1, s2, s3⟩
