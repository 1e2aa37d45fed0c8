def SRM (N most : Nat) (m : MMt) (st : Sst) : Prop := match st with
  | none => (m 76 18).toInt < most
  | some (b, pr) => (m 76 18).toInt = most ∧ m 76 19 = b ∧ ∀ h, h < N → m 85 h = pr h
def FrE (m m' : MMt) : Prop := (∀ q, q ≠ 76 → q ≠ 84 → q ≠ 85 → m' q = m q) ∧ ∀ j, j ≠ 18 → j ≠ 19 → m' 76 j = m 76 j
theorem FrE.rf (m : MMt) : FrE m m := ⟨fun _ _ _ _ => rfl, fun _ _ _ => rfl⟩
theorem FrE.tr {a b c : MMt} (h1 : FrE a b) (h2 : FrE b c) : FrE a c := ⟨fun q x y z => (h2.1 q x y z).trans (h1.1 q x y z), fun j x y => (h2.2 j x y).trans (h1.2 j x y)⟩
theorem SRM.fr {N most : Nat} {m m' : MMt} {st : Sst} (h : SRM N most m st) (h1 : m' 76 = m 76) (h2 : m' 85 = m 85) : SRM N most m' st := by
  revert h
  cases st with
  | none => unfold SRM; dsimp only; rw [h1]; exact id
  | some w => unfold SRM; dsimp only; rw [h1, h2]; exact id
theorem ofg10 {s : Nat → Int32} {m : MMt} (hm : m 77 = s) {a : Int32} {g : Nat} (ha : a.toInt = g) (hg : g < 8) (Q : Int32 → MMt → Prop) (h : Q (gd s g 2) m) : L_X10_of a 2 m Q := by
  refine of10 (j := 2) ha hg rfl (by decide) _ _ ?_
  rw [hm]; exact h
theorem lof10 {s : Nat → Int32} {m : MMt} (hm : m 77 = s) {a : Int32} {g : Nat} (ha : a.toInt = g) (hg : g < 8) (Q : Int32 → MMt → Prop) (h : Q (ldg s g) m) : L_X10_loadOf a m Q := by
  refine of10 (j := 0) ha hg rfl (by decide) _ _ (of10 (j := 1) ha hg rfl (by decide) _ _ (load10 _ _ _ _ ?_))
  rw [hm]; exact h
theorem size10 (x : Int32) (mem : MMt) (Q : Int32 → MMt → Prop) (h : Q (abv x) mem) : L_X10_size x mem Q := by
  unfold abv at h
  exact ⟨fun c => by rwa [if_pos c] at h, fun c => by rwa [if_neg c] at h⟩
/-- the best so far is kept -/
theorem kp10 {N c : Nat} (hN : N ≤ 8) {R : Int32 → Int32 → Int32 → Int32 → MMt → (MMt → Prop) → Prop} {m : MMt} {x3 sum : Int32} (hx3 : x3.toInt = c) (Q : MMt → Prop)
    (hQ : ∀ m' : MMt, FrE m m' → m' 84 = m 84 → m' 76 18 = x3 → m' 76 19 = sum → (∀ h, h < N → m' 85 h = m 84 h) → Q m') : B_X10_pairs_36 R x3 sum m Q := by
  rintro m1 hm1 m2 hm2
  have fr : FrE m m2 := ⟨fun q h1 h2 h3 => by rw [hm2, up2_ro _ _ _ _ _ h1, hm1, up2_ro _ _ _ _ _ h1], fun j h1 h2 => by rw [hm2, uq, if_neg h2, hm1, uq, if_neg h1]⟩
  have e84 : m2 84 = m 84 := by rw [hm2, up2_ro _ _ _ _ _ (by decide), hm1, up2_ro _ _ _ _ _ (by decide)]
  have e18 : m2 76 18 = x3 := by rw [hm2, uq, if_neg (by decide), hm1, up2_eq]
  have e19 : m2 76 19 = sum := by rw [hm2, up2_eq]
  unfold B_X10_pairs_50
  refine LOOP_up 8 (fun k z => z.1 = Int32.ofNat k ∧ FrE m z.2 ∧ z.2 84 = m 84 ∧ z.2 76 18 = x3 ∧ z.2 76 19 = sum ∧ ∀ h, h < k → z.2 85 h = m 84 h) ⟨rfl, fr, e84, e18, e19, fun h hh => absurd hh (by omega)⟩ ?_ ?_
  · rintro k ⟨x, z⟩ X hk ⟨e1, e2, e3, e4, e5, e6⟩ hX
    dsimp only at e1 e2 e3 e4 e5 e6 hX ⊢
    subst e1
    have tk : TI (Int32.ofNat k) k := on_ti (by omega)
    refine ⟨fun d => absurd d (nle_of (n := 8) rfl tk hk), fun _ => ⟨tk.vp hk, tk.vp hk, ?_⟩⟩
    rw [tk.tn, e3]
    rintro m3 hm3 v rfl
    refine hX _ ⟨on_1 k, e2.tr ⟨fun q h1 h2 h3 => by rw [hm3]; dsimp only; rw [up2_ro _ _ _ _ _ h3], fun j _ _ => by rw [hm3]; dsimp only; rw [up2_ro _ _ _ _ _ (by decide)]⟩, ?_, ?_, ?_, fun h hh => ?_⟩
    · rw [← e3, hm3]; dsimp only; rw [up2_ro _ _ _ _ _ (by decide)]
    · rw [← e4, hm3]; dsimp only; rw [up2_ro _ _ _ _ _ (by decide)]
    · rw [← e5, hm3]; dsimp only; rw [up2_ro _ _ _ _ _ (by decide)]
    · rw [hm3]; dsimp only; rw [uq]
      split
      · rename_i e; rw [e]
      · exact e6 h (by omega)
  · rintro ⟨x, z⟩ X ⟨e1, e2, e3, e4, e5, e6⟩
    dsimp only at e1 e2 e3 e4 e5 e6 ⊢
    subst e1
    exact ⟨fun _ => hQ z e2 e3 e4 e5 fun h hh => e6 h (by omega), fun d => absurd (le_of (n := 8) (k := 8) rfl (on_ti (by omega)) (Nat.le_refl _)) d⟩
theorem bfd_l {F : Nat → Sst → Sst} {T P : Nat → Bool} {k h : Nat} (st : Sst) : bfd F T (lowl P (k + 1) h) st = bfd F T (lowl P k (h + 1)) (if P h = true then (if T h = true then st else F h st) else st) := by
  show bfd F T (if P h = true then h :: lowl P k (h + 1) else lowl P k (h + 1)) st = _
  split
  · rfl
  · rfl
theorem pm10 {s : Nat → Int32} {N lL most : Nat} (hN : (s 6).toInt = N) (hN8 : N ≤ 8) (hG : ∀ g, g < N → GW (gd s g)) (hmost : most = min lL (lowl (PUp s) N 0).length) : ∀ (k f g t c : Nat) (x1 x3 sum : Int32) (T : Nat → Bool) (pr : Nat → Int32) (st : Sst) (m : MMt),
    g + k = N → k < f → x1.toInt = g → t < 256 → x3.toInt = c → (∀ h, h < 8 → T h = btn (Int32.ofNat t) h) → (∀ h, g ≤ h → pr h = -1) → (∀ h, h < g → m 84 h = pr h) → m 77 = s → SRM N most m st → c + (lowl (PLo s) k g).length ≤ lL → c + fre T (lowl (PUp s) N 0) ≤ (lowl (PUp s) N 0).length → c ≤ g →
    ∀ Q : MMt → Prop, (∀ m' : MMt, FrE m m' → (∀ h, h < g → m' 84 h = m 84 h) → SRM N most m' (bst (ldg s) (lowl (PUp s) N 0) most (lowl (PLo s) k g) T c sum pr st) → Q m') → W_X10_pairs f x1 (Int32.ofNat t) x3 sum m Q
  | _, 0, _, _, _, _, _, _, _, _, _, _, _, hf, _, _, _, _, _, _, _, _, _, _, _ => absurd hf (by omega)
  | 0, f + 1, g, t, c, x1, x3, sum, T, pr, st, m, hk, hf, hx, ht, hx3, hT, hp, h84, h77, hS, hc, hu, hcg => by
    intro Q hQ
    have eg : g = N := by omega
    subst eg
    have e6 : m 77 6 = s 6 := by rw [h77]
    have hcl : c ≤ lL := by omega
    have hcm : c ≤ most := by omega
    have B : (∀ m' : MMt, FrE m m' → m' 84 = m 84 → m' 76 18 = x3 → m' 76 19 = sum → (∀ h, h < g → m' 85 h = m 84 h) → Q m') → B_X10_pairs_36 (W_X10_pairs f) x3 sum m Q := fun hh => kp10 hN8 hx3 Q hh
    have hQ' : ∀ m' : MMt, FrE m m' → (∀ h, h < g → m' 84 h = m 84 h) → SRM g most m' (if most ≤ c then upS st sum pr else st) → Q m' := hQ
    refine ⟨fun d => absurd (by rw [eq_ti, hx, e6, hN]) d, fun _ => ?_⟩
    by_cases cm : most ≤ c
    · have e : c = most := by omega
      rw [if_pos cm] at hQ'
      cases st with
      | none =>
        have hS' : (m 76 18).toInt < most := hS
        refine ⟨fun _ => B fun m' b1 b2 b3 b4 b5 => hQ' m' b1 (fun h _ => by rw [b2]) ⟨by rw [b3, hx3, e], b4, fun h hh => by rw [b5 h hh, h84 h hh]⟩, fun d => absurd (by rw [Int32.lt_iff_toInt_lt, hx3, e]; exact hS') d⟩
      | some w =>
        obtain ⟨b, q⟩ := w
        obtain ⟨s1, s2, s3⟩ := hS
        have hQ2 : ∀ m' : MMt, FrE m m' → (∀ h, h < g → m' 84 h = m 84 h) → SRM g most m' (if sum < b then some (sum, pr) else some (b, q)) → Q m' := hQ'
        refine ⟨fun d => absurd d (by rw [Int32.lt_iff_toInt_lt, s1, hx3]; omega), fun _ => ⟨fun d => absurd (by rw [eq_ti, s1, hx3, e]) d, fun _ => ⟨fun d => ?_, fun d => ?_⟩⟩⟩
        · rw [s2, Int32.le_iff_toInt_le] at d
          rw [if_neg (by rw [Int32.lt_iff_toInt_lt]; omega)] at hQ2
          exact hQ2 m (FrE.rf m) (fun _ _ => rfl) ⟨s1, s2, s3⟩
        · rw [s2, Int32.le_iff_toInt_le] at d
          rw [if_pos (by rw [Int32.lt_iff_toInt_lt]; omega)] at hQ2
          exact B fun m' b1 b2 b3 b4 b5 => hQ2 m' b1 (fun h _ => by rw [b2]) ⟨by rw [b3, hx3, e], b4, fun h hh => by rw [b5 h hh, h84 h hh]⟩
    · rw [if_neg cm] at hQ'
      cases st with
      | none =>
        have hS' : (m 76 18).toInt < most := hS
        have BB : B_X10_pairs_36 (W_X10_pairs f) x3 sum m Q := B fun m' b1 b2 b3 b4 b5 => hQ' m' b1 (fun h _ => by rw [b2]) (by show (m' 76 18).toInt < most; rw [b3, hx3]; omega)
        have ZZ : Q m := hQ' m (FrE.rf m) (fun _ _ => rfl) hS'
        exact ⟨fun _ => BB, fun _ => ⟨fun _ => ZZ, fun _ => ⟨fun _ => ZZ, fun _ => BB⟩⟩⟩
      | some w =>
        obtain ⟨b, q⟩ := w
        obtain ⟨s1, s2, s3⟩ := hS
        refine ⟨fun d => absurd d (by rw [Int32.lt_iff_toInt_lt, s1, hx3]; omega), fun _ => ⟨fun _ => hQ' m (FrE.rf m) (fun _ _ => rfl) ⟨s1, s2, s3⟩, fun d => absurd d (by rw [eq_ti, s1, hx3]; omega)⟩⟩
  | k + 1, f + 1, g, t, c, x1, x3, sum, T, pr, st, m, hk, hf, hx, ht, hx3, hT, hp, h84, h77, hS, hc, hu, hcg => by
    intro Q hQ
    have hg8 : g < 8 := by omega
    have hgN : g < N := by omega
    have x1t : TI x1 g := hx
    have x1p : TI (x1 + 1) (g + 1) := TI.add x1t (rfl : TI 1 1) (by omega)
    have v1 : vp_in x1 8 := x1t.vp hg8
    have e6 : ∀ z : MMt, z 77 = s → (z 77 6).toInt = N := fun z hz => by rw [hz]; exact hN
    refine ⟨fun _ => ⟨v1, ?_⟩, fun d => absurd d (by rw [eq_ti, hx, e6 m h77]; omega)⟩
    rw [x1t.tn]
    rintro m2 hm2
    have f2 : FrE m m2 := ⟨fun q h1 h2 h3 => by rw [hm2, up2_ro _ _ _ _ _ h2], fun j _ _ => by rw [hm2, up2_ro _ _ _ _ _ (by decide)]⟩
    have g2 : ∀ h, h < g → m2 84 h = m 84 h := fun h hh => by rw [hm2, uq, if_neg (by omega)]
    have S2 : SRM N most m2 st := hS.fr (by rw [hm2, up2_ro _ _ _ _ _ (by decide)]) (by rw [hm2, up2_ro _ _ _ _ _ (by decide)])
    have B178 : ∀ (ls : List Nat), lowl (PLo s) k (g + 1) = ls → ∀ (z : MMt) (z1 : Sst), FrE m z → (∀ h, h < g → z 84 h = m 84 h) → SRM N most z z1 → c + ls.length ≤ lL → (∀ m' : MMt, FrE m m' → (∀ h, h < g → m' 84 h = m 84 h) → SRM N most m' (bst (ldg s) (lowl (PUp s) N 0) most ls T c sum pr z1) → Q m') → B_X10_pairs_178 (W_X10_pairs f) x1 (Int32.ofNat t) x3 sum z Q := by
      rintro ls hls z z1 a1 a2 a3 a4 a5
      refine ⟨v1, ?_⟩
      rw [x1t.tn]
      rintro m1 hm1
      have f1 : FrE z m1 := ⟨fun q h1 h2 h3 => by rw [hm1, up2_ro _ _ _ _ _ h2], fun j _ _ => by rw [hm1, up2_ro _ _ _ _ _ (by decide)]⟩
      refine pm10 hN hN8 hG hmost k f (g + 1) t c (x1 + 1) x3 sum T pr z1 m1 (by omega) (by omega) x1p ht hx3 hT (fun h hh => hp h (by omega)) (fun h hh => ?_) (by rw [f1.1 77 (by decide) (by decide) (by decide), a1.1 77 (by decide) (by decide) (by decide)]; exact h77) (a3.fr (by rw [hm1, up2_ro _ _ _ _ _ (by decide)]) (by rw [hm1, up2_ro _ _ _ _ _ (by decide)])) (by rw [hls]; exact a4) hu (by omega) _ (fun m' b1 b2 b3 => a5 m' ((a1.tr f1).tr b1) (fun h hh => ?_) (by rw [← hls]; exact b3))
      · rw [hm1, uq]
        split
        · rename_i e; subst e; exact (hp h (Nat.le_refl _)).symm
        · rw [a2 h (by omega)]; exact h84 h (by omega)
      · rw [b2 h (by omega), hm1, uq, if_neg (by omega)]; exact a2 h hh
    have eL : lowl (PLo s) (k + 1) g = if PLo s g = true then g :: lowl (PLo s) k (g + 1) else lowl (PLo s) k (g + 1) := rfl
    by_cases c0 : gd s g 2 = 0
    · rw [if_pos (by unfold PLo; rw [c0]; decide)] at eL
      rw [eL] at hc hQ
      rw [List.length_cons] at hc
      obtain ⟨F, hF⟩ : ∃ F : Nat → Sst → Sst, F = fun h z => bst (ldg s) (lowl (PUp s) N 0) most (lowl (PLo s) k (g + 1)) (setT T h) (c + 1) (sum + abv (ldg s g - ldg s h)) (upd pr g (Int32.ofNat h)) z := ⟨_, rfl⟩
      unfold B_X10_pairs_88
      refine LOOP_up N (fun h z => z.1 = Int32.ofNat h ∧ FrE m z.2 ∧ (∀ j, j < g → z.2 84 j = m 84 j) ∧ ∃ z1 : Sst, SRM N most z.2 z1 ∧ bfd F T (lowl (PUp s) (N - h) h) z1 = bfd F T (lowl (PUp s) N 0) st) ⟨rfl, f2, g2, st, S2, rfl⟩ ?_ ?_
      · rintro h ⟨x, z⟩ X hh ⟨e1, e2, e3, z1, e4, e5⟩ hX
        dsimp only at e1 e2 e3 e4 hX ⊢
        subst e1
        have th : TI (Int32.ofNat h) h := on_ti (by omega)
        have z77 : z 77 = s := by rw [e2.1 77 (by decide) (by decide) (by decide)]; exact h77
        rw [show N - h = (N - (h + 1)) + 1 by omega, bfd_l] at e5
        refine ⟨fun d => absurd d (nle_of (e6 z z77) th hh), fun _ => ofg10 z77 hx hg8 _ ⟨fun d => absurd c0 d, fun _ => ofg10 z77 th (by omega) _ ⟨fun d => ?_, fun d => ⟨fun b => ?_, fun b => ?_⟩⟩⟩⟩
        · rw [if_neg (by unfold PUp; simpa using d)] at e5
          rintro v rfl
          exact hX _ ⟨on_1 h, e2, e3, z1, e4, e5⟩
        · have hTh : T h = true := by rw [hT h (by omega)]; unfold btn; have b' : ¬ (Int32.ofNat t >>> (Int32.ofNat h &&& 31)) &&& (1 : Int32) = 0 := b; simp [b']
          rw [if_pos (by unfold PUp; rw [d]; decide), if_pos hTh] at e5
          rintro v rfl
          exact hX _ ⟨on_1 h, e2, e3, z1, e4, e5⟩
        · have b' : (Int32.ofNat t >>> (Int32.ofNat h &&& 31)) &&& (1 : Int32) = 0 := b
          have bF : btn (Int32.ofNat t) h = false := by unfold btn; simp [b']
          have hTh : T h = false := by rw [hT h (by omega), bF]
          have hPU : PUp s h = true := by unfold PUp; rw [d]; decide
          rw [if_pos hPU, if_neg (by rw [hTh]; decide)] at e5
          obtain ⟨o1, o2, o3⟩ := bit_or t ht h (by omega)
          refine ⟨v1, ?_⟩
          rw [x1t.tn]
          rintro m11 hm11
          have f11 : FrE z m11 := ⟨fun q h1 h2 h3 => by rw [hm11, up2_ro _ _ _ _ _ h2], fun j _ _ => by rw [hm11, up2_ro _ _ _ _ _ (by decide)]⟩
          have m77 : m11 77 = s := by rw [f11.1 77 (by decide) (by decide) (by decide)]; exact z77
          refine lof10 m77 hx hg8 _ (lof10 m77 th (by omega) _ (size10 _ _ _ ?_))
          show W_X10_pairs f (x1 + 1) (Int32.ofNat t ||| ((1 : Int32) <<< (Int32.ofNat h &&& 31))) (x3 + 1) (sum + abv (ldg s g - ldg s h)) m11 _
          rw [o1]
          have hm : h ∈ lowl (PUp s) N 0 := lowl_mem.mpr ⟨by omega, by omega, hPU⟩
          have fs := fre_set hTh (lowl_nd (P := PUp s) (k := N) (g := 0)) hm
          refine pm10 hN hN8 hG hmost k f (g + 1) (t ||| (1 <<< h)) (c + 1) (x1 + 1) (x3 + 1) _ (setT T h) (upd pr g (Int32.ofNat h)) z1 m11 (by omega) (by omega) x1p o2 (ti_p1 hx3 (by omega)) (fun v hv => ?_) (fun j hj => ?_) (fun j hj => ?_) m77 (e4.fr (by rw [hm11, up2_ro _ _ _ _ _ (by decide)]) (by rw [hm11, up2_ro _ _ _ _ _ (by decide)])) (by omega) (by omega) (by omega) _ (fun m' b1 b2 b3 => ?_)
          · rw [bit_set t ht h (by omega) v hv, ← hT v hv]; rfl
          · unfold upd; rw [if_neg (by omega)]; exact hp j (by omega)
          · rw [hm11, uq]; unfold upd
            split
            · rfl
            · rw [e3 j (by omega)]; exact h84 j (by omega)
          · rintro v rfl
            refine hX _ ⟨on_1 h, (e2.tr f11).tr b1, fun j hj => by dsimp only; rw [b2 j (by omega), hm11, uq, if_neg (by omega), e3 j hj], F h z1, ?_, e5⟩
            rw [hF]; exact b3
      · rintro ⟨x, z⟩ X ⟨e1, e2, e3, z1, e4, e5⟩
        dsimp only at e1 e2 e3 e4 ⊢
        subst e1
        have z77 : z 77 = s := by rw [e2.1 77 (by decide) (by decide) (by decide)]; exact h77
        rw [Nat.sub_self] at e5
        have ez : z1 = bfd F T (lowl (PUp s) N 0) st := e5
        subst ez
        refine ⟨fun _ => B178 _ rfl z _ e2 e3 e4 (by omega) fun m' b1 b2 b3 => hQ m' b1 b2 ?_, fun d => absurd (le_of (e6 z z77) (on_ti (by omega)) (Nat.le_refl _)) d⟩
        rw [hF] at b3
        exact b3
    · rw [if_neg (by unfold PLo; simpa using c0)] at eL
      rw [eL] at hc hQ
      unfold B_X10_pairs_88
      have m77 : m2 77 = s := by rw [f2.1 77 (by decide) (by decide) (by decide)]; exact h77
      have done := B178 _ rfl m2 st f2 g2 S2 hc hQ
      exact LOOP_exit fun X => ⟨fun _ => done, fun _ => ofg10 m77 hx hg8 _ ⟨fun _ => done, fun d => absurd d c0⟩⟩
