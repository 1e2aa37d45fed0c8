theorem fre_f : ∀ U : List Nat, fre (fun _ => false) U = U.length
  | [] => rfl
  | x :: xs => by
    show (if false = true then 0 else 1) + fre (fun _ => false) xs = xs.length + 1
    rw [fre_f xs, if_neg (by decide)]; omega
theorem mate10 {N : Nat} {M : MMt} (hN : (M 77 6).toInt = N) (hN8 : N ≤ 8) {a : Int32} {g : Nat} (ha : a.toInt = g) (hg : g < N) {pr : Nat → Int32} (h85 : ∀ h, h < N → M 85 h = pr h) {v : Int32} (hv : MOs N pr g v) (Q : Int32 → MMt → Prop) (hQ : Q v M) : L_X10_mateOf a M Q := by
  have ea : a = Int32.ofNat g := (on_of ha).symm
  unfold L_X10_mateOf B_X10_mateOf_2
  refine LOOP_up N (fun k z => z.1 = Int32.ofNat k ∧ z.2 = M ∧ ∀ h, h < k → ¬ pr h = Int32.ofNat g) ⟨rfl, rfl, fun h hh => absurd hh (by omega)⟩ ?_ ?_
  · rintro k ⟨x, z⟩ X hk ⟨e1, e2, e3⟩ hX
    dsimp only at e1 e2 e3 hX ⊢
    subst e1; subst e2
    have tk : TI (Int32.ofNat k) k := on_ti (by omega)
    refine ⟨fun d => absurd d (nle_of hN tk hk), fun _ => ⟨tk.vp (by omega), ?_⟩⟩
    rw [tk.tn, h85 k hk, ea]
    refine ⟨fun d => ?_, fun d => ?_⟩
    · rintro v' rfl
      refine hX _ ⟨on_1 k, rfl, fun h hh => ?_⟩
      by_cases e : h = k
      · rw [e]; exact d
      · exact e3 h (by omega)
    · rw [← hv.1 k hk d]; exact hQ
  · rintro ⟨x, z⟩ X ⟨e1, e2, e3⟩
    dsimp only at e1 e2 e3 ⊢
    subst e1; subst e2
    have ta : TI a g := ha
    refine ⟨fun _ => ⟨ta.vp (by omega), ?_⟩, fun d => absurd (le_of hN (on_ti (by omega)) (Nat.le_refl _)) d⟩
    rw [ta.tn, h85 g hg, ← hv.2 e3]; exact hQ
theorem k_lifts {n : Nat} {a : Int32} {mem : MMt} (h : Inv n mem) : L_X9_lifts a mem (fun r m => L_X10_lifts a m (fun r' m' => r = r' ∧ Inv n m')) := by
  have h9 := h.n9
  obtain ⟨N, hN⟩ : ∃ N : Nat, (mem 77 6).toInt = N := ⟨(mem 77 6).toInt.toNat, by omega⟩
  have hN8 : N ≤ 8 := by omega
  have eN : ((mem 77 6) - 1).toInt = (N : Int) - 1 := by
    rw [sb_s (by rw [hN]; simp only [Int32.reduceToInt]; omega), hN]; simp only [Int32.reduceToInt]
  by_cases c1 : -2 ≤ a.toInt ∧ a.toInt ≤ (N : Int) - 1
  · simp only [L_X9_lifts, within_sp, h9.1, eN, Int32.reduceToInt, if_pos c1]
    refine ⟨fun _ => bal9 h hN _ fun m' r1 r2 r3 => ?_, fun q => absurd q (by decide)⟩
    have hnn := bst_nn (LD := ldg (mem 77)) (U := lowl (PUp (mem 77)) N 0) lowl_nd (most := min (lowl (PLo (mem 77)) N 0).length (lowl (PUp (mem 77)) N 0).length) (Nat.min_le_right _ _) (lowl (PLo (mem 77)) N 0) (fun _ => false) 0 0 (fun _ => -1) none (by omega) (by rw [fre_f]; omega)
    generalize hmost : min (lowl (PLo (mem 77)) N 0).length (lowl (PUp (mem 77)) N 0).length = most at r2 r3 hnn
    have M : ∀ Q : Int32 → MMt → Prop, (∀ M' : MMt, FrE m' M' → SRM N most M' (bst (ldg (mem 77)) (lowl (PUp (mem 77)) N 0) most (lowl (PLo (mem 77)) N 0) (fun _ => false) 0 0 (fun _ => -1) none) → ((¬ a = (-2 : Int32) → ((¬ a = (-1 : Int32) → L_X10_mateOf a M' (fun r10 m9 => Q r10 m9)) ∧ (a = (-1 : Int32) → Q (M' 76 19) M'))) ∧ (a = (-2 : Int32) → Q (M' 76 18) M'))) → L_X10_lifts a m' Q := by
      intro Q hQ
      have m77 : m' 77 = mem 77 := r1 77 (Or.inr (by decide))
      simp only [L_X10_lifts, isIn_sp, Int32.toInt_toInt64, m77, eN, Int64.reduceToInt, if_pos c1]
      refine ⟨fun _ => ?_, fun q => absurd q (by decide)⟩
      rintro m4 hm4 m5 hm5
      have f5 : FrE m' m5 := ⟨fun q h1 h2 h3 => by rw [hm5, up2_ro _ _ _ _ _ h1, hm4, up2_ro _ _ _ _ _ h1], fun j h1 h2 => by rw [hm5, uq, if_neg h2, hm4, uq, if_neg h1]⟩
      have lU : (lowl (PUp (mem 77)) N 0).length ≤ N := lowl_le
      have e18 : m5 76 18 = -1 := by rw [hm5, uq, if_neg (by decide), hm4, up2_eq]
      refine pm10 (lL := (lowl (PLo (mem 77)) N 0).length) hN hN8 (fun g hg => h.gw (by omega)) hmost.symm N 20 0 0 0 0 0 0 (fun _ => false) (fun _ => -1) none m5 (by omega) (by omega) rfl (by decide) rfl (fun h hh => (bit_0 h hh).symm) (fun _ _ => rfl) (fun h hh => absurd hh (by omega)) (by rw [f5.1 77 (by decide) (by decide) (by decide)]; exact m77) ?_ (by omega) (by rw [fre_f]; omega) (Nat.le_refl _) _ (fun M' b1 b2 b3 => hQ M' (f5.tr b1) b3)
      show (m5 76 18).toInt < most
      rw [e18]
      have : (-1 : Int32).toInt = -1 := by decide
      omega
    generalize bst (ldg (mem 77)) (lowl (PUp (mem 77)) N 0) most (lowl (PLo (mem 77)) N 0) (fun _ => false) 0 0 (fun _ => -1) none = st at hnn r3 M
    cases st with
    | none => exact absurd rfl hnn
    | some w =>
      obtain ⟨b, pr⟩ := w
      obtain ⟨s1, s2, s3⟩ := r3
      have inv : ∀ M' : MMt, FrE m' M' → Inv n M' := by
        intro M' f
        have r : ∀ q, q < 58 ∨ 63 < q → q ≠ 76 → q ≠ 84 → q ≠ 85 → M' q = mem q := fun q h0 h1 h2 h3 => by rw [f.1 q h1 h2 h3, r1 q h0]
        refine Inv_sc h (fun q hq => ?_) ?_ (MEM_congr h.mem (r 21 (by decide) (by decide) (by decide) (by decide)) fun _ _ => rfl)
        · unfold SC at hq
          exact r q (by omega) (by omega) (by omega) (by omega)
        · have r76 : m' 76 = mem 76 := r1 76 (Or.inr (by decide))
          rw [f.2 2 (by decide) (by decide), f.2 3 (by decide) (by decide), f.2 24 (by decide) (by decide), r76]
          exact ⟨rfl, rfl, rfl⟩
      refine ⟨fun d2 => ⟨fun d1 => ?_, fun d1 => ?_⟩, fun d2 => ?_⟩
      · have ne1 : a.toInt ≠ -1 := fun e => d1 (by rw [eq_ti, e]; decide)
        have ne2 : a.toInt ≠ -2 := fun e => d2 (by rw [eq_ti, e]; decide)
        obtain ⟨g, hg⟩ : ∃ g : Nat, a.toInt = g := ⟨a.toInt.toNat, by omega⟩
        have ta : TI a g := hg
        have hgN : g < N := by omega
        refine ⟨ta.vp (by omega), ?_⟩
        rw [ta.tn]
        refine M _ fun M' f1 f2 => ⟨fun _ => ⟨fun _ => ?_, fun q => absurd q d1⟩, fun q => absurd q d2⟩
        obtain ⟨t1, t2, t3⟩ := f2
        refine mate10 (N := N) (by rw [f1.1 77 (by decide) (by decide) (by decide), r1 77 (Or.inr (by decide))]; exact hN) hN8 hg hgN t3 (s3 g hgN) _ ⟨rfl, inv M' f1⟩
      · refine M _ fun M' f1 f2 => ⟨fun _ => ⟨fun q => absurd d1 q, fun _ => ⟨?_, inv M' f1⟩⟩, fun q => absurd q d2⟩
        rw [s1, f2.2.1]
      · refine M _ fun M' f1 f2 => ⟨fun q => absurd d2 q, fun _ => ⟨?_, inv M' f1⟩⟩
        rw [eq_ti, r2, f2.1]
  · simp only [L_X9_lifts, within_sp, h9.1, eN, Int32.reduceToInt, if_neg c1]
    refine ⟨fun q => absurd trivial q, fun _ => err_end h (by decide) (R := fun Q m => L_X10_lifts a m Q) fun m Q hm he => ?_⟩
    simp only [L_X10_lifts, isIn_sp, Int32.toInt_toInt64, hm 77 (by decide), eN, Int64.reduceToInt, if_neg c1]
    exact ⟨fun q => absurd trivial q, fun _ => he⟩
