theorem drop_c {U : List Nat} {u : Nat} (hu : u < U.length) : U.drop u = U.getD u 0 :: U.drop (u + 1) := by
  rw [List.drop_eq_getElem_cons hu, List.getD_eq_getElem?_getD, List.getElem?_eq_getElem hu]; rfl
theorem bfd_c {F : Nat → Sst → Sst} {T : Nat → Bool} {U : List Nat} {u : Nat} (hu : u < U.length) (st : Sst) : bfd F T (U.drop u) st = bfd F T (U.drop (u + 1)) (if T (U.getD u 0) = true then st else F (U.getD u 0) st) := by
  rw [drop_c hu]; rfl
theorem abs9 (x : Int32) (mem : MMt) (Q : Int32 → MMt → Prop) (h : Q (abv x) mem) : L_J9_abs_0f7a4 x mem Q := by
  unfold abv at h
  exact ⟨fun c => by rwa [if_pos c] at h, fun c => by rwa [if_neg c] at h⟩
theorem abv_rg {x y : Int32} (hx : 0 ≤ x.toInt ∧ x.toInt ≤ 50) (hy : 0 ≤ y.toInt ∧ y.toInt ≤ 50) : 0 ≤ (abv (x - y)).toInt ∧ (abv (x - y)).toInt ≤ 50 := by
  have e : (x - y).toInt = x.toInt - y.toInt := sb_s (by omega)
  unfold abv
  split
  · rename_i c
    rw [Int32.le_iff_toInt_le, e] at c
    simp only [Int32.reduceToInt] at c
    omega
  · rename_i c
    rw [Int32.le_iff_toInt_le, e] at c
    simp only [Int32.reduceToInt] at c
    have : (-(x - y)).toInt = -(x - y).toInt := by
      rw [Int32.toInt_neg, e, Int.bmod_def]
      split <;> omega
    omega
theorem TRl.fr {lo U : List Nat} {i : Nat} {pr : Nat → Int32} {m m' : MMt} (h : TRl lo U i pr m) (hm : ∀ j, j < i → m' 61 j = m 61 j) : TRl lo U i pr m' := fun j hj => by rw [hm j hj]; exact h j hj
/-- all the ways to pair, from the i-th lower good on -/
theorem pf9 {N : Nat} {lo U : List Nat} {LD : Nat → Int32} {most : Nat} (hL : LUs N lo U) (hD : ∀ g, g < N → 0 ≤ (LD g).toInt ∧ (LD g).toInt ≤ 50) : ∀ (ls : List Nat) (f i t c : Nat) (x1 sum : Int32) (T : Nat → Bool) (pr : Nat → Int32) (st : Sst) (m : MMt),
    i ≤ lo.length → ls = lo.drop i → ls.length < f → x1.toInt = i → t < 256 → bcf (Int32.ofNat t) = Int32.ofNat c → c ≤ i → (∀ u, u < U.length → T (U.getD u 0) = btn (Int32.ofNat t) u) → 0 ≤ sum.toInt → sum.toInt ≤ 50 * (i : Int) → most ≤ c + ls.length → CIs N lo U LD most m → SRC N m st → TRl lo U i pr m → PIs lo U i pr T →
    ∀ Q : MMt → Prop, (∀ m' : MMt, FrL m m' → (∀ j, j < i → m' 61 j = m 61 j) → SRC N m' (bst LD U most ls T c sum pr st) → Q m') → W_X3_pairFrom f x1 (Int32.ofNat t) sum m Q
  | _, 0, _, _, _, _, _, _, _, _, _, _, _, hf, _, _, _, _, _, _, _, _, _, _, _, _ => absurd hf (by omega)
  | [], f + 1, i, t, c, x1, sum, T, pr, st, m, hi, hls, hf, hx, ht, hb, hci, hT, hs0, hs1, hm, hC, hS, hTr, hP => by
    intro Q hQ
    have e : i = lo.length := by
      have := congrArg List.length hls
      rw [List.length_drop] at this; simp at this; omega
    subst e
    refine ⟨fun d => absurd d (by rw [Int32.lt_iff_toInt_lt, hx, hC.1]; omega), fun _ => kib9 hL hC hTr hP hs0 hS _ fun m' h1 h2 h3 => hQ m' h1 (fun j _ => by rw [h2]) ?_⟩
    show SRC N m' (if most ≤ c then upS st sum pr else st)
    rw [if_pos (by simpa using hm)]; exact h3
  | l :: ls, f + 1, i, t, c, x1, sum, T, pr, st, m, hi, hls, hf, hx, ht, hb, hci, hT, hs0, hs1, hm, hC, hS, hTr, hP => by
    intro Q hQ
    obtain ⟨hN, hlo, hUl, l1, l2, l3, l4, l5⟩ := id hL
    have hil : i < lo.length := by
      have := congrArg List.length hls
      rw [List.length_drop] at this; simp at this; omega
    have hl0 : lo.getD i 0 = l ∧ ls = lo.drop (i + 1) := by
      rw [drop_c hil] at hls
      injection hls with a b
      exact ⟨a.symm, b⟩
    obtain ⟨hl1, hl2⟩ := hl0
    have hlN : l < N := by rw [← hl1]; exact l1 i hil
    rw [List.length_cons] at hf hm
    have hlen : ls.length = lo.length - (i + 1) := by rw [hl2, List.length_drop]
    have x1t : TI x1 i := hx
    have x1p : TI (x1 + 1) (i + 1) := TI.add x1t (rfl : TI 1 1) (by omega)
    have v1 : vp_in x1 8 := x1t.vp (by omega)
    obtain ⟨q1, q2, q3⟩ := hP
    have prl : pr l = -1 := q1 l fun j hj e => absurd (l3 j i (by omega) hil (by rw [e, hl1])) (by omega)
    obtain ⟨F, hF⟩ : ∃ F : Nat → Sst → Sst, F = fun h z => bst LD U most ls (setT T h) (c + 1) (sum + abv (LD l - LD h)) (upd pr l (Int32.ofNat h)) z := ⟨_, rfl⟩
    refine ⟨fun _ => ?_, fun d => absurd (by rw [Int32.lt_iff_toInt_lt, hx, hC.1]; omega) d⟩
    unfold B_X3_pairFrom_17
    refine LOOP_up U.length (fun u z => z.1 = Int32.ofNat u ∧ FrL m z.2 ∧ (∀ j, j < i → z.2 61 j = m 61 j) ∧ ∃ z1 : Sst, SRC N z.2 z1 ∧ bfd F T (U.drop u) z1 = bfd F T U st) ⟨rfl, FrL.rf m, fun _ _ => rfl, st, hS, rfl⟩ ?_ ?_
    · rintro u ⟨x, z⟩ X hu ⟨e1, e2, e3, z1, e4, e5⟩ hX
      dsimp only at e1 e2 e3 e4 hX ⊢
      subst e1
      have hC' := hC.fr e2
      obtain ⟨c1, c2, c3, c4, c5, c6⟩ := id hC'
      have tu : TI (Int32.ofNat u) u := on_ti (by omega)
      have vu : vp_in (Int32.ofNat u) 8 := tu.vp (by omega)
      have hTu := hT u hu
      rw [bfd_c hu] at e5
      refine ⟨fun d => absurd d (nle_of c2 tu hu), fun _ => ⟨fun d => ?_, fun d => ?_⟩⟩
      · rintro v rfl
        have : T (U.getD u 0) = true := by rw [hTu]; unfold btn; simp [d]
        rw [if_pos this] at e5
        exact hX _ ⟨on_1 u, e2, e3, z1, e4, e5⟩
      · have bF : btn (Int32.ofNat t) u = false := by unfold btn; simp [d]
        have hTf : T (U.getD u 0) = false := by rw [hTu, bF]
        rw [if_neg (by rw [hTf]; decide)] at e5
        obtain ⟨o1, o2, o3⟩ := bit_or t ht u (by omega)
        refine ⟨v1, ?_⟩
        rw [x1t.tn]
        rintro m10 hm10
        have fr : FrL z m10 := ⟨fun q h1 h2 h3 => by rw [hm10, up2_ro _ _ _ _ _ h2], fun j _ => by rw [hm10, up2_ro _ _ _ _ _ (by decide)]⟩
        have hC2 := hC'.fr fr
        obtain ⟨d1, d2, d3, d4, d5, d6⟩ := id hC2
        have t59 : TI (m10 59 i) l := by have := d4 i hil; rw [hl1] at this; exact this
        have t60 : TI (m10 60 u) (U.getD u 0) := d5 u hu
        have hUu := l2 u hu
        rw [tu.tn]
        refine ⟨v1, t59.vp (by omega), vu, t60.vp (by omega), ?_⟩
        rw [t59.tn, t60.tn, d6 l hlN, d6 _ hUu]
        refine abs9 _ _ _ ?_
        have ar := abv_rg (hD l hlN) (hD _ hUu)
        have se : (sum + abv (LD l - LD (U.getD u 0))).toInt = sum.toInt + (abv (LD l - LD (U.getD u 0))).toInt := ad_s (by omega)
        rw [o1]
        have e61 : ∀ j, m10 61 j = if j = i then Int32.ofNat u else z 61 j := fun j => by rw [hm10, uq]
        refine pf9 hL hD ls f (i + 1) (t ||| (1 <<< u)) (c + 1) (x1 + 1) _ (setT T (U.getD u 0)) (upd pr l (Int32.ofNat (U.getD u 0))) z1 m10 (by omega) hl2 (by omega) x1p o2 (by rw [o3 bF, hb, on_1]) (by omega) (fun v hv => ?_) (by omega) (by rw [se]; omega) (by omega) hC2 ?_ (fun j hj => ?_) ⟨fun g hg => ?_, fun j hj v hv heq => ?_, fun j j' hj hj' hne heq => ?_⟩ _ (fun m' f1 f2 f3 => ?_)
        · rw [bit_set t ht u (by omega) v (by omega), ← hT v hv]
          unfold setT
          by_cases e : v = u
          · subst e; simp
          · have : U.getD v 0 ≠ U.getD u 0 := fun q => e (l4 v u hv hu q)
            rw [decide_eq_false this, decide_eq_false e]
        · have r58 : m10 58 = z 58 := by rw [hm10, up2_ro _ _ _ _ _ (by decide)]
          have r63 : m10 63 = z 63 := by rw [hm10, up2_ro _ _ _ _ _ (by decide)]
          revert e4
          cases z1 with
          | none => unfold SRC; dsimp only; rw [r58]; exact id
          | some w => unfold SRC; dsimp only; rw [r58, r63]; exact id
        · rw [e61]
          by_cases e : j = i
          · subst e
            right
            refine ⟨u, hu, by rw [if_pos rfl]; exact tu, ?_⟩
            rw [hl1]; unfold upd; rw [if_pos rfl]
          · rw [if_neg e, e3 j (by omega)]
            have : lo.getD j 0 ≠ l := by rw [← hl1]; exact fun q => e (l3 j i (by omega) hil q)
            unfold upd; rw [if_neg this]
            exact hTr j (by omega)
        · have h1 := hg i (by omega)
          rw [hl1] at h1
          unfold upd; rw [if_neg (fun q => h1 q.symm)]
          exact q1 g fun j hj => hg j (by omega)
        · unfold setT
          by_cases e : j = i
          · subst e
            unfold upd at heq
            rw [if_pos hl1] at heq
            have := l2 v hv
            have := on_inj (by omega) (by omega) heq
            rw [decide_eq_true this.symm]; rfl
          · have : lo.getD j 0 ≠ l := by rw [← hl1]; exact fun q => e (l3 j i (by omega) hil q)
            unfold upd at heq
            rw [if_neg this] at heq
            rw [q2 j (by omega) v hv heq, Bool.or_true]
        · have nl : ∀ k, k < i + 1 → k ≠ i → lo.getD k 0 ≠ l := fun k hk hki => by rw [← hl1]; exact fun q => hki (l3 k i (by omega) hil q)
          have clash : ∀ k, k < i → ¬ pr (lo.getD k 0) = Int32.ofNat (U.getD u 0) := fun k hk q => by
            have := q2 k hk u hu q
            rw [hTf] at this; exact absurd this (by decide)
          unfold upd at hne heq
          by_cases ej : j = i
          · by_cases ej' : j' = i
            · rw [ej, ej']
            · subst ej
              rw [if_pos hl1, if_neg (nl j' hj' ej')] at heq
              exact absurd heq.symm (clash j' (by omega))
          · by_cases ej' : j' = i
            · subst ej'
              rw [if_neg (nl j hj ej), if_pos hl1] at heq
              exact absurd heq (clash j (by omega))
            · rw [if_neg (nl j hj ej)] at hne heq
              rw [if_neg (nl j' hj' ej')] at heq
              exact q3 j j' (by omega) (by omega) hne heq
        · rintro v rfl
          refine hX _ ⟨on_1 u, (e2.tr fr).tr f1, fun j hj => by dsimp only; rw [f2 j (by omega), e61, if_neg (by omega), e3 j hj], F (U.getD u 0) z1, ?_, e5⟩
          rw [hF]; exact f3
    · rintro ⟨x, z⟩ X ⟨e1, e2, e3, z1, e4, e5⟩
      dsimp only at e1 e2 e3 e4 ⊢
      subst e1
      have hC' := hC.fr e2
      obtain ⟨c1, c2, c3, c4, c5, c6⟩ := id hC'
      have ez : z1 = bfd F T U st := by
        rw [← e5, List.drop_eq_nil_of_le (Nat.le_refl _)]; rfl
      subst ez
      refine ⟨fun _ => bcf9 _ _ _ ?_, fun d => absurd (le_of c2 (on_ti (by omega)) (Nat.le_refl _)) d⟩
      rw [hb]
      have tc : TI (Int32.ofNat c) c := on_ti (by omega)
      have k1 : TI (Int32.ofNat c + z 58 4) (c + lo.length) := TI.add tc c1 (by omega)
      have k2 : TI (Int32.ofNat c + z 58 4 - x1) (c + lo.length - i) := TI.sub k1 x1t (by omega)
      have k3 : TI (Int32.ofNat c + z 58 4 - x1 - 1) (c + lo.length - i - 1) := TI.sub k2 (rfl : TI 1 1) (by omega)
      have c3' : TI (z 58 6) most := c3
      have fin : ∀ m' : MMt, FrL z m' → (∀ j, j < i → m' 61 j = z 61 j) → SRC N m' (bst LD U most ls T c sum pr (bfd F T U st)) → Q m' := fun m' h1 h2 h3 => hQ m' (e2.tr h1) (fun j hj => by rw [h2 j hj, e3 j hj]) (by
        show SRC N m' (bst LD U most ls T c sum pr (bfd _ T U st))
        rw [← hF]; exact h3)
      refine ⟨fun d => fin z (FrL.rf z) (fun _ _ => rfl) ?_, fun d => ⟨v1, ?_⟩⟩
      · have hd : (c + lo.length - i - 1 : Nat) < most := by
          rw [Int32.lt_iff_toInt_lt] at d
          have h1 : (Int32.ofNat c + z 58 4 - x1 - 1).toInt = (c + lo.length - i - 1 : Nat) := k3
          rw [h1, c3] at d; omega
        rw [bst_pr ls T c sum pr _ (by omega)]
        exact e4
      · have hd : most ≤ (c + lo.length - i - 1 : Nat) := by
          rw [Int32.lt_iff_toInt_lt] at d
          have h1 : (Int32.ofNat c + z 58 4 - x1 - 1).toInt = (c + lo.length - i - 1 : Nat) := k3
          rw [h1, c3] at d; omega
        rw [x1t.tn]
        rintro m5 hm5
        have fr : FrL z m5 := ⟨fun q h1 h2 h3 => by rw [hm5, up2_ro _ _ _ _ _ h2], fun j _ => by rw [hm5, up2_ro _ _ _ _ _ (by decide)]⟩
        have e61 : ∀ j, m5 61 j = if j = i then -1 else z 61 j := fun j => by rw [hm5, uq]
        refine pf9 hL hD ls f (i + 1) t c (x1 + 1) sum T pr (bfd F T U st) m5 (by omega) hl2 (by omega) x1p ht hb (by omega) hT hs0 (by omega) (by omega) (hC'.fr fr) ?_ (fun j hj => ?_) ⟨fun g hg => q1 g fun j hj => hg j (by omega), fun j hj v hv heq => ?_, fun j j' hj hj' hne heq => ?_⟩ _ (fun m' f1 f2 f3 => fin m' (fr.tr f1) (fun j hj => by rw [f2 j (by omega), e61, if_neg (by omega)]) f3)
        · have r58 : m5 58 = z 58 := by rw [hm5, up2_ro _ _ _ _ _ (by decide)]
          have r63 : m5 63 = z 63 := by rw [hm5, up2_ro _ _ _ _ _ (by decide)]
          revert e4
          generalize bfd F T U st = z1
          cases z1 with
          | none => unfold SRC; dsimp only; rw [r58]; exact id
          | some w => unfold SRC; dsimp only; rw [r58, r63]; exact id
        · rw [e61]
          by_cases e : j = i
          · subst e
            left
            exact ⟨if_pos rfl, by rw [hl1]; exact prl⟩
          · rw [if_neg e, e3 j (by omega)]; exact hTr j (by omega)
        · by_cases e : j = i
          · subst e
            rw [hl1, prl] at heq
            have := l2 v hv
            exact absurd heq.symm (on_m1 (by omega))
          · exact q2 j (by omega) v hv heq
        · by_cases ej : j = i
          · subst ej; rw [hl1, prl] at hne; exact absurd rfl hne
          · by_cases ej' : j' = i
            · subst ej'; rw [hl1, prl] at heq; exact absurd heq hne
            · exact q3 j j' (by omega) (by omega) hne heq
