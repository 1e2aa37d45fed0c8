theorem nd_inj {l : List Nat} (h : l.Nodup) : ∀ i j, i < l.length → j < l.length → l.getD i 0 = l.getD j 0 → i = j := by
  intro i j hi hj e
  rw [List.getD_eq_getElem?_getD, List.getD_eq_getElem?_getD, List.getElem?_eq_getElem hi, List.getElem?_eq_getElem hj] at e
  have e' : l[i] = l[j] := e
  have hp := List.pairwise_iff_getElem.mp h
  rcases Nat.lt_trichotomy i j with w | w | w
  · exact absurd e' (hp i j hi hj w)
  · exact w
  · exact absurd e'.symm (hp j i hj hi w)
theorem getD_mem {l : List Nat} {i : Nat} (hi : i < l.length) : l.getD i 0 ∈ l := by
  rw [List.getD_eq_getElem?_getD, List.getElem?_eq_getElem hi]
  exact List.getElem_mem hi
def PLo (s : Nat → Int32) (g : Nat) : Bool := decide (gd s g 2 = 0)
def PUp (s : Nat → Int32) (g : Nat) : Bool := decide (gd s g 2 = 40)
def ldg (s : Nat → Int32) (g : Nat) : Int32 := ld (gd s g 0) (gd s g 1)
theorem LUs_of (s : Nat → Int32) {N : Nat} (hN : N ≤ 8) : LUs N (lowl (PLo s) N 0) (lowl (PUp s) N 0) := by
  refine ⟨hN, lowl_le, lowl_le, fun j hj => ?_, fun j hj => ?_, nd_inj lowl_nd, nd_inj lowl_nd, fun i j hi hj e => ?_⟩
  · have := (lowl_mem.mp (getD_mem hj)).2.1; omega
  · have := (lowl_mem.mp (getD_mem hj)).2.1; omega
  · have h1 := (lowl_mem.mp (getD_mem hi)).2.2
    have h2 := (lowl_mem.mp (getD_mem hj)).2.2
    rw [e] at h1
    generalize (lowl (PUp s) N 0).getD j 0 = x at h1 h2
    have h1' : gd s x 2 = 0 := of_decide_eq_true h1
    have h2' : gd s x 2 = 40 := of_decide_eq_true h2
    rw [h1'] at h2'
    exact absurd h2' (by decide)
theorem ldg_rg {s : Nat → Int32} {g : Nat} (h : GW (gd s g)) : 0 ≤ (ldg s g).toInt ∧ (ldg s g).toInt ≤ 50 := by
  obtain ⟨-, h1, -⟩ := h
  unfold ldg ld
  have m : ∀ k : Nat, k ≤ 9 → ∀ c : Nat, c < 6 → (c = 0 → (0 ≤ ((3 : Int32) * (Int32.ofNat k + 1)).toInt ∧ ((3 : Int32) * (Int32.ofNat k + 1)).toInt ≤ 50)) ∧ (c = 1 → (0 ≤ (Int32.ofNat k + 6).toInt ∧ (Int32.ofNat k + 6).toInt ≤ 50)) ∧ (c = 2 → (0 ≤ (Int32.ofNat k).toInt ∧ (Int32.ofNat k).toInt ≤ 50)) ∧ (c = 3 → (0 ≤ ((3 : Int32) * (Int32.ofNat k + 1) + 20).toInt ∧ ((3 : Int32) * (Int32.ofNat k + 1) + 20).toInt ≤ 50)) ∧ (c = 4 → (0 ≤ (Int32.ofNat k + 1).toInt ∧ (Int32.ofNat k + 1).toInt ≤ 50)) := by
    intro k hk
    have : k = 0 ∨ k = 1 ∨ k = 2 ∨ k = 3 ∨ k = 4 ∨ k = 5 ∨ k = 6 ∨ k = 7 ∨ k = 8 ∨ k = 9 := by omega
    rcases this with rfl | rfl | rfl | rfl | rfl | rfl | rfl | rfl | rfl | rfl <;> decide +kernel
  obtain ⟨k, hk⟩ : ∃ k : Nat, (gd s g 1).toInt = k := ⟨(gd s g 1).toInt.toNat, by omega⟩
  have e : gd s g 1 = Int32.ofNat k := (on_of hk).symm
  rw [e]
  have hk9 : k ≤ 9 := by omega
  split
  · exact (m k hk9 0 (by decide)).1 rfl
  · split
    · decide
    · split
      · exact (m k hk9 1 (by decide)).2.1 rfl
      · split
        · exact (m k hk9 2 (by decide)).2.2.1 rfl
        · split
          · exact (m k hk9 3 (by decide)).2.2.2.1 rfl
          · exact (m k hk9 4 (by decide)).2.2.2.2 rfl
theorem getD_snoc {l : List Nat} {x k : Nat} : (l ++ [x]).getD k 0 = if k < l.length then l.getD k 0 else [x].getD (k - l.length) 0 := getD_app l [x] k 0
/-- the class's balance -/
theorem bal9 {n : Nat} {mem : MMt} (h : Inv n mem) {N : Nat} (hN : (mem 77 6).toInt = N) (Q : MMt → Prop)
    (hQ : ∀ m' : MMt, (∀ q, q < 58 ∨ 63 < q → m' q = mem q) → (m' 58 6).toInt = (min (lowl (PLo (mem 77)) N 0).length (lowl (PUp (mem 77)) N 0).length : Nat) →
      SRC N m' (bst (ldg (mem 77)) (lowl (PUp (mem 77)) N 0) (min (lowl (PLo (mem 77)) N 0).length (lowl (PUp (mem 77)) N 0).length) (lowl (PLo (mem 77)) N 0) (fun _ => false) 0 0 (fun _ => -1) none) → Q m') : L_X3_balance 1 mem Q := by
  have hn9 := h.n9
  have hN8 : N ≤ 8 := by omega
  have row : ∀ g, g < N → ∀ j, j < 5 → mem (1 + 2 + g) j = gd (mem 77) g j := fun g hg j hj => by rw [row3]; exact h.row (by omega) hj
  generalize hs : mem 77 = s at hQ row hN
  rintro m1 hm1 m2 hm2
  unfold B_X3_balance_12
  have r2 : ∀ q, q ≠ 58 → m2 q = mem q := fun q hq => by rw [hm2, up2_ro _ _ _ _ _ hq, hm1, up2_ro _ _ _ _ _ hq]
  refine LOOP_up N (fun i z => z.1 = Int32.ofNat i ∧ (∀ q, q < 58 ∨ 63 < q → z.2 q = mem q) ∧ (z.2 58 4).toInt = (lowl (PLo s) i 0).length ∧ (z.2 58 5).toInt = (lowl (PUp s) i 0).length ∧ (∀ k, k < (lowl (PLo s) i 0).length → (z.2 59 k).toInt = (lowl (PLo s) i 0).getD k 0) ∧ (∀ k, k < (lowl (PUp s) i 0).length → (z.2 60 k).toInt = (lowl (PUp s) i 0).getD k 0) ∧ ∀ g, g < i → z.2 62 g = ldg s g)
    ⟨rfl, fun q hq => r2 q (by omega), by rw [hm2]; dsimp only; rw [uq, if_neg (by decide), hm1, up2_eq]; rfl, by rw [hm2]; dsimp only; rw [up2_eq]; rfl, fun k hk => absurd hk (by unfold lowl; simp), fun k hk => absurd hk (by unfold lowl; simp), fun g hg => absurd hg (by omega)⟩ ?_ ?_
  · rintro i ⟨x, z⟩ X hi ⟨e1, e2, e3, e4, e5, e6, e7⟩ hX
    dsimp only at e1 e2 e3 e4 e5 e6 e7 hX ⊢
    subst e1
    have ti : TI (Int32.ofNat i) i := on_ti (by omega)
    have vi : vp_in (Int32.ofNat i) 8 := ti.vp (by omega)
    have r1 : z 1 = mem 1 := e2 1 (Or.inl (by decide))
    have hc : (z 1 1).toInt = N := by rw [r1, hn9.1, hs]; exact hN
    have rr : ∀ j, j < 5 → z (1 + 2 + i) j = gd s i j := fun j hj => by rw [e2 _ (Or.inl (by omega))]; exact row i hi j hj
    have lL : (lowl (PLo s) i 0).length ≤ i := lowl_le
    have lU : (lowl (PUp s) i 0).length ≤ i := lowl_le
    have aL := lowl_app (P := PLo s) (k := i) (j := 1) (g := 0)
    have aU := lowl_app (P := PUp s) (k := i) (j := 1) (g := 0)
    rw [Nat.zero_add] at aL aU
    have oL : lowl (PLo s) 1 i = if PLo s i = true then [i] else [] := rfl
    have oU : lowl (PUp s) 1 i = if PUp s i = true then [i] else [] := rfl
    refine ⟨fun d => absurd d (nle_of hc ti hi), fun _ => ⟨vi, ?_⟩⟩
    rw [ti.tn]
    refine load9 _ _ _ ⟨vi, ?_⟩
    rintro m10 hm10
    rw [rr 0 (by decide), rr 1 (by decide)] at hm10
    have q10 : ∀ q, q ≠ 62 → m10 q = z q := fun q hq => by rw [hm10, up2_ro _ _ _ _ _ hq]
    have e62 : ∀ g, g < i + 1 → m10 62 g = ldg s g := fun g hg => by
      rw [hm10, uq]
      split
      · rename_i e; subst e; rfl
      · exact e7 g (by omega)
    refine ⟨vi, fun d => ⟨vi, fun d4 => ?_, fun d4 => ?_⟩, fun d => ?_⟩
    · rw [q10 _ (by omega), rr 2 (by decide)] at d d4
      rw [oL, if_neg (by unfold PLo; simpa using d), List.append_nil] at aL
      rw [oU, if_neg (by unfold PUp; simpa using d4), List.append_nil] at aU
      rintro v rfl
      refine hX _ ⟨on_1 i, fun q hq => by dsimp only; rw [q10 q (by omega)]; exact e2 q hq, ?_, ?_, ?_, ?_, e62⟩
      · rw [aL]; dsimp only; rw [q10 58 (by decide)]; exact e3
      · rw [aU]; dsimp only; rw [q10 58 (by decide)]; exact e4
      · rw [aL]; dsimp only; rw [q10 59 (by decide)]; exact e5
      · rw [aU]; dsimp only; rw [q10 60 (by decide)]; exact e6
    · rw [q10 _ (by omega), rr 2 (by decide)] at d d4
      rw [oL, if_neg (by unfold PLo; simpa using d), List.append_nil] at aL
      rw [oU, if_pos (by unfold PUp; simpa using d4)] at aU
      have t5 : TI (m10 58 5) (lowl (PUp s) i 0).length := by rw [q10 58 (by decide)]; exact e4
      refine ⟨t5.vp (by omega), ?_⟩
      rw [t5.tn]
      rintro m17 hm17 m19 hm19 v rfl
      have r19 : ∀ q, q ≠ 58 → q ≠ 60 → m19 q = m10 q := fun q h1 h2 => by rw [hm19, up2_ro _ _ _ _ _ h1, hm17, up2_ro _ _ _ _ _ h2]
      refine hX _ ⟨on_1 i, fun q hq => by dsimp only; rw [r19 q (by omega) (by omega), q10 q (by omega)]; exact e2 q hq, ?_, ?_, ?_, fun k hk => ?_, fun g hg => by dsimp only; rw [r19 62 (by decide) (by decide)]; exact e62 g hg⟩
      · rw [aL]; dsimp only; rw [hm19, uq, if_neg (by decide), hm17, up2_ro _ _ _ _ _ (by decide), q10 58 (by decide)]; exact e3
      · rw [aU, List.length_append]; dsimp only; rw [hm19, up2_eq, hm17, up2_ro _ _ _ _ _ (by decide)]; exact ti_p1 t5 (by omega)
      · rw [aL]; dsimp only; rw [r19 59 (by decide) (by decide), q10 59 (by decide)]; exact e5
      · rw [aU] at hk ⊢
        rw [List.length_append] at hk
        dsimp only
        rw [hm19, up2_ro _ _ _ _ _ (by decide), hm17, uq, getD_snoc]
        by_cases e : k = (lowl (PUp s) i 0).length
        · rw [if_pos e, if_neg (by omega), e, Nat.sub_self]; exact ti
        · have : k < (lowl (PUp s) i 0).length := by simp at hk; omega
          rw [if_neg e, if_pos this, q10 60 (by decide)]; exact e6 k this
    · rw [q10 _ (by omega), rr 2 (by decide)] at d
      rw [oL, if_pos (by unfold PLo; simpa using d)] at aL
      rw [oU, if_neg (by unfold PUp; rw [d]; decide), List.append_nil] at aU
      have t5 : TI (m10 58 4) (lowl (PLo s) i 0).length := by rw [q10 58 (by decide)]; exact e3
      refine ⟨t5.vp (by omega), ?_⟩
      rw [t5.tn]
      rintro m17 hm17 m19 hm19 v rfl
      have r19 : ∀ q, q ≠ 58 → q ≠ 59 → m19 q = m10 q := fun q h1 h2 => by rw [hm19, up2_ro _ _ _ _ _ h1, hm17, up2_ro _ _ _ _ _ h2]
      refine hX _ ⟨on_1 i, fun q hq => by dsimp only; rw [r19 q (by omega) (by omega), q10 q (by omega)]; exact e2 q hq, ?_, ?_, fun k hk => ?_, ?_, fun g hg => by dsimp only; rw [r19 62 (by decide) (by decide)]; exact e62 g hg⟩
      · rw [aL, List.length_append]; dsimp only; rw [hm19, up2_eq, hm17, up2_ro _ _ _ _ _ (by decide)]; exact ti_p1 t5 (by omega)
      · rw [aU]; dsimp only; rw [hm19, uq, if_neg (by decide), hm17, up2_ro _ _ _ _ _ (by decide), q10 58 (by decide)]; exact e4
      · rw [aL] at hk ⊢
        rw [List.length_append] at hk
        dsimp only
        rw [hm19, up2_ro _ _ _ _ _ (by decide), hm17, uq, getD_snoc]
        by_cases e : k = (lowl (PLo s) i 0).length
        · rw [if_pos e, if_neg (by omega), e, Nat.sub_self]; exact ti
        · have : k < (lowl (PLo s) i 0).length := by simp at hk; omega
          rw [if_neg e, if_pos this, q10 59 (by decide)]; exact e5 k this
      · rw [aU]; dsimp only; rw [r19 60 (by decide) (by decide), q10 60 (by decide)]; exact e6
  · rintro ⟨x, z⟩ X ⟨e1, e2, e3, e4, e5, e6, e7⟩
    dsimp only at e1 e2 e3 e4 e5 e6 e7 ⊢
    subst e1
    have r1 : z 1 = mem 1 := e2 1 (Or.inl (by decide))
    have hc : (z 1 1).toInt = N := by rw [r1, hn9.1, hs]; exact hN
    refine ⟨fun _ => ?_, fun d => absurd (le_of hc (on_ti (by omega)) (Nat.le_refl _)) d⟩
    rw [min_sp]
    have hmn := min_ti e4 e3
    rw [Nat.min_comm] at hmn
    have hmn' : (if z 58 5 < z 58 4 then z 58 5 else z 58 4).toInt = (min (lowl (PLo s) N 0).length (lowl (PUp s) N 0).length : Nat) := by
      have := min_ti e3 e4
      first
        | exact hmn
        | (split at this <;> split <;> simp_all <;> omega)
    generalize (if z 58 5 < z 58 4 then z 58 5 else z 58 4) = mn at hmn'
    rintro m4 hm4 m5 hm5
    have r5 : ∀ q, q ≠ 58 → m5 q = z q := fun q hq => by rw [hm5, up2_ro _ _ _ _ _ hq, hm4, up2_ro _ _ _ _ _ hq]
    have LU := LUs_of s hN8
    have lL : (lowl (PLo s) N 0).length ≤ N := lowl_le
    have r6 : m5 58 6 = mn := by rw [hm5, uq, if_neg (by decide), hm4, up2_eq]
    refine pf9 (most := min (lowl (PLo s) N 0).length (lowl (PUp s) N 0).length) (LD := ldg s) (U := lowl (PUp s) N 0) LU (fun g hg => ldg_rg (by rw [← hs]; exact h.gw (by rw [hs]; omega))) (lowl (PLo s) N 0) 20 0 0 0 0 0 (fun _ => false) (fun _ => -1) none m5 (Nat.zero_le _) rfl (by omega) rfl (by decide) bcf_0 (Nat.le_refl _) (fun u hu => ?_) (by decide) (by decide) (by omega) ⟨?_, ?_, ?_, ?_, ?_, ?_⟩ ?_ (fun j hj => absurd hj (by omega)) ⟨fun _ _ => rfl, fun j hj => absurd hj (by omega), fun j _ hj => absurd hj (by omega)⟩ _ (fun m' f1 f2 f3 => hQ m' (fun q hq => ?_) ?_ f3)
    · have lU : (lowl (PUp s) N 0).length ≤ N := lowl_le
      exact (bit_0 u (by omega)).symm
    · rw [hm5, uq, if_neg (by decide), hm4, uq, if_neg (by decide)]; exact e3
    · rw [hm5, uq, if_neg (by decide), hm4, uq, if_neg (by decide)]; exact e4
    · rw [r6]; exact hmn'
    · intro k hk; rw [r5 59 (by decide)]; exact e5 k hk
    · intro k hk; rw [r5 60 (by decide)]; exact e6 k hk
    · intro g hg; rw [r5 62 (by decide)]; exact e7 g hg
    · show (m5 58 7).toInt < 0
      rw [hm5, up2_eq]; decide
    · rw [f1.1 q (by omega) (by omega) (by omega), r5 q (by omega)]; exact e2 q hq
    · rw [f1.2 6 (by decide), r6]; exact hmn'
