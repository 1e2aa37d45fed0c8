theorem hld9_le : (-9 : Int32) ≤ 9 := by decide
theorem hld99_le : (-99 : Int32) ≤ 99 := by decide
theorem WFL_ge {s : Nat → Int32} {o : Nat} (h : WFL s o) (hn : ¬ s o < 0) : 1 ≤ (s o).toInt ∧ (s o).toInt ≤ 50 ∧ ∃ dep : Nat → Nat, WFD s o (s o).toInt.toNat dep := by
  rcases h with h | h
  · rw [h] at hn; exact absurd (by decide) hn
  · exact h
theorem gives10 {mem : MMt} {use a b c : Int32} (hu : use = 0 ∨ use = 1) (w0 : WFL (mem 77) 120) (w1 : WFL (mem 77) 221) (Q : Int32 → MMt → Prop)
    (h : ∀ m' : MMt, (∀ q, q ≠ 81 → q ≠ 82 → m' q = mem q) → Q (gv (mem 77) use a b c) m') : L_X10_gives use a b c mem Q := by
  rintro m1 rfl m2 rfl m3 hm3 v4 rfl
  have f82 : ∀ q, q ≠ 82 → m3 q = mem q := by
    intro q hq; rw [hm3, up2_ro _ _ _ _ _ hq, up2_ro _ _ _ _ _ hq, up2_ro _ _ _ _ _ hq]
  have hnm : ∀ j, j < 3 → m3 82 j = nm3 a b c j := by
    intro j hj
    rw [hm3]
    have : j = 0 ∨ j = 1 ∨ j = 2 := by omega
    rcases this with rfl | rfl | rfl <;> rfl
  clear hm3
  rcases hu with rfl | rfl
  · have hx : ((120 : Int32) + 101 * 0).toInt = (120 : Nat) := by decide
    refine ⟨vp_of hx (by decide), ?_⟩
    rw [tn_of hx, f82 77 (by decide)]
    refine ⟨fun c0 => ⟨fun c => absurd rfl c, fun _ => ⟨fun c => absurd rfl c, fun _ => ?_⟩⟩, fun c0 => ?_⟩
    · rw [with_sp]
      have h8 := h m3 (fun q _ h2 => f82 q h2)
      unfold gv at h8
      rwa [if_pos rfl, if_pos c0] at h8
    · obtain ⟨g1, g2, dep, hd⟩ := WFL_ge w0 c0
      refine worksOut10 (nm := nm3 a b c) (o := 120) hx (by decide) hnm (by rw [f82 77 (by decide)]; exact g1) (by rw [f82 77 (by decide)]; exact g2) (dep := dep) (by rw [f82 77 (by decide)]; exact hd) _ fun m' hm' => ⟨fun c => absurd rfl c, fun _ => ?_⟩
      rw [with_sp, f82 77 (by decide)]
      have h8 := h m' (fun q h1 h2 => (hm' q h1).trans (f82 q h2))
      unfold gv at h8
      rwa [if_pos rfl, if_neg c0] at h8
  · have hx : ((120 : Int32) + 101 * 1).toInt = (221 : Nat) := by decide
    refine ⟨vp_of hx (by decide), ?_⟩
    rw [tn_of hx, f82 77 (by decide)]
    refine ⟨fun c0 => ⟨fun _ => ⟨fun _ => ?_, fun c => absurd c (by decide)⟩, fun c => absurd c (by decide)⟩, fun c0 => ?_⟩
    · rw [with_sp]
      have h8 := h m3 (fun q _ h2 => f82 q h2)
      unfold gv at h8
      rwa [if_neg (by decide), if_pos c0] at h8
    · obtain ⟨g1, g2, dep, hd⟩ := WFL_ge w1 c0
      refine worksOut10 (nm := nm3 a b c) (o := 221) hx (by decide) hnm (by rw [f82 77 (by decide)]; exact g1) (by rw [f82 77 (by decide)]; exact g2) (dep := dep) (by rw [f82 77 (by decide)]; exact hd) _ fun m' hm' => ⟨fun _ => ?_, fun c => absurd c (by decide)⟩
      rw [with_sp, f82 77 (by decide)]
      have h8 := h m' (fun q h1 h2 => (hm' q h1).trans (f82 q h2))
      unfold gv at h8
      rwa [if_neg (by decide), if_neg c0] at h8
theorem give9_0 {mem : MMt} {s : Nat → Int32} {lq : Nat} {a b c : Int32} (hu : mem lq 0 = 0) (hl : LWR lq s 120 mem) (w0 : WFL s 120) (Q : Int32 → MMt → Prop)
    (h : ∀ m' : MMt, (∀ q, q ≠ lq + 2 → m' q = mem q) → Q (gv s 0 a b c) m') : L_X2_give lq a b c mem Q := by
  unfold gv at h
  simp only [if_true] at h
  refine ⟨fun d => absurd hu d, fun _ => ⟨fun d => ?_, fun d => ?_⟩⟩
  · rcases hl with ⟨e1, e2⟩ | ⟨e1, e2, e3, e4⟩
    · exact absurd e2 d
    · have c0 : ¬ s 120 < 0 := by rw [Int32.lt_iff_toInt_lt]; simp only [Int32.reduceToInt]; omega
      obtain ⟨g1, g2, dep, hd⟩ := WFL_ge w0 c0
      rw [if_neg c0] at h
      refine worked9 (o := 120) (n := (s 120).toInt.toNat) (by rw [e3]; omega) (by omega) (by omega) e4 hd _ fun m' hm' => ?_
      rw [held_sp hld9_le]
      exact h m' hm'
  · rcases hl with ⟨e1, e2⟩ | ⟨e1, e2, e3, e4⟩
    · rw [held_sp hld9_le]
      have h8 := h mem (fun _ _ => rfl)
      rwa [if_pos (by rw [e1]; decide)] at h8
    · rw [d] at e3; rw [← e3] at e1; exact absurd e1 (by decide)
theorem give9_1 {mem : MMt} {s : Nat → Int32} {lq : Nat} {a b c : Int32} (hu : mem lq 0 = 1) (hl : LWR lq s 221 mem) (w0 : WFL s 221) (Q : Int32 → MMt → Prop)
    (h : ∀ m' : MMt, (∀ q, q ≠ lq + 2 → m' q = mem q) → Q (gv s 1 a b c) m') : L_X2_give lq a b c mem Q := by
  unfold gv at h
  rw [if_neg (by decide)] at h
  refine ⟨fun _ => ⟨fun d => ?_, fun d => ?_⟩, fun d => absurd (hu.symm.trans d) (by decide)⟩
  · rcases hl with ⟨e1, e2⟩ | ⟨e1, e2, e3, e4⟩
    · exact absurd e2 d
    · have c0 : ¬ s 221 < 0 := by rw [Int32.lt_iff_toInt_lt]; simp only [Int32.reduceToInt]; omega
      obtain ⟨g1, g2, dep, hd⟩ := WFL_ge w0 c0
      rw [if_neg c0] at h
      refine worked9 (o := 221) (n := (s 221).toInt.toNat) (by rw [e3]; omega) (by omega) (by omega) e4 hd _ fun m' hm' => ?_
      rw [held_sp hld99_le]
      exact h m' hm'
  · rcases hl with ⟨e1, e2⟩ | ⟨e1, e2, e3, e4⟩
    · rw [held_sp hld99_le]
      have h8 := h mem (fun _ _ => rfl)
      rwa [if_pos (by rw [e1]; decide)] at h8
    · rw [d] at e3; rw [← e3] at e1; exact absurd e1 (by decide)
/-- PULL and TAX read the laws alone -/
theorem evs_congr {s t : Nat → Int32} {o : Nat} {nm : Nat → Int32} : ∀ {n : Nat}, n ≤ 50 → (∀ i, o ≤ i → i < o + 101 → t i = s i) → evs t o nm n = evs s o nm n
  | 0, _, _ => rfl
  | n + 1, hn, h => by
    unfold evs
    rw [evs_congr (by omega) h, h (o + 1 + 2 * n) (by omega) (by omega), h (o + 2 + 2 * n) (by omega) (by omega)]
theorem evr_congr {s t : Nat → Int32} {o : Nat} {nm : Nat → Int32} (hn : (s o).toInt ≤ 50) (h : ∀ i, o ≤ i → i < o + 101 → t i = s i) : evr t o nm = evr s o nm := by
  unfold evr
  rw [h o (Nat.le_refl _) (by omega), evs_congr (by omega) h]
theorem WFL_le {s : Nat → Int32} {o : Nat} (h : WFL s o) : (s o).toInt ≤ 50 := by
  rcases h with h | h
  · rw [h]; decide
  · exact h.2.1
theorem gv_congr {s t : Nat → Int32} (w0 : WFL s 120) (w1 : WFL s 221) (h : ∀ i, 120 ≤ i → i < 322 → t i = s i) (use a b c : Int32) : gv t use a b c = gv s use a b c := by
  unfold gv
  rw [h 120 (by decide) (by decide), h 221 (by decide) (by decide), evr_congr (WFL_le w0) (fun i h1 h2 => h i h1 (by omega)), evr_congr (WFL_le w1) (fun i h1 h2 => h i (by omega) (by omega))]
theorem WFL_congr {s t : Nat → Int32} {o : Nat} (w0 : WFL s o) (h : ∀ i, o ≤ i → i < o + 101 → t i = s i) : WFL t o := by
  rcases w0 with w | ⟨h1, h2, dep, hd1, hd2, hd3⟩
  · exact Or.inl ((h o (Nat.le_refl _) (by omega)).trans w)
  · have e := h o (Nat.le_refl _) (by omega)
    refine Or.inr ⟨by rw [e]; exact h1, by rw [e]; exact h2, dep, hd1, by rw [e]; exact hd2, ?_⟩
    rw [e]
    intro k hk
    rw [h (o + 1 + 2 * k) (by omega) (by omega), h (o + 2 + 2 * k) (by omega) (by omega)]
    exact hd3 k hk
theorem LWR_congr {s t : Nat → Int32} {lq o : Nat} {mem m' : MMt} (w0 : LWR lq s o mem) (h : ∀ i, o ≤ i → i < o + 101 → t i = s i) (h2 : m' lq 2 = mem lq 2) (h3 : m' (lq + 1) = mem (lq + 1)) : LWR lq t o m' := by
  have e := h o (Nat.le_refl _) (by omega)
  rcases w0 with ⟨g1, g2⟩ | ⟨g1, g2, g3, g4⟩
  · exact Or.inl ⟨e.trans g1, h2.trans g2⟩
  · refine Or.inr ⟨by rw [e]; exact g1, by rw [e]; exact g2, by rw [h2, e]; exact g3, ?_⟩
    rw [e, h3]
    intro k hk
    rw [h (o + 1 + 2 * k) (by omega) (by omega), h (o + 2 + 2 * k) (by omega) (by omega)]
    exact g4 k hk
theorem gv0_rg (s : Nat → Int32) (a b c : Int32) : -9 ≤ (gv s 0 a b c).toInt ∧ (gv s 0 a b c).toInt ≤ 9 := by
  unfold gv
  rw [if_pos rfl]
  exact hld9 _
