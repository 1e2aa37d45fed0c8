/-- what the class's thought changes; what the reference's does -/
def FrC (s : Nat → Int32) (m m' : MMt) : Prop := (∀ a, a ≠ 21 → a ≠ 17 → a ≠ 54 → m' a = m a) ∧ MEM s m'
def FrM (m m' : MMt) : Prop := (∀ q, q ≠ 76 → q ≠ 81 → q ≠ 82 → m' q = m q) ∧ ∀ j, j ≠ 12 → j ≠ 13 → j ≠ 15 → m' 76 j = m 76 j
theorem FrM.tr {m m1 m2 : MMt} (h1 : FrM m m1) (h2 : FrM m1 m2) : FrM m m2 := ⟨fun q a b c => (h2.1 q a b c).trans (h1.1 q a b c), fun j a b c => (h2.2 j a b c).trans (h1.2 j a b c)⟩
theorem FrC.tr {s : Nat → Int32} {m m1 m2 : MMt} (h1 : FrC s m m1) (h2 : FrC s m1 m2) : FrC s m m2 := ⟨fun q a b c => (h2.1 q a b c).trans (h1.1 q a b c), h2.2⟩
theorem Inv_frC {n : Nat} {m m' : MMt} (h : Inv n m) (hf : FrC (m 77) m m') : Inv n m' ∧ m' 77 = m 77 := by
  refine ⟨Inv_sc h (fun a ha => ?_) ?_ hf.2, hf.1 77 (by decide) (by decide) (by decide)⟩
  · unfold SC at ha
    exact hf.1 a (by omega) (by omega) (by omega)
  · rw [hf.1 76 (by decide) (by decide) (by decide)]; exact ⟨rfl, rfl, rfl⟩
theorem Inv_frM {n : Nat} {m m' : MMt} (h : Inv n m) (hf : FrM m m') : Inv n m' ∧ m' 77 = m 77 := by
  refine ⟨Inv_sc h (fun a ha => ?_) ⟨hf.2 2 (by decide) (by decide) (by decide), hf.2 3 (by decide) (by decide) (by decide), hf.2 24 (by decide) (by decide) (by decide)⟩ (MEM_congr h.mem (hf.1 21 (by decide) (by decide) (by decide)) fun _ _ => rfl), hf.1 77 (by decide) (by decide) (by decide)⟩
  unfold SC at ha
  exact hf.1 a (by omega) (by omega) (by omega)
/-- good g of s becomes x -/
def PUT (s : Nat → Int32) (g : Nat) (x : Nat → Int32) : Nat → Int32 := fun i => if 10 + 5 * g ≤ i ∧ i < 10 + 5 * g + 5 then x (i - (10 + 5 * g)) else s i
theorem PUT_gd (s : Nat → Int32) (g : Nat) (x : Nat → Int32) {j : Nat} (hj : j < 5) : gd (PUT s g x) g j = x j := by
  unfold gd PUT
  rw [if_pos (by omega)]; congr 1; omega
theorem PUT_self (s : Nat → Int32) (g : Nat) : PUT s g (gd s g) = s := by
  funext i; unfold PUT gd
  split
  · congr 1; omega
  · rfl
theorem PUT_ext {s : Nat → Int32} {g : Nat} {x y : Nat → Int32} (h : ∀ j, j < 5 → x j = y j) : PUT s g x = PUT s g y := by
  funext i; unfold PUT
  split
  · exact h _ (by omega)
  · rfl
theorem PUT_upd (s : Nat → Int32) (g : Nat) (x : Nat → Int32) {j : Nat} (hj : j < 5) (v : Int32) : upd (PUT s g x) (10 + 5 * g + j) v = PUT s g (upd x j v) := by
  funext i; unfold PUT upd
  by_cases e : i = 10 + 5 * g + j
  · rw [if_pos e, if_pos (by omega), if_pos (by omega)]
  · rw [if_neg e]
    show (if 10 + 5 * g ≤ i ∧ i < 10 + 5 * g + 5 then x (i - (10 + 5 * g)) else s i) = _
    by_cases e2 : 10 + 5 * g ≤ i ∧ i < 10 + 5 * g + 5
    · rw [if_pos e2, if_pos e2, if_neg (by omega)]
    · rw [if_neg e2, if_neg e2]
theorem PUT_le (s : Nat → Int32) {g : Nat} (hg : g < 8) (x : Nat → Int32) : LE2 s (PUT s g x) := fun i h1 h2 => by
  unfold PUT; rw [if_neg (by omega)]
theorem stp_upd (s x : Nat → Int32) : upd (upd x 2 (FF s x)) 3 (VV s x) = stp s x := by
  funext j; unfold upd stp
  by_cases h1 : j = 3 <;> by_cases h2 : j = 2 <;> simp [h1, h2] <;> omega
theorem stp_ext {s x y : Nat → Int32} (h : ∀ j, j < 5 → x j = y j) : ∀ j, j < 5 → stp s x j = stp s y j := fun j hj => by
  have e := FV_ext (s := s) h
  unfold stp
  rw [e.1, e.2.1, h j hj]
theorem stp_rs {s x : Nat → Int32} (h : RS s x) : stp s x = x := by
  funext j; unfold stp
  by_cases h1 : j = 2
  · rw [if_pos h1, h1]; exact h.1
  · rw [if_neg h1]
    by_cases h2 : j = 3
    · rw [if_pos h2, h2]; exact h.2
    · rw [if_neg h2]
/-- the class's likeness goes on -/
theorem goX9 {s x : Nat → Int32} {m : MMt} (hx : ∀ j, j < 5 → m 54 j = x j) (hg : GW x) (hT : TH s m) (Q : Int32 → MMt → Prop)
    (h : ∀ m' : MMt, FrC s m m' → (∀ j, j < 5 → m' 54 j = stp s x j) → (RS s x → Q 0 m') ∧ (¬ RS s x → Q 1 m')) : L_X7_goesOn m Q := by
  refine goesOn9 (s := s) (GW_ext (fun j hj => (hx j hj).symm) hg) hT.1 hT.2.1 hT.2.2.1 hT.2.2.2 _ fun m' g1 g2 g3 => ?_
  have hR := (FV_ext (s := s) hx).2.2.2
  obtain ⟨k1, k2⟩ := h m' ⟨g1, g3⟩ (fun j hj => by rw [g2]; exact stp_ext hx j hj)
  exact ⟨fun c => k1 (hR.mp c), fun c => k2 fun d => c (hR.mpr d)⟩
theorem TH_frC {s : Nat → Int32} {m m' : MMt} (h : TH s m) (hf : FrC s m m') : TH s m' := TH_fr h (hf.1 15 (by decide) (by decide) (by decide)) (hf.1 16 (by decide) (by decide) (by decide)) hf.2
theorem copyX9 {q : Nat} {s x : Nat → Int32} {m : MMt} (hq : q ≠ 54) (hx : ∀ j, j < 5 → m q j = x j) (hM : MEM s m) (Q : MMt → Prop)
    (h : ∀ m' : MMt, FrC s m m' → (∀ j, j < 5 → m' 54 j = x j) → Q m') : L_X1_copyFrom 54 q m Q := by
  refine copy1 hq _ _ fun m1 h1 h2 => h m1 ⟨fun a _ _ a3 => h1 a a3, MEM_congr hM (h1 21 (by decide)) fun _ _ => rfl⟩ (fun j hj => ?_)
  rw [h2, cpy5_lt hj]; exact hx j hj
/-- the reference goes on with good g, which is x -/
theorem goX10 {a : Int32} {g : Nat} (ha : a.toInt = g) (hg : g < 8) {s x : Nat → Int32} (hw : WL s) {m : MMt} (hm : m 77 = PUT s g x) (Q : MMt → Prop)
    (h : ∀ m' : MMt, (∀ q, q ≠ 76 → q ≠ 77 → q ≠ 81 → q ≠ 82 → m' q = m q) → (∀ j, j ≠ 12 → j ≠ 13 → m' 76 j = m 76 j) → m' 77 = PUT s g (stp s x) → m' 76 12 = FF s x → Q m') :
    L_X10_looksAhead a m (fun m1 => L_X10_sets a (2 : Int32) (m1 76 12) m1 (fun m2 => L_X10_sets a (3 : Int32) (m2 76 13) m2 Q)) := by
  have ll := PUT_le s hg x
  refine looks10 ha hg (by rw [hm]; exact WL_le hw ll) _ fun m1 h1 h2 h3 h4 => ?_
  have eg : ∀ j, j < 5 → gd (m 77) g j = x j := fun j hj => by rw [hm]; exact PUT_gd s g x hj
  have e1 : FF (m 77) (gd (m 77) g) = FF s x := by rw [(FV_ext (s := m 77) eg).1, hm]; exact (FV_le hw ll x).2.1
  have e2 : VV (m 77) (gd (m 77) g) = VV s x := by rw [(FV_ext (s := m 77) eg).2.1, hm]; exact (FV_le hw ll x).2.2
  rw [e1] at h3
  rw [e2] at h4
  refine sets10 (j := 2) ha hg rfl (by decide) _ _ (sets10 (j := 3) ha hg rfl (by decide) _ _ ?_)
  rw [up2_ro _ _ _ _ _ (show 76 ≠ 77 by decide), h3, h4]
  refine h _ (fun q q1 q2 q3 q4 => by rw [up2_ro _ _ _ _ _ q2, up2_ro _ _ _ _ _ q2, h1 q q1 q3 q4]) (fun j j1 j2 => by rw [up2_ro _ _ _ _ _ (by decide), up2_ro _ _ _ _ _ (by decide), h2 j j1 j2]) ?_ (by rw [up2_ro _ _ _ _ _ (by decide), up2_ro _ _ _ _ _ (by decide), h3])
  rw [up2_row, up2_row, h1 77 (by decide) (by decide) (by decide), hm, PUT_upd _ _ _ (by decide), PUT_upd _ _ _ (by decide), stp_upd]
/-- x, and x with other FLOOR and SPEED -/
def X23 (x y : Nat → Int32) : Prop := ∀ j, j < 5 → j ≠ 2 → j ≠ 3 → y j = x j
theorem X23.stp {s x y : Nat → Int32} (h : X23 x y) : X23 x (stp s y) := fun j h1 h2 h3 => by
  unfold Jvm.Pilot.CNeckWorldsLaw_law_r4975_c478a2.stp
  rw [if_neg h2, if_neg h3]; exact h j h1 h2 h3
/-- FLOOR and SPEED put back -/
theorem backX10 {a : Int32} {g : Nat} (ha : a.toInt = g) (hg : g < 8) {s x y : Nat → Int32} (hxy : X23 x y) {m : MMt} (hm : m 77 = PUT s g y) (Q : MMt → Prop)
    (h : ∀ m' : MMt, (∀ q, q ≠ 77 → m' q = m q) → m' 77 = PUT s g x → Q m') : L_X10_sets a (2 : Int32) (x 2) m (fun m1 => L_X10_sets a (3 : Int32) (x 3) m1 Q) := by
  refine sets10 (j := 2) ha hg rfl (by decide) _ _ (sets10 (j := 3) ha hg rfl (by decide) _ _ ?_)
  refine h _ (fun q hq => by rw [up2_ro _ _ _ _ _ hq, up2_ro _ _ _ _ _ hq]) ?_
  rw [up2_row, up2_row, hm, PUT_upd _ _ _ (by decide), PUT_upd _ _ _ (by decide)]
  refine PUT_ext fun j hj => ?_
  unfold upd
  by_cases h3 : j = 3
  · rw [if_pos h3, h3]
  · rw [if_neg h3]
    by_cases h2 : j = 2
    · rw [if_pos h2, h2]
    · rw [if_neg h2]; exact hxy j hj h2 h3
/-- RESTS: behind how many STEPS, and where -/
def rsF (s : Nat → Int32) : Nat → (Nat → Int32) → Nat → Int32 × Int32
  | 0, x, _ => (-1, x 2)
  | f + 1, x, k => if FF s x = x 2 ∧ VV s x = x 3 then (Int32.ofNat k, x 2) else rsF s f (stp s x) (k + 1)
theorem rsF_ext {s : Nat → Int32} : ∀ (f : Nat) {x y : Nat → Int32} (k : Nat), (∀ j, j < 5 → x j = y j) → rsF s f x k = rsF s f y k
  | 0, x, y, k, h => by show (-1, x 2) = (-1, y 2); rw [h 2 (by decide)]
  | f + 1, x, y, k, h => by
    have e := FV_ext (s := s) h
    unfold rsF
    rw [e.1, e.2.1, h 2 (by decide), h 3 (by decide), rsF_ext f (k + 1) (stp_ext h)]
theorem rests9 {q : Nat} {s x : Nat → Int32} {m : MMt} (hq : q ≠ 54) (hx : ∀ j, j < 5 → m q j = x j) (hg : GW x) (hT : TH s m) (Q : Int32 → MMt → Prop)
    (h : ∀ m' : MMt, FrC s m m' → m' 54 2 = (rsF s 201 x 0).2 → Q (rsF s 201 x 0).1 m') : L_X7_restsBehind q m Q := by
  refine copyX9 hq hx hT.2.2.2 _ fun m1 f1 x1 => ?_
  have hT1 := TH_frC hT f1
  generalize hR : rsF s 201 x 0 = R at h
  unfold B_X7_restsBehind_10
  refine LOOP_up 201 (fun k z => z.1 = Int32.ofNat k ∧ FrC s m z.2 ∧ ∃ y : Nat → Int32, (∀ j, j < 5 → z.2 54 j = y j) ∧ GW y ∧ rsF s (201 - k) y k = R) ⟨rfl, f1, x, x1, hg, hR⟩ ?_ ?_
  · rintro k ⟨i, m2⟩ X hk ⟨e1, e2, y, e3, e4, e5⟩ hX
    dsimp only at e1 e2 e3 hX ⊢
    subst e1
    have hk2 : TI (Int32.ofNat k) k := on_ti (by omega)
    refine ⟨fun d => absurd d (by rw [Int32.lt_iff_toInt_lt, show (Int32.ofNat k).toInt = k from hk2]; simp only [Int32.reduceToInt]; omega), fun _ => ?_⟩
    refine goX9 (s := s) e3 e4 (TH_frC hT e2) _ fun m' g1 g2 => ⟨fun c => ⟨fun d => absurd rfl d, fun _ => ?_⟩, fun c => ⟨fun _ => ?_, fun d => absurd d (by decide)⟩⟩
    · rw [show 201 - k = (200 - k) + 1 by omega] at e5
      unfold rsF at e5
      rw [if_pos (show _ ∧ _ from c)] at e5
      have hh := h m' (e2.tr g1) (by rw [← e5, g2 2 (by decide), stp_rs c])
      rw [← e5] at hh
      exact hh
    · rintro v5 rfl
      refine hX _ ⟨on_1 k, e2.tr g1, stp s y, g2, stp_GW e4, ?_⟩
      rw [show 201 - k = (200 - k) + 1 by omega] at e5
      unfold rsF at e5
      rw [if_neg (show ¬ (_ ∧ _) from c)] at e5
      rw [show 201 - (k + 1) = 200 - k by omega]; exact e5
  · rintro ⟨i, m2⟩ X ⟨e1, e2, y, e3, e4, e5⟩
    dsimp only at e1 e2 e3 ⊢
    subst e1
    rw [show 201 - 201 = 0 by omega] at e5
    have e6 : ((-1 : Int32), y 2) = R := e5
    refine ⟨fun _ => ?_, fun d => absurd (by decide) d⟩
    have hh := h m2 e2 (by rw [← e6]; exact e3 2 (by decide))
    rw [← e6] at hh
    exact hh
theorem restOf10 {a : Int32} {g : Nat} (ha : a.toInt = g) (hg : g < 8) {m : MMt} (hw : WL (m 77)) (Q : Int32 → MMt → Prop)
    (h : ∀ m' : MMt, FrM m m' → m' 76 15 = (rsF (m 77) 201 (gd (m 77) g) 0).2 → Q (rsF (m 77) 201 (gd (m 77) g) 0).1 m') : L_X10_restOf a m Q := by
  refine of10 (j := 2) ha hg rfl (by decide) _ _ (of10 (j := 3) ha hg rfl (by decide) _ _ ?_)
  generalize hs : m 77 = s at hw h
  generalize hR : rsF s 201 (gd s g) 0 = R at h
  rw [show s (10 + 5 * g + 2) = gd s g 2 from rfl, show s (10 + 5 * g + 3) = gd s g 3 from rfl]
  have fin : ∀ (k : Nat) (z : MMt) (y : Nat → Int32), k ≤ 201 → (∀ q, q ≠ 76 → q ≠ 77 → q ≠ 81 → q ≠ 82 → z q = m q) → (∀ j, j ≠ 12 → j ≠ 13 → z 76 j = m 76 j) → z 77 = PUT s g y → X23 (gd s g) y → ((if 200 < k then (-1 : Int32) else Int32.ofNat k), y 2) = R → B_X10_restOf_59 a (gd s g 2) (gd s g 3) (Int32.ofNat k) z Q := by
    intro k z y hk p1 p2 p3 p4 p5
    have hk2 : TI (Int32.ofNat k) k := on_ti (by omega)
    refine of10 (j := 2) ha hg rfl (by decide) _ _ ?_
    rintro m3 hm3
    refine backX10 ha hg (s := s) (x := gd s g) (y := y) p4 (by rw [hm3, up2_ro _ _ _ _ _ (by decide)]; exact p3) _ fun m5 q1 q2 => ?_
    have e2 : z 77 (10 + 5 * g + 2) = y 2 := by rw [p3]; exact PUT_gd s g y (by decide)
    have f5 : FrM m m5 := by
      refine ⟨fun q x1 x2 x3 => ?_, fun j j1 j2 j3 => ?_⟩
      · by_cases e : q = 77
        · subst e; rw [q2, PUT_self, hs]
        · rw [q1 q e, hm3, up2_ro _ _ _ _ _ x1, p1 q x1 e x2 x3]
      · rw [q1 76 (by decide), hm3, uq, if_neg j3, p2 j j1 j2]
    have hh := h m5 f5 (by rw [q1 76 (by decide), hm3, up2_eq, e2, ← p5])
    rw [← p5] at hh
    refine ⟨fun d => ?_, fun d => ?_⟩
    · rw [Int32.lt_iff_toInt_lt, show (Int32.ofNat k).toInt = k from hk2] at d
      simp only [Int32.reduceToInt] at d
      rw [if_pos (by omega)] at hh; exact hh
    · rw [Int32.lt_iff_toInt_lt, show (Int32.ofNat k).toInt = k from hk2] at d
      simp only [Int32.reduceToInt] at d
      rw [if_neg (by omega)] at hh; exact hh
  unfold B_X10_restOf_17
  refine LOOP_up 201 (fun k z => z.1 = Int32.ofNat k ∧ (∀ q, q ≠ 76 → q ≠ 77 → q ≠ 81 → q ≠ 82 → z.2 q = m q) ∧ (∀ j, j ≠ 12 → j ≠ 13 → z.2 76 j = m 76 j) ∧ ∃ y : Nat → Int32, z.2 77 = PUT s g y ∧ X23 (gd s g) y ∧ rsF s (201 - k) y k = R) ⟨rfl, fun _ _ _ _ _ => rfl, fun _ _ _ => rfl, gd s g, by rw [PUT_self]; exact hs, fun _ _ _ _ => rfl, hR⟩ ?_ ?_
  · rintro k ⟨i, z⟩ X hk ⟨e1, e2, e3, y, e4, e5, e6⟩ hX
    dsimp only at e1 e2 e3 e4 hX ⊢
    subst e1
    have hk2 : TI (Int32.ofNat k) k := on_ti (by omega)
    refine ⟨fun d => absurd d (by rw [Int32.lt_iff_toInt_lt, show (Int32.ofNat k).toInt = k from hk2]; simp only [Int32.reduceToInt]; omega), fun _ => ?_⟩
    have ll := PUT_le s hg y
    have eg : ∀ j, j < 5 → gd (z 77) g j = y j := fun j hj => by rw [e4]; exact PUT_gd s g y hj
    refine isAtRest10 ha hg (by rw [e4]; exact WL_le hw ll) _ fun m1 h1 h2 h3 h4 => ?_
    have k1 : FF (z 77) (gd (z 77) g) = FF s y := by rw [(FV_ext (s := z 77) eg).1, e4]; exact (FV_le hw ll y).2.1
    have k2 : VV (z 77) (gd (z 77) g) = VV s y := by rw [(FV_ext (s := z 77) eg).2.1, e4]; exact (FV_le hw ll y).2.2
    have kr : RS (z 77) (gd (z 77) g) ↔ RS s y := by unfold RS; rw [k1, k2, eg 2 (by decide), eg 3 (by decide)]
    rw [kr]
    rw [k1] at h3
    rw [k2] at h4
    have f77 : m1 77 = PUT s g y := by rw [h1 77 (by decide) (by decide) (by decide), e4]
    rw [show 201 - k = (200 - k) + 1 by omega] at e6
    unfold rsF at e6
    refine ⟨fun c => ⟨fun _ => ?_, fun d => absurd d (by decide)⟩, fun c => ⟨fun d => absurd rfl d, fun _ => ?_⟩⟩
    · rw [if_pos (show _ ∧ _ from c)] at e6
      refine fin k m1 y (by omega) (fun q q1 q2 q3 q4 => by rw [h1 q q1 q3 q4, e2 q q1 q2 q3 q4]) (fun j j1 j2 => by rw [h2 j j1 j2, e3 j j1 j2]) f77 e5 (by rw [if_neg (by omega)]; exact e6)
    · rw [if_neg (show ¬ (_ ∧ _) from c)] at e6
      refine sets10 (j := 2) ha hg rfl (by decide) _ _ (sets10 (j := 3) ha hg rfl (by decide) _ _ ?_)
      rw [up2_ro _ _ _ _ _ (show 76 ≠ 77 by decide), h3, h4]
      rintro v7 rfl
      generalize hm2 : up2 (up2 m1 77 (10 + 5 * g + 2) (FF s y)) 77 (10 + 5 * g + 3) (VV s y) = m2
      refine hX _ ⟨on_1 k, fun q q1 q2 q3 q4 => ?_, fun j j1 j2 => ?_, stp s y, ?_, e5.stp, by rw [show 201 - (k + 1) = 200 - k by omega]; exact e6⟩
      · show m2 q = _
        rw [← hm2, up2_ro _ _ _ _ _ q2, up2_ro _ _ _ _ _ q2, h1 q q1 q3 q4, e2 q q1 q2 q3 q4]
      · show m2 76 j = _
        rw [← hm2, up2_ro _ _ _ _ _ (by decide), up2_ro _ _ _ _ _ (by decide), h2 j j1 j2, e3 j j1 j2]
      · show m2 77 = _
        rw [← hm2, up2_row, up2_row, f77, PUT_upd _ _ _ (by decide), PUT_upd _ _ _ (by decide), stp_upd]
  · rintro ⟨i, z⟩ X ⟨e1, e2, e3, y, e4, e5, e6⟩
    dsimp only at e1 e2 e3 e4 ⊢
    subst e1
    refine ⟨fun _ => fin 201 z y (Nat.le_refl _) e2 e3 e4 e5 (by rw [if_pos (by decide)]; exact e6), fun d => absurd (by decide) d⟩
theorem rsF_rg {s : Nat → Int32} : ∀ (f : Nat) (x : Nat → Int32) (k : Nat), f + k ≤ 201 → (rsF s f x k).1 = -1 ∨ (0 ≤ (rsF s f x k).1.toInt ∧ (rsF s f x k).1.toInt ≤ 200)
  | 0, x, k, _ => Or.inl rfl
  | f + 1, x, k, h => by
    unfold rsF
    split
    · have e : TI (Int32.ofNat k) k := on_ti (by omega)
      right
      show 0 ≤ (Int32.ofNat k).toInt ∧ (Int32.ofNat k).toInt ≤ 200
      rw [show (Int32.ofNat k).toInt = k from e]; omega
    · exact rsF_rg f _ (k + 1) (by omega)
