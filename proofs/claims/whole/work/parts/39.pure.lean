/-- both sides tell the ERROR k -/
theorem err_end {n : Nat} {mem : MMt} (h : Inv n mem) {k : Int32} (hk : 0 ≤ k.toInt ∧ k.toInt < 6) {R : (Int32 → MMt → Prop) → MMt → Prop}
    (hR : ∀ (m : MMt) (Q : Int32 → MMt → Prop), (∀ a, a ≠ 67 → m a = mem a) → L_X10_error k m Q → R Q m) : L_X9_error k mem (fun r m => R (fun r' m' => r = r' ∧ Inv n m') m) := by
  rw [err9 hk]
  refine hR _ _ (fun a ha => up2_ro _ _ _ _ _ ha) ?_
  rw [err10 hk]
  refine ⟨rfl, Inv_err h (k := k.toNatClampNeg) (fun a h1 h2 => by rw [up2_ro _ _ _ _ _ h2, up2_ro _ _ _ _ _ h1]) ?_ ?_ (by rw [tn_ti]; omega)⟩
  · rw [up2_ro _ _ _ _ _ (by decide), up2_row]
  · rw [up2_row, up2_ro _ _ _ _ _ (by decide)]
theorem Inv.n9 {n : Nat} {mem : MMt} (h : Inv n mem) : mem 1 1 = mem 77 6 ∧ 0 ≤ (mem 77 6).toInt ∧ (mem 77 6).toInt ≤ 8 := ⟨h.1.1.1, h.1.2.1⟩
/-- a change of goods, doors, tape, numbers that wait -/
theorem Inv_ct {n : Nat} {mem m' : MMt} (h : Inv n mem) (hr : ∀ a, a ≠ 77 → (a = 0 ∨ 15 ≤ a) → ¬ SC a → m' a = mem a) (h76 : m' 76 2 = mem 76 2 ∧ m' 76 3 = mem 76 3 ∧ m' 76 24 = mem 76 24)
    (hIC : IC m') (hIT : IT m') (hs : ∀ i, 120 ≤ i → i < 322 → m' 77 i = mem 77 i) (hM : MEM (mem 77) m') : Inv n m' := by
  obtain ⟨c1, c2, c3, c4, c5, c6, c7⟩ := h
  have r : ∀ a, ((a = 0 ∨ 15 ≤ a) ∧ a ≠ 77 ∧ a ≠ 17 ∧ a ≠ 20 ∧ a ≠ 21 ∧ a ≠ 23 ∧ a ≠ 38 ∧ (a < 41 ∨ 63 < a) ∧ a ≠ 66 ∧ a ≠ 76 ∧ (a < 80 ∨ 85 < a) ∧ a < 90) → m' a = mem a := fun a ha => hr a (by omega) (by omega) (by unfold SC; omega)
  refine ⟨hIC, hIT, ⟨by rw [r 15 (by omega)]; exact c3.1, by rw [r 18 (by omega)]; exact c3.2.1, ?_⟩, IK_fr c4 (by rw [r 0 (by omega)]) h76.1 h76.2.1 (fun a ha => r a (by omega)), IE_fr c5 (r _ (by omega)) (r _ (by omega)), IV_fr c6 (r _ (by omega)) (r _ (by omega)) (r _ (by omega)) h76.2.2, ISh_fr c7 (fun a ha => r a (by omega))⟩
  exact MEM_congr hM rfl fun a b => gv_congr c2.2.2.2.2.1 c2.2.2.2.2.2 hs _ _ _ _
theorem Inv_c {n : Nat} {mem m' : MMt} (h : Inv n mem) (hr : ∀ a, a ≠ 77 → (a = 0 ∨ 11 ≤ a) → ¬ SC a → m' a = mem a) (h76 : m' 76 2 = mem 76 2 ∧ m' 76 3 = mem 76 3 ∧ m' 76 24 = mem 76 24)
    (hIC : IC m') (hs : ∀ i, 2 ≤ i → i ≠ 6 → (i < 10 ∨ 50 ≤ i) → i < 322 → m' 77 i = mem 77 i) (hM : MEM (mem 77) m') : Inv n m' :=
  Inv_ct h (fun a h1 h2 h3 => hr a h1 (by omega) h3) h76 hIC (IT_fr h.2.1 (fun a h1 h2 h3 => hr a (by omega) (by omega) (by unfold SC; omega)) hs) (fun i h1 h2 => hs i (by omega) (by omega) (by omega) h2) hM
/-- one good becomes x on both sides -/
theorem IC_good {mem m' : MMt} (h : IC mem) {g : Nat} (hg : (g : Int) < (mem 77 6).toInt) {x : Nat → Int32} (hx : GW x)
    (hr : ∀ a, a = 1 ∨ (3 ≤ a ∧ a ≤ 10 ∧ a ≠ 3 + g) → m' a = mem a) (h1 : ∀ j, j < 5 → m' (3 + g) j = x j) (h2 : ∀ j, j < 5 → m' 77 (10 + 5 * g + j) = x j) (h3 : ∀ i, i < 50 → (i < 10 + 5 * g ∨ 10 + 5 * g + 5 ≤ i) → m' 77 i = mem 77 i) : IC m' := by
  obtain ⟨⟨a1, a2, a3, a4⟩, b1, b2⟩ := h
  have e6 := h3 6 (by decide) (by omega)
  have gx : ∀ j, j < 5 → gd (m' 77) g j = x j := h2
  have go : ∀ g' : Nat, (g' : Int) < (mem 77 6).toInt → g' ≠ g → ∀ j, j < 5 → gd (m' 77) g' j = gd (mem 77) g' j := fun g' q1 q2 j hj => h3 _ (by omega) (by omega)
  refine ⟨⟨?_, ?_, ?_, ?_⟩, ?_, ?_⟩
  · rw [hr 1 (by omega), e6]; exact a1
  · rw [hr 1 (by omega), h3 0 (by decide) (by omega)]; exact a2
  · rw [hr 1 (by omega), h3 1 (by decide) (by omega)]; exact a3
  · intro g' hg' j hj
    rw [e6] at hg'
    by_cases e : g' = g
    · subst e
      rw [gx j hj, show 1 + 2 + g' = 3 + g' by omega]; exact h1 j hj
    · rw [go g' hg' e j hj, hr _ (by omega)]; exact a4 g' hg' j hj
  · rw [e6]; exact b1
  · intro g' hg'
    rw [e6] at hg'
    by_cases e : g' = g
    · subst e
      unfold GW
      rw [gx 0 (by decide), gx 1 (by decide), gx 2 (by decide), gx 3 (by decide), gx 4 (by decide)]
      exact hx
    · have := b2 g' hg'
      unfold GW at this ⊢
      rw [go g' hg' e 0 (by decide), go g' hg' e 1 (by decide), go g' hg' e 2 (by decide), go g' hg' e 3 (by decide), go g' hg' e 4 (by decide)]
      exact this
theorem j5 {j : Nat} (h : j < 5) : j = 0 ∨ j = 1 ∨ j = 2 ∨ j = 3 ∨ j = 4 := by omega
theorem Inv.row {n : Nat} {mem : MMt} (h : Inv n mem) {g : Nat} (hg : (g : Int) < (mem 77 6).toInt) {j : Nat} (hj : j < 5) : mem (3 + g) j = gd (mem 77) g j := by
  rw [show 3 + g = 1 + 2 + g by omega]; exact h.1.1.2.2.2 g hg j hj
theorem Inv.gw {n : Nat} {mem : MMt} (h : Inv n mem) {g : Nat} (hg : (g : Int) < (mem 77 6).toInt) : GW (gd (mem 77) g) := h.1.2.2 g hg
theorem Inv.mem {n : Nat} {mem : MMt} (h : Inv n mem) : MEM (mem 77) mem := h.2.2.1.2.2
theorem row3 (g : Nat) : 1 + 2 + g = 3 + g := by omega
theorem uq (m : MMt) (q j0 : Nat) (v : Int32) (j : Nat) : up2 m q j0 v q j = if j = j0 then v else m q j := by
  rw [up2_at]; by_cases e : j = j0 <;> simp [e]
theorem u77 (m : MMt) (g j0 : Nat) (v : Int32) (j : Nat) : up2 m 77 (10 + 5 * g + j0) v 77 (10 + 5 * g + j) = if j = j0 then v else m 77 (10 + 5 * g + j) := by
  rw [uq]; by_cases e : j = j0
  · rw [if_pos e, if_pos (by omega)]
  · rw [if_neg e, if_neg (by omega)]
theorem u77o (m : MMt) (i0 : Nat) (v : Int32) (i : Nat) (h : i ≠ i0) : up2 m 77 i0 v 77 i = m 77 i := by rw [uq, if_neg h]
theorem Inv.i9 {n : Nat} {mem : MMt} (h : Inv n mem) (a : Int32) (Q : Int32 → MMt → Prop) : L_X9_isGood a mem Q ↔ if 0 ≤ a.toInt ∧ a.toInt < (mem 77 6).toInt then Q 1 mem else Q 0 mem := by
  obtain ⟨e1, e2⟩ := h.n9
  rw [isGood9 (e1 ▸ e2), e1]
theorem Inv.i10 {n : Nat} {mem : MMt} (h : Inv n mem) (a : Int32) {m : MMt} (hm : m 77 6 = mem 77 6) (Q : Int32 → MMt → Prop) : L_X10_isGood a m Q ↔ if 0 ≤ a.toInt ∧ a.toInt < (mem 77 6).toInt then Q 1 m else Q 0 m := by
  obtain ⟨e1, e2⟩ := h.n9
  rw [isGood10 (hm ▸ e2), hm]
/-- the rows of one good, written by both -/
theorem Inv_good {n : Nat} {mem m' : MMt} (h : Inv n mem) {g : Nat} (hg : (g : Int) < (mem 77 6).toInt) {x : Nat → Int32} (hx : GW x) (hr : ∀ a, a ≠ 3 + g → a ≠ 77 → m' a = mem a)
    (h1 : ∀ j, j < 5 → m' (3 + g) j = x j) (h2 : ∀ j, j < 5 → m' 77 (10 + 5 * g + j) = x j) (h3 : ∀ i, (i < 10 + 5 * g ∨ 10 + 5 * g + 5 ≤ i) → m' 77 i = mem 77 i) : Inv n m' := by
  have hg8 := h.1.2.1.2
  refine Inv_c h (fun a h1 h2 h3 => hr a (by omega) (by omega)) ⟨by rw [hr 76 (by omega) (by omega)], by rw [hr 76 (by omega) (by omega)], by rw [hr 76 (by omega) (by omega)]⟩ (IC_good h.1 hg hx (fun a ha => hr a (by omega) (by omega)) h1 h2 (fun i _ hi => h3 i hi)) (fun i q1 q2 q3 q4 => h3 i (by omega)) (MEM_congr h.mem (hr 21 (by omega) (by omega)) fun _ _ => rfl)
theorem FV_ext {s x y : Nat → Int32} (h : ∀ j, j < 5 → x j = y j) : FF s x = FF s y ∧ VV s x = VV s y ∧ LPp s x = LPp s y ∧ (RS s x ↔ RS s y) := by
  have e0 := h 0 (by decide)
  have e1 := h 1 (by decide)
  have e2 := h 2 (by decide)
  have e3 := h 3 (by decide)
  have e4 := h 4 (by decide)
  have eL : LPp s x = LPp s y := by unfold LPp; rw [e1, e2]
  have eF : FF s x = FF s y := by unfold FF nF; rw [eL, e0, e1, e2, e3, e4]
  have eV : VV s x = VV s y := by
    have eF' : nF (LPp s x) x = nF (LPp s y) y := eF
    unfold VV nV; rw [eF', eL, e0, e1, e2, e3]
  refine ⟨eF, eV, eL, ?_⟩
  unfold RS; rw [eF, eV, e2, e3]
theorem cpy5_lt {x y : Nat → Int32} {j : Nat} (h : j < 5) : cpy5 x y j = x j := if_pos h
theorem GW_ext {x y : Nat → Int32} (h : ∀ j, j < 5 → x j = y j) (hx : GW x) : GW y := by
  unfold GW at hx ⊢
  rw [← h 0 (by decide), ← h 1 (by decide), ← h 2 (by decide), ← h 3 (by decide), ← h 4 (by decide)]; exact hx
/-- what the class's thought needs of the laws -/
def TH (s : Nat → Int32) (mem : MMt) : Prop := LWR 15 s 120 mem ∧ mem 15 0 = 0 ∧ WFL s 120 ∧ MEM s mem
theorem TH_fr {s : Nat → Int32} {mem m' : MMt} (h : TH s mem) (h1 : m' 15 = mem 15) (h2 : m' 16 = mem 16) (hM : MEM s m') : TH s m' :=
  ⟨LWR_congr h.1 (fun _ _ _ => rfl) (by rw [h1]) h2, by rw [h1]; exact h.2.1, h.2.2.1, hM⟩
theorem Inv.th {n : Nat} {mem : MMt} (h : Inv n mem) : TH (mem 77) mem := ⟨h.2.1.1.2.2.2.2.1, h.2.2.1.1, h.2.1.2.2.2.2.1, h.mem⟩
theorem Inv.wl {n : Nat} {mem : MMt} (h : Inv n mem) : WL (mem 77) := h.2.1.2.2.2.2
theorem stays9 {q : Nat} {s : Nat → Int32} {mem : MMt} (hx : GW (mem q)) (hT : TH s mem) (hq : q ≠ 54) (hq1 : q ≠ 21) (hq2 : q ≠ 17) (Q : Int32 → MMt → Prop)
    (h : ∀ m' : MMt, (∀ a, a ≠ 21 → a ≠ 17 → a ≠ 54 → m' a = mem a) → MEM s m' → (RS s (mem q) → Q 1 m') ∧ (¬ RS s (mem q) → Q 0 m')) : L_X7_stays q mem Q := by
  refine copy1 hq _ _ fun m1 h1 h2 => ?_
  have hj : ∀ j, j < 5 → m1 54 j = mem q j := fun j hj => by rw [h2]; exact cpy5_lt hj
  have hT1 := TH_fr (m' := m1) hT (h1 15 (by decide)) (h1 16 (by decide)) (MEM_congr hT.2.2.2 (h1 21 (by decide)) fun _ _ => rfl)
  refine goesOn9 (s := s) (GW_ext (fun j hj' => (hj j hj').symm) hx) hT1.1 hT1.2.1 hT1.2.2.1 hT1.2.2.2 _ fun m2 g1 g2 g3 => ?_
  obtain ⟨k1, k2⟩ := h m2 (fun a a1 a2 a3 => by rw [g1 a a1 a2 a3, h1 a a3]) g3
  have hR := (FV_ext (s := s) hj).2.2.2
  refine ⟨fun c => ⟨fun d => absurd rfl d, fun _ => k1 (hR.mp c)⟩, fun c => ⟨fun _ => k2 fun d => c (hR.mpr d), fun d => absurd d (by decide)⟩⟩
def UN (k ab : Int32) : Prop := ab = 0 ∨ k = ab ∨ (ab = 1 ∧ k = 6) ∨ (ab = 2 ∧ k = 4) ∨ (ab = 3 ∧ k = 5)
theorem c7 {k : Int32} (h : 0 ≤ k.toInt ∧ k.toInt ≤ 6) : k = 0 ∨ k = 1 ∨ k = 2 ∨ k = 3 ∨ k = 4 ∨ k = 5 ∨ k = 6 := by
  simp only [eq_ti, Int32.reduceToInt]; omega
def dpt (k : Int32) : Nat := if k = -1 then 0 else if k = 0 then 1 else if k = 1 ∨ k = 2 ∨ k = 3 then 2 else 3
theorem un_step {k ab : Int32} (h : 0 ≤ k.toInt ∧ k.toInt ≤ 6) (hab : 0 ≤ ab.toInt ∧ ab.toInt ≤ 6) (hne : ¬ k = ab) :
    (aboveF k.toNatClampNeg = -1 ∨ (0 ≤ (aboveF k.toNatClampNeg).toInt ∧ (aboveF k.toNatClampNeg).toInt ≤ 6)) ∧ dpt (aboveF k.toNatClampNeg) < dpt k ∧ ((aboveF k.toNatClampNeg = -1 → ¬ UN k ab) ∧ (¬ aboveF k.toNatClampNeg = -1 → (UN (aboveF k.toNatClampNeg) ab ↔ UN k ab))) := by
  unfold UN
  rcases c7 h with rfl | rfl | rfl | rfl | rfl | rfl | rfl <;> rcases c7 hab with rfl | rfl | rfl | rfl | rfl | rfl | rfl <;> first
    | exact absurd rfl hne
    | (refine ⟨by decide, by decide, by decide, by decide⟩)
theorem under9 {k ab : Int32} (hk : 0 ≤ k.toInt ∧ k.toInt ≤ 6) (hab : 0 ≤ ab.toInt ∧ ab.toInt ≤ 6) (mem : MMt) (Q : Int32 → MMt → Prop) (h1 : UN k ab → Q 1 mem) (h0 : ¬ UN k ab → Q 0 mem) : L_X9_isUnder k ab mem Q := by
  unfold L_X9_isUnder B_X9_isUnder_4
  refine LOOP_dn (fun n z => z.2.2 = mem ∧ n = dpt z.1 ∧ 0 ≤ z.2.1.toInt ∧ z.2.1.toInt + n ≤ 3 ∧ ((z.1 = -1 ∧ ¬ UN k ab) ∨ ((0 ≤ z.1.toInt ∧ z.1.toInt ≤ 6) ∧ (UN z.1 ab ↔ UN k ab)))) (n0 := dpt k) ⟨rfl, rfl, (by decide : (0 : Int) ≤ (0 : Int32).toInt), ?_, Or.inr ⟨hk, Iff.rfl⟩⟩ ?_
  · show (0 : Int32).toInt + (dpt k : Nat) ≤ 3
    rcases c7 hk with rfl | rfl | rfl | rfl | rfl | rfl | rfl <;> decide
  · rintro n ⟨x2, x3, m⟩ X ⟨rfl, e2, e3, e4, e5⟩ hX
    dsimp only at e2 e3 e4 e5 ⊢
    refine ⟨fun c => ?_, fun c => ⟨fun d => ?_, fun d => ⟨fun e => ?_, fun e => ?_⟩⟩⟩
    · rw [Int32.le_iff_toInt_le] at c; simp only [Int32.reduceToInt] at c; omega
    · rcases e5 with ⟨r1, r2⟩ | ⟨r1, r2⟩
      · exact h0 r2
      · rw [Int32.lt_iff_toInt_lt] at d; simp only [Int32.reduceToInt] at d; omega
    · rcases e5 with ⟨r1, r2⟩ | ⟨r1, r2⟩
      · rw [r1] at d; exact absurd (by decide) d
      · obtain ⟨s1, s2, s3, s4⟩ := un_step r1 hab e
        refine ⟨vp_ti.mpr (by omega), ?_⟩
        rintro v5 rfl v6 rfl
        refine hX _ _ (by rw [e2]; exact s2) ⟨rfl, rfl, ?_, ?_, ?_⟩
        · dsimp only; rw [ad_ti]; simp only [Int32.reduceToInt]; omega
        · dsimp only; rw [ad_ti]; simp only [Int32.reduceToInt]; omega
        · dsimp only
          by_cases c1 : aboveF x2.toNatClampNeg = -1
          · exact Or.inl ⟨c1, fun u => s3 c1 (r2.mpr u)⟩
          · exact Or.inr ⟨s1.resolve_left c1, (s4 c1).trans r2⟩
    · rcases e5 with ⟨r1, r2⟩ | ⟨r1, r2⟩
      · rw [r1] at d; exact absurd (by decide) d
      · exact h1 (r2.mp (Or.inr (Or.inl e)))
theorem under10 {k ab : Int32} (mem : MMt) (Q : Int32 → MMt → Prop) (h1 : UN k ab → Q 1 mem) (h0 : ¬ UN k ab → Q 0 mem) : L_X10_isUnder k ab mem Q := by
  unfold UN at h1 h0
  unfold L_X10_isUnder B_X10_isUnder_20 B_X10_isUnder_30
  by_cases a0 : ab = 0
  · subst a0; simp; exact h1 (Or.inl rfl)
  · by_cases ak : k = ab
    · simp [a0, ak]; exact h1 (Or.inr (Or.inl ak))
    · by_cases a1 : ab = 1
      · subst a1
        by_cases b1 : k = 6
        · simp [ak, b1]; exact h1 (by simp [b1])
        · simp [ak, b1]; exact h0 (by simp [ak, b1])
      · by_cases a2 : ab = 2
        · subst a2
          by_cases b1 : k = 4
          · simp [ak, b1]; exact h1 (by simp [b1])
          · simp [ak, b1]; exact h0 (by simp [ak, b1])
        · by_cases a3 : ab = 3
          · subst a3
            by_cases b1 : k = 5
            · simp [ak, b1]; exact h1 (by simp [b1])
            · simp [ak, b1]; exact h0 (by simp [ak, b1])
          · simp [a0, ak, a1, a2, a3]; exact h0 (by simp [a0, ak, a1, a2, a3])
