/-- where the reference's reading stands -/
def MSt (s : Nat → Int32) (u : Int32) (at_ op c : Nat) (M : MMt) : Prop := M 77 = s ∧ (M 76 5).toInt = at_ ∧ (M 76 6).toInt = op ∧ M 76 7 = u ∧ (M 76 8).toInt = c
def FrP (M M' : MMt) : Prop := (∀ q, q ≠ 76 → q ≠ 80 → M' q = M q) ∧ ∀ j, j ≠ 5 → j ≠ 6 → j ≠ 8 → M' 76 j = M 76 j
theorem FrP.rf (M : MMt) : FrP M M := ⟨fun _ _ _ => rfl, fun _ _ _ _ => rfl⟩
theorem FrP.tr {M M1 M2 : MMt} (h1 : FrP M M1) (h2 : FrP M1 M2) : FrP M M2 := ⟨fun q a b => (h2.1 q a b).trans (h1.1 q a b), fun j a b c => (h2.2 j a b c).trans (h1.2 j a b c)⟩
def cd (M : MMt) (k : Nat) : Int32 × Int32 := (M 80 (2 * k), M 80 (2 * k + 1))
/-- from c on the code is o; below it is as in M -/
def CD (M M' : MMt) (c : Nat) (o : List (Int32 × Int32)) : Prop := (∀ k, k < c → cd M' k = cd M k) ∧ ∀ k, k < o.length → cd M' (c + k) = o.getD k (0, 0)
theorem CD.rf (M : MMt) (c : Nat) : CD M M c [] := ⟨fun _ _ => rfl, fun k hk => absurd hk (by simp)⟩
theorem getD_app {α : Type} (a b : List α) (k : Nat) (d : α) : (a ++ b).getD k d = if k < a.length then a.getD k d else b.getD (k - a.length) d := by
  rw [List.getD_eq_getElem?_getD, List.getElem?_append]
  split
  · rw [List.getD_eq_getElem?_getD]
  · rw [List.getD_eq_getElem?_getD]
theorem CD.tr {M M1 M2 : MMt} {c : Nat} {a b : List (Int32 × Int32)} (h1 : CD M M1 c a) (h2 : CD M1 M2 (c + a.length) b) : CD M M2 c (a ++ b) := by
  refine ⟨fun k hk => (h2.1 k (by omega)).trans (h1.1 k hk), fun k hk => ?_⟩
  rw [getD_app]
  rw [List.length_append] at hk
  by_cases e : k < a.length
  · rw [if_pos e, h2.1 _ (by omega)]; exact h1.2 k e
  · rw [if_neg e]
    have := h2.2 (k - a.length) (by omega)
    rwa [show c + a.length + (k - a.length) = c + k by omega] at this
abbrev WPt : Type := MMt → (Int32 → MMt → Prop) → Prop
/-- the reference reads from at_ to at1, laying o; or fails at at1 -/
def OKM (W : WPt) (s : Nat → Int32) (u : Int32) (op at_ at1 : Nat) (o : List (Int32 × Int32)) : Prop :=
  ∀ (M : MMt) (c : Nat), MSt s u at_ op c M → c ≤ at_ → ∀ Q : Int32 → MMt → Prop, (∀ M' : MMt, MSt s u at1 op (c + o.length) M' → FrP M M' → CD M M' c o → Q 1 M') → W M Q
def NOM (W : WPt) (s : Nat → Int32) (u : Int32) (op at_ at1 : Nat) : Prop :=
  ∀ (M : MMt) (c : Nat), MSt s u at_ op c M → c ≤ at_ → ∀ Q : Int32 → MMt → Prop, (∀ (M' : MMt) (c' : Nat), MSt s u at1 op c' M' → c' + at_ ≤ c + at1 → FrP M M' → Q 0 M') → W M Q
/-- steps that lead from depth d to depth e -/
def RUN : List (Int32 × Int32) → Nat → Nat → Prop
  | [], d, e => d = e
  | x :: r, d, e => ∃ d', WST x.1 x.2 d d' ∧ RUN r d' e
theorem RUN_app : ∀ {a b : List (Int32 × Int32)} {d m e : Nat}, RUN a d m → RUN b m e → RUN (a ++ b) d e
  | [], _, _, _, _, h1, h2 => by
    have h1' : _ = _ := h1
    subst h1'; exact h2
  | x :: r, b, d, m, e, ⟨d', h1, h2⟩, h3 => ⟨d', h1, RUN_app h2 h3⟩
def WV (o : List (Int32 × Int32)) : Prop := ∀ d, RUN o d (d + 1)
theorem WV_0 {v : Int32} (h : 0 ≤ v.toInt ∧ v.toInt ≤ 9999) : WV [(0, v)] := fun d => ⟨d + 1, Or.inl ⟨rfl, h.1, h.2, rfl⟩, rfl⟩
theorem WV_1 {v : Int32} (h : 0 ≤ v.toInt ∧ v.toInt ≤ 2) : WV [(1, v)] := fun d => ⟨d + 1, Or.inr (Or.inl ⟨rfl, h.1, h.2, rfl⟩), rfl⟩
theorem WV_3 {o : List (Int32 × Int32)} (h : WV o) : WV (o ++ [(3, 0)]) := fun d => RUN_app (h d) ⟨d + 1, Or.inr (Or.inr (Or.inl ⟨rfl, by omega, rfl⟩)), rfl⟩
theorem WV_2 {a b : List (Int32 × Int32)} {v : Int32} (ha : WV a) (hb : WV b) (hv : sgnc v) : WV (a ++ (b ++ [(2, v)])) := fun d => RUN_app (ha d) (RUN_app (hb (d + 1)) ⟨d + 1, Or.inr (Or.inr (Or.inr ⟨rfl, hv, by omega, rfl⟩)), rfl⟩)
/-- where the class's reading stands -/
def CS (s : Nat → Int32) (n at_ cnt : Nat) (m : MMt) : Prop := (m 55 3).toInt = n ∧ (m 55 4).toInt = at_ ∧ (m 55 1).toInt = cnt ∧ ∀ i, i < n → BT (m 13 i) (s (50 + i))
def FrQ (m m' : MMt) : Prop := (∀ q, q ≠ 55 → q ≠ 56 → m' q = m q) ∧ ∀ j, j ≠ 1 → j ≠ 4 → m' 55 j = m 55 j
theorem FrQ.rf (m : MMt) : FrQ m m := ⟨fun _ _ _ => rfl, fun _ _ _ => rfl⟩
theorem FrQ.tr {M M1 M2 : MMt} (h1 : FrQ M M1) (h2 : FrQ M1 M2) : FrQ M M2 := ⟨fun q a b => (h2.1 q a b).trans (h1.1 q a b), fun j a b => (h2.2 j a b).trans (h1.2 j a b)⟩
def CW (m m' : MMt) (c : Nat) (o : List (Int32 × Int32)) : Prop := (∀ k, k < c → m' 56 k = m 56 k) ∧ ∀ k, k < o.length → m' 56 (c + k) = encw (o.getD k (0, 0)).1 (o.getD k (0, 0)).2
theorem CW.rf (M : MMt) (c : Nat) : CW M M c [] := ⟨fun _ _ => rfl, fun k hk => absurd hk (by simp)⟩
theorem CW.tr {M M1 M2 : MMt} {c : Nat} {a b : List (Int32 × Int32)} (h1 : CW M M1 c a) (h2 : CW M1 M2 (c + a.length) b) : CW M M2 c (a ++ b) := by
  refine ⟨fun k hk => (h2.1 k (by omega)).trans (h1.1 k hk), fun k hk => ?_⟩
  rw [getD_app]
  rw [List.length_append] at hk
  by_cases e : k < a.length
  · rw [if_pos e, h2.1 _ (by omega)]; exact h1.2 k e
  · rw [if_neg e]
    have := h2.2 (k - a.length) (by omega)
    rwa [show c + a.length + (k - a.length) = c + k by omega] at this
/-- the class reads as the reference does -/
def SP (C W : WPt) (s : Nat → Int32) (u : Int32) (n op : Nat) : Prop :=
  ∀ (m : MMt) (at_ cnt : Nat), CS s n at_ cnt m → cnt ≤ at_ → at_ ≤ n → ∀ K : Int32 → MMt → Prop,
    (∀ (m' : MMt) (at1 : Nat) (o : List (Int32 × Int32)), at_ + o.length ≤ at1 → 1 ≤ o.length → at1 ≤ n → WV o → CS s n at1 (cnt + o.length) m' → FrQ m m' → CW m m' cnt o → OKM W s u op at_ at1 o → K 1 m') →
    (∀ (m' : MMt) (at1 : Nat), at_ ≤ at1 → at1 ≤ n → (m' 55 4).toInt = at1 → FrQ m m' → NOM W s u op at_ at1 → K 0 m') → C m K
theorem CS.fr {s : Nat → Int32} {n at_ cnt at1 cnt1 : Nat} {m m' : MMt} (h : CS s n at_ cnt m) (hf : FrQ m m') (h4 : (m' 55 4).toInt = at1) (h1 : (m' 55 1).toInt = cnt1) : CS s n at1 cnt1 m' :=
  ⟨by rw [hf.2 3 (by decide) (by decide)]; exact h.1, h4, h1, fun i hi => by rw [hf.1 13 (by decide) (by decide)]; exact h.2.2.2 i hi⟩
theorem keep9 {b : Nat} {w : Int32} {s : Nat → Int32} {n at_ cnt : Nat} {m : MMt} (h : CS s n at_ cnt m) (hc : cnt < 50) (Q : MMt → Prop)
    (hQ : ∀ m' : MMt, CS s n at_ (cnt + 1) m' → FrQ m m' → (∀ k, k < cnt → m' 56 k = m 56 k) → m' 56 cnt = w → Q m') : L_X4_keep b w m Q := by
  have c1 : ¬ (50 : Int32) ≤ m 55 1 := by rw [Int32.le_iff_toInt_le, h.2.2.1]; simp only [Int32.reduceToInt]; omega
  refine ⟨fun d => absurd d c1, fun _ => ⟨vp_of h.2.2.1 hc, ?_⟩⟩
  rw [tn_of h.2.2.1]
  rintro m2 hm2 m4 hm4
  have e1 : (m4 55 1).toInt = (cnt + 1 : Nat) := by
    rw [hm4, up2_eq, hm2, up2_ro _ _ _ _ _ (by decide)]
    exact ti_p1 h.2.2.1 (by omega)
  have fr : FrQ m m4 := ⟨fun q h1 h2 => by rw [hm4, up2_ro _ _ _ _ _ h1, hm2, up2_ro _ _ _ _ _ h2], fun j h1 h2 => by rw [hm4, uq, if_neg h1, hm2, up2_ro _ _ _ _ _ (by decide)]⟩
  refine hQ m4 (h.fr fr (by rw [hm4, uq, if_neg (by decide), hm2, up2_ro _ _ _ _ _ (by decide)]; exact h.2.1) e1) fr (fun k hk => ?_) ?_
  · rw [hm4, up2_ro _ _ _ _ _ (by decide), hm2, uq, if_neg (by omega)]
  · rw [hm4, up2_ro _ _ _ _ _ (by decide), hm2, up2_eq]
theorem lays10 {w v : Int32} {s : Nat → Int32} {u : Int32} {at_ op c : Nat} {M : MMt} (h : MSt s u at_ op c M) (hc : c < 50) (Q : MMt → Prop)
    (hQ : ∀ M' : MMt, MSt s u at_ op (c + 1) M' → FrP M M' → CD M M' c [(w, v)] → Q M') : L_X10_lays w v M Q := by
  have i1 : TI ((2 : Int32) * M 76 8) (2 * c) := TI.mul (rfl : TI 2 2) h.2.2.2.2 (by omega)
  refine ⟨i1.vp (by omega), ?_⟩
  rw [i1.tn]
  rintro m1 hm1
  have e8 : m1 76 8 = M 76 8 := by rw [hm1, up2_ro _ _ _ _ _ (by decide)]
  rw [e8]
  have i2 : TI ((2 : Int32) * M 76 8 + 1) (2 * c + 1) := TI.add i1 (rfl : TI 1 1) (by omega)
  refine ⟨i2.vp (by omega), ?_⟩
  rw [i2.tn]
  rintro m3 hm3 m5 hm5
  have e83 : m3 76 8 = M 76 8 := by rw [hm3, up2_ro _ _ _ _ _ (by decide), e8]
  rw [e83] at hm5
  have r76 : ∀ j, j ≠ 8 → m5 76 j = M 76 j := fun j hj => by rw [hm5, uq, if_neg hj, hm3, up2_ro _ _ _ _ _ (by decide), hm1, up2_ro _ _ _ _ _ (by decide)]
  have r80 : ∀ j, m5 80 j = if j = 2 * c + 1 then v else if j = 2 * c then w else M 80 j := fun j => by
    rw [hm5, up2_ro _ _ _ _ _ (by decide), hm3, uq, hm1, uq]
  refine hQ m5 ⟨by rw [hm5, up2_ro _ _ _ _ _ (by decide), hm3, up2_ro _ _ _ _ _ (by decide), hm1, up2_ro _ _ _ _ _ (by decide)]; exact h.1, by rw [r76 5 (by decide)]; exact h.2.1, by rw [r76 6 (by decide)]; exact h.2.2.1, by rw [r76 7 (by decide)]; exact h.2.2.2.1, ?_⟩ ⟨fun q h1 h2 => by rw [hm5, up2_ro _ _ _ _ _ h1, hm3, up2_ro _ _ _ _ _ h2, hm1, up2_ro _ _ _ _ _ h2], fun j _ _ h3 => r76 j h3⟩ ⟨fun k hk => ?_, fun k hk => ?_⟩
  · rw [hm5, up2_eq]; exact ti_p1 h.2.2.2.2 (by omega)
  · unfold cd
    rw [r80, r80, if_neg (by omega), if_neg (by omega), if_neg (by omega), if_neg (by omega)]
  · have : k = 0 := by simp at hk; omega
    subst this
    unfold cd
    rw [r80, r80, if_neg (by omega), if_pos (by omega), if_pos (by omega)]; rfl
/-- the byte that stands there; -1 behind the last -/
def hre (s : Nat → Int32) (n at_ : Nat) : Int32 := if at_ < n then s (50 + at_) else -1
theorem here10 {s : Nat → Int32} {u : Int32} {n at_ op c : Nat} {M : MMt} (h : MSt s u at_ op c M) (hn : (s 7).toInt = n) (hn50 : n ≤ 50) (Q : Int32 → MMt → Prop) (hQ : Q (hre s n at_) M) : L_X10_here M Q := by
  unfold hre at hQ
  have i1 : at_ < n → TI ((50 : Int32) + M 76 5) (50 + at_) := fun hl => TI.add (rfl : TI 50 50) h.2.1 (by omega)
  unfold L_X10_here
  rw [h.1]
  refine ⟨fun d => ?_, fun d => ?_⟩
  · rw [Int32.le_iff_toInt_le, hn, h.2.1] at d
    rwa [if_neg (by omega)] at hQ
  · rw [Int32.le_iff_toInt_le, hn, h.2.1] at d
    have hl : at_ < n := by omega
    refine ⟨(i1 hl).vp (by omega), ?_⟩
    rw [(i1 hl).tn]
    rwa [if_pos hl] at hQ
/-- the reference goes one byte on -/
theorem MSt.next {s : Nat → Int32} {u : Int32} {at_ op c : Nat} {M M' : MMt} (h : MSt s u at_ op c M) (ha : at_ < 60) (hm : M' = up2 M 76 5 (M 76 5 + 1)) : MSt s u (at_ + 1) op c M' ∧ FrP M M' ∧ ∀ k, cd M' k = cd M k := by
  subst hm
  refine ⟨⟨by rw [up2_ro _ _ _ _ _ (by decide)]; exact h.1, by rw [up2_eq]; exact ti_p1 h.2.1 (by omega), by rw [uq, if_neg (by decide)]; exact h.2.2.1, by rw [uq, if_neg (by decide)]; exact h.2.2.2.1, by rw [uq, if_neg (by decide)]; exact h.2.2.2.2⟩, ⟨fun q h1 _ => up2_ro _ _ _ _ _ h1, fun j h1 _ _ => by rw [uq, if_neg h1]⟩, fun k => by unfold cd; rw [up2_ro _ _ _ _ _ (by decide)]⟩
theorem MSt.opn {s : Nat → Int32} {u : Int32} {at_ op op' c : Nat} {M M' : MMt} {v : Int32} (h : MSt s u at_ op c M) (hv : v.toInt = op') (hm : M' = up2 M 76 6 v) : MSt s u at_ op' c M' ∧ FrP M M' ∧ ∀ k, cd M' k = cd M k := by
  subst hm
  refine ⟨⟨by rw [up2_ro _ _ _ _ _ (by decide)]; exact h.1, by rw [uq, if_neg (by decide)]; exact h.2.1, by rw [up2_eq]; exact hv, by rw [uq, if_neg (by decide)]; exact h.2.2.2.1, by rw [uq, if_neg (by decide)]; exact h.2.2.2.2⟩, ⟨fun q h1 _ => up2_ro _ _ _ _ _ h1, fun j _ h2 _ => by rw [uq, if_neg h2]⟩, fun k => by unfold cd; rw [up2_ro _ _ _ _ _ (by decide)]⟩
theorem CD.same {M M1 M2 : MMt} {c : Nat} {o : List (Int32 × Int32)} (h1 : ∀ k, cd M1 k = cd M k) (h2 : CD M1 M2 c o) : CD M M2 c o := ⟨fun k hk => (h2.1 k hk).trans (h1 k), h2.2⟩
theorem CD.then {M M1 M2 : MMt} {c : Nat} {o : List (Int32 × Int32)} (h1 : CD M M1 c o) (h2 : ∀ k, cd M2 k = cd M1 k) : CD M M2 c o := ⟨fun k hk => (h2 k).trans (h1.1 k hk), fun k hk => (h2 _).trans (h1.2 k hk)⟩
/-- the class goes one byte on -/
theorem CS.next {s : Nat → Int32} {n at_ cnt : Nat} {m m' : MMt} (h : CS s n at_ cnt m) (ha : at_ < 60) (hm : m' = up2 m 55 4 (m 55 4 + 1)) : CS s n (at_ + 1) cnt m' ∧ FrQ m m' ∧ m' 56 = m 56 := by
  subst hm
  have fr : FrQ m (up2 m 55 4 (m 55 4 + 1)) := ⟨fun q h1 _ => up2_ro _ _ _ _ _ h1, fun j _ h2 => by rw [uq, if_neg h2]⟩
  exact ⟨h.fr fr (by rw [up2_eq]; exact ti_p1 h.2.1 (by omega)) (by rw [uq, if_neg (by decide)]; exact h.2.2.1), fr, up2_ro _ _ _ _ _ (by decide)⟩
/-- what so many digits come to -/
def vlu (s : Nat → Int32) (at_ : Nat) : Nat → Int32
  | 0 => 0
  | k + 1 => vlu s at_ k * 10 + s (50 + (at_ + k)) - 48
def dgt (c : Int32) : Prop := 48 ≤ c.toInt ∧ c.toInt ≤ 57
theorem vlu_rg {s : Nat → Int32} {at_ : Nat} : ∀ {k : Nat}, k ≤ 4 → (∀ i, i < k → dgt (s (50 + (at_ + i)))) → 0 ≤ (vlu s at_ k).toInt ∧ (vlu s at_ k).toInt < 10 ^ k
  | 0, _, _ => by
    show 0 ≤ (0 : Int32).toInt ∧ (0 : Int32).toInt < 10 ^ 0
    decide
  | k + 1, hk, h => by
    obtain ⟨h1, h2⟩ := vlu_rg (k := k) (by omega) fun i hi => h i (by omega)
    have hd := h k (by omega)
    unfold dgt at hd
    have hp : (10 : Int) ^ k ≤ 10000 := by
      have : k = 0 ∨ k = 1 ∨ k = 2 ∨ k = 3 := by omega
      rcases this with rfl | rfl | rfl | rfl <;> decide
    have e0 : (vlu s at_ k * 10).toInt = (vlu s at_ k).toInt * 10 := ml_s (by simp only [Int32.reduceToInt]; omega)
    have e1 : (vlu s at_ k * 10 + s (50 + (at_ + k))).toInt = (vlu s at_ k).toInt * 10 + (s (50 + (at_ + k))).toInt := by rw [ad_s (by rw [e0]; omega), e0]
    have e2 : (vlu s at_ k * 10 + s (50 + (at_ + k)) - 48).toInt = (vlu s at_ k).toInt * 10 + (s (50 + (at_ + k))).toInt - 48 := by
      rw [sb_s (by rw [e1]; simp only [Int32.reduceToInt]; omega), e1]; simp only [Int32.reduceToInt]
    show 0 ≤ (vlu s at_ k * 10 + s (50 + (at_ + k)) - 48).toInt ∧ (vlu s at_ k * 10 + s (50 + (at_ + k)) - 48).toInt < 10 ^ (k + 1)
    rw [e2, Int.pow_succ]
    generalize (10 : Int) ^ k = p at h2 hp ⊢
    omega
theorem isDig10 {s : Nat → Int32} {u : Int32} {n at_ op c : Nat} {M : MMt} (h : MSt s u at_ op c M) (hn : (s 7).toInt = n) (hn50 : n ≤ 50) (Q : Int32 → MMt → Prop) (h1 : dgt (hre s n at_) → Q 1 M) (h0 : ¬ dgt (hre s n at_) → Q 0 M) : L_X10_isDigit M Q := by
  refine here10 h hn hn50 _ ?_
  rw [isIn_sp]
  simp only [Int64.reduceToInt]
  unfold dgt at h1 h0
  split
  · rename_i c; exact h1 c
  · rename_i c; exact h0 c
theorem num10 {s : Nat → Int32} {u : Int32} {n at_ op K : Nat} (hn : (s 7).toInt = n) (hn50 : n ≤ 50) (hK : K ≤ 4) (hK1 : 1 ≤ K) (hKn : at_ + K ≤ n) (hd : ∀ i, i < K → dgt (s (50 + (at_ + i)))) (hend : K = 4 ∨ ¬ dgt (hre s n (at_ + K))) : OKM L_X10_readsNumber s u op at_ (at_ + K) [(0, vlu s at_ K)] := by
  intro M c hM hc Q hQ
  unfold L_X10_readsNumber B_X10_readsNumber_4
  have fin : ∀ z : MMt, MSt s u (at_ + K) op c z → FrP M z → (∀ k, cd z k = cd M k) → c < 50 → L_X10_lays 0 (vlu s at_ K) z (fun m2 => Q 1 m2) := by
    intro z q1 q2 q3 hc50
    exact lays10 q1 hc50 _ fun M' r1 r2 r3 => hQ M' r1 (q2.tr r2) (CD.same q3 r3)
  refine LOOP_up K (fun k z => z.2.1 = Int32.ofNat k ∧ z.1 = vlu s at_ k ∧ MSt s u (at_ + k) op c z.2.2 ∧ FrP M z.2.2 ∧ ∀ q, cd z.2.2 q = cd M q) ⟨rfl, rfl, hM, FrP.rf M, fun _ => rfl⟩ ?_ ?_
  · rintro k ⟨x1, x2, z⟩ X hk ⟨e1, e2, e3, e4, e5⟩ hX
    dsimp only at e1 e2 e3 e4 e5 hX ⊢
    subst e1; subst e2
    have hk2 : TI (Int32.ofNat k) k := on_ti (by omega)
    have hh : hre s n (at_ + k) = s (50 + (at_ + k)) := if_pos (by omega)
    refine ⟨fun d => absurd d (nle_of (n := 4) rfl hk2 (by omega)), fun _ => isDig10 e3 hn hn50 _ (fun _ => ⟨fun d => absurd d (by decide), fun _ => ?_⟩) (fun d => absurd (by rw [hh]; exact hd k hk) d)⟩
    refine here10 e3 hn hn50 _ ?_
    rw [hh]
    rintro v9 rfl m10 hm10 v11 rfl
    obtain ⟨r1, r2, r3⟩ := e3.next (by omega) hm10
    refine hX _ ⟨on_1 k, ?_, r1, e4.tr r2, fun q => (r3 q).trans (e5 q)⟩
    show 10 * vlu s at_ k + s (50 + (at_ + k)) - 48 = vlu s at_ k * 10 + s (50 + (at_ + k)) - 48
    rw [Int32.mul_comm]
  · rintro ⟨x1, x2, z⟩ X ⟨e1, e2, e3, e4, e5⟩
    dsimp only at e1 e2 e3 e4 e5 ⊢
    subst e1; subst e2
    have c5 : c < 50 := by omega
    have F : L_X10_lays 0 (vlu s at_ K) z (fun m2 => Q 1 m2) := fin z e3 e4 e5 c5
    refine ⟨fun _ => F, fun d => isDig10 e3 hn hn50 _ (fun q => ?_) (fun _ => ⟨fun _ => F, fun q => absurd rfl q⟩)⟩
    rcases hend with w | w
    · exact absurd (le_of (n := 4) (k := K) rfl (on_ti (by omega)) (by omega)) d
    · exact absurd q w
/-- a NUMBER -/
theorem num9 {b : Nat} {s : Nat → Int32} {u : Int32} {n op : Nat} (hn : (s 7).toInt = n) (hn50 : n ≤ 50) {m : MMt} {at_ cnt : Nat} (h : CS s n at_ cnt m) (hc : cnt ≤ at_) (hl : at_ < n) (hd0 : dgt (s (50 + at_))) (K : Int32 → MMt → Prop)
    (hQ : ∀ (m' : MMt) (at1 : Nat) (o : List (Int32 × Int32)), at_ + o.length ≤ at1 → 1 ≤ o.length → at1 ≤ n → WV o → CS s n at1 (cnt + o.length) m' → FrQ m m' → CW m m' cnt o → OKM L_X10_readsNumber s u op at_ at1 o → K 1 m') : L_X4_readNumber b m K := by
  unfold L_X4_readNumber
  rw [min_sp]
  have a4 : TI (m 55 4 + 4) (at_ + 4) := TI.add h.2.1 (rfl : TI 4 4) (by omega)
  have hmn : (if m 55 4 + 4 < m 55 3 then m 55 4 + 4 else m 55 3).toInt = (min n (at_ + 4) : Nat) := min_ti h.1 a4
  generalize (if m 55 4 + 4 < m 55 3 then m 55 4 + 4 else m 55 3) = mn at hmn ⊢
  have fin : ∀ (k : Nat) (z : MMt), 1 ≤ k → k ≤ 4 → at_ + k ≤ n → (∀ i, i < k → dgt (s (50 + (at_ + i)))) → (k = 4 ∨ ¬ dgt (hre s n (at_ + k))) → CS s n (at_ + k) cnt z → FrQ m z → z 56 = m 56 → L_X4_keep b (vlu s at_ k) z (fun m2 => K 1 m2) := by
    intro k z k1 k4 kn hd hend q1 q2 q3
    refine keep9 q1 (by omega) _ fun m' r1 r2 r3 r4 => ?_
    have hv := vlu_rg k4 hd
    have hp : (10 : Int) ^ k ≤ 10000 := by
      have : k = 1 ∨ k = 2 ∨ k = 3 ∨ k = 4 := by omega
      rcases this with rfl | rfl | rfl | rfl <;> decide
    refine hQ m' (at_ + k) [(0, vlu s at_ k)] (by simp; omega) (by simp) kn (WV_0 ⟨hv.1, by omega⟩) r1 (q2.tr r2) ⟨fun j hj => by rw [r3 j hj, q3], fun j hj => ?_⟩ (num10 hn hn50 k4 k1 kn hd hend)
    have : j = 0 := by simp at hj; omega
    subst this
    rw [show cnt + 0 = cnt from rfl, r4]; rfl
  unfold B_X4_readNumber_16
  refine LOOP_dn (fun d z => ∃ k, d = 4 - k ∧ k ≤ 4 ∧ z.1 = vlu s at_ k ∧ at_ + k ≤ n ∧ (∀ i, i < k → dgt (s (50 + (at_ + i)))) ∧ CS s n (at_ + k) cnt z.2 ∧ FrQ m z.2 ∧ z.2 56 = m 56) (n0 := 4) ⟨0, rfl, by omega, rfl, by omega, fun i hi => absurd hi (by omega), h, FrQ.rf m, rfl⟩ ?_
  rintro d ⟨x1, z⟩ X ⟨k, e0, e1, e2, e3, e4, e5, e6, e7⟩ hX
  dsimp only at e2 e5 e6 e7 hX ⊢
  subst e2
  refine ⟨fun c => ?_, fun c => ?_⟩
  · rw [Int32.le_iff_toInt_le, hmn, e5.2.1] at c
    have ck : k = 4 ∨ at_ + k = n := by omega
    have k1 : 1 ≤ k := by omega
    refine fin k z k1 e1 e3 e4 ?_ e5 e6 e7
    rcases ck with w | w
    · exact Or.inl w
    · right
      unfold hre
      rw [if_neg (by omega)]
      unfold dgt
      decide
  · rw [Int32.le_iff_toInt_le, hmn, e5.2.1] at c
    have ck : k < 4 := by omega
    have cn : at_ + k < n := by omega
    rw [tn_of e5.2.1]
    refine ⟨vp_of e5.2.1 (by omega), ?_⟩
    have hb := e5.2.2.2 (at_ + k) cn
    unfold L_X4_isDigit
    rw [within_sp]
    simp only [Int32.reduceToInt]
    have hdd := hb.dig
    by_cases c9 : dgt (s (50 + (at_ + k)))
    · rw [if_pos (hdd.mpr c9)]
      refine ⟨fun q => absurd q (by decide), fun _ => ⟨vp_of e5.2.1 (by omega), ?_⟩⟩
      rw [tn_of e5.2.1, hb.eqd c9]
      rintro v9 rfl m10 hm10
      obtain ⟨r1, r2, r3⟩ := e5.next (by omega) hm10
      exact hX (4 - (k + 1)) _ (by omega) ⟨k + 1, rfl, by omega, rfl, by omega, dec3 k e4 c9, r1, e6.tr r2, r3.trans e7⟩
    · rw [if_neg (fun q => c9 (hdd.mp q))]
      have k1 : 1 ≤ k := by
        rcases Nat.eq_zero_or_pos k with w | w
        · subst w; exact absurd hd0 c9
        · exact w
      exact ⟨fun _ => fin k z k1 e1 e3 e4 (Or.inr (by unfold hre; rw [if_pos cn]; exact c9)) e5 e6 e7, fun q => absurd trivial q⟩
