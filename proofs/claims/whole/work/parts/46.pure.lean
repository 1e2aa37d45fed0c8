theorem isSheet9 (a : Int32) (mem : MMt) (Q : Int32 → MMt → Prop) : L_X9_isSheet a mem Q ↔ if 0 ≤ a.toInt ∧ a.toInt ≤ 3 then Q 1 mem else Q 0 mem := by
  unfold L_X9_isSheet; rw [within_sp]; simp only [Int32.reduceToInt]
theorem isSheet10 (a : Int32) (mem : MMt) (Q : Int32 → MMt → Prop) : L_X10_isSheet a mem Q ↔ if 0 ≤ a.toInt ∧ a.toInt ≤ 3 then Q 1 mem else Q 0 mem := by
  unfold L_X10_isSheet; rw [isIn_sp]; simp only [Int64.reduceToInt]
/-- a change of SHEETS alone -/
theorem Inv_s {n : Nat} {mem m' : MMt} (h : Inv n mem) (hr : ∀ q, (q < 68 ∨ 75 < q) → q ≠ 86 → q ≠ 87 → q ≠ 88 → q ≠ 90 → m' q = mem q) (hS : ISh m') : Inv n m' := by
  obtain ⟨c1, c2, c3, c4, c5, c6, c7⟩ := h
  have e77 := hr 77 (by omega) (by omega) (by omega) (by omega) (by omega)
  have e76 := hr 76 (by omega) (by omega) (by omega) (by omega) (by omega)
  exact ⟨IC_fr c1 (fun a ha => hr a (by omega) (by omega) (by omega) (by omega) (by omega)) (fun i _ => by rw [e77]), IT_fr c2 (fun a h1 h2 h3 => hr a (by omega) (by omega) (by omega) (by omega) (by omega)) (fun i _ _ _ _ => by rw [e77]), IM_fr c3 c2.2.2.2.2 (by rw [hr 15 (by omega) (by omega) (by omega) (by omega) (by omega)]) (by rw [hr 18 (by omega) (by omega) (by omega) (by omega) (by omega)]) (hr 21 (by omega) (by omega) (by omega) (by omega) (by omega)) (fun i _ _ => by rw [e77]), IK_fr c4 (by rw [hr 0 (by omega) (by omega) (by omega) (by omega) (by omega)]) (by rw [e76]) (by rw [e76]) (fun a ha => hr a (by omega) (by omega) (by omega) (by omega) (by omega)), IE_fr c5 (hr _ (by omega) (by omega) (by omega) (by omega) (by omega)) (hr _ (by omega) (by omega) (by omega) (by omega) (by omega)), IV_fr c6 (hr _ (by omega) (by omega) (by omega) (by omega) (by omega)) (hr _ (by omega) (by omega) (by omega) (by omega) (by omega)) (hr _ (by omega) (by omega) (by omega) (by omega) (by omega)) (by rw [e76]), hS⟩
theorem Inv.sh {n : Nat} {mem : MMt} (h : Inv n mem) {k : Nat} (hk : k < 4) : IS1 mem k := h.2.2.2.2.2.2 k hk
theorem sheet90 {x1 : Int32} {k : Nat} (hx : x1.toInt = k) (hk : k < 4) {mem : MMt} (Q : Int32 → MMt → Prop)
    (h : ∀ m' : MMt, (∀ q, q ≠ 88 → m' q = mem q) → (∀ i, m' 88 i = if 40 * k ≤ i ∧ i < 40 * k + 40 then 0 else mem 88 i) → Q 1 m') : B_X10_sheet_90 x1 0 mem Q := by
  unfold B_X10_sheet_90
  refine LOOP_up 40 (fun i z => z.1 = Int32.ofNat i ∧ (∀ q, q ≠ 88 → z.2 q = mem q) ∧ ∀ j, z.2 88 j = if 40 * k ≤ j ∧ j < 40 * k + i then 0 else mem 88 j) ⟨rfl, fun _ _ => rfl, fun j => by rw [if_neg (by omega)]⟩ ?_ ?_
  · rintro i ⟨x, m⟩ X hi ⟨e1, e2, e3⟩ hX
    dsimp only at e1 e2 e3 hX ⊢
    subst e1
    have hi2 : TI (Int32.ofNat i) i := on_ti (by omega)
    have eI : TI (((40 : Int32) * x1) + Int32.ofNat i) (40 * k + i) := by
      unfold TI
      rw [ad_ti, ml_ti, hx, show (Int32.ofNat i).toInt = i from hi2]; simp only [Int32.reduceToInt]; omega
    rw [eI.tn]
    refine ⟨fun d => absurd d (nle_of (n := 40) rfl hi2 hi), fun _ => ⟨eI.vp (by omega), ?_⟩⟩
    rintro m2 hm2 v4 rfl
    refine hX _ ⟨on_1 i, fun q hq => ?_, fun j => ?_⟩
    · show m2 q = _
      rw [hm2, up2_ro _ _ _ _ _ hq, e2 q hq]
    · show m2 88 j = _
      rw [hm2, uq, e3]
      by_cases e : j = 40 * k + i
      · rw [if_pos e, if_pos (by omega)]
      · rw [if_neg e]
        by_cases e4 : 40 * k ≤ j ∧ j < 40 * k + i
        · rw [if_pos e4, if_pos (by omega)]
        · rw [if_neg e4, if_neg (by omega)]
  · rintro ⟨x, m⟩ X ⟨e1, e2, e3⟩
    dsimp only at e1 e2 e3 ⊢
    subst e1
    exact ⟨fun _ => h m e2 e3, fun d => absurd (le_of (n := 40) rfl (on_ti (by omega) : (Int32.ofNat 40).toInt = (40 : Nat)) (Nat.le_refl _)) d⟩
theorem sheet_ok {n : Nat} {a b c : Int32} {mem : MMt} (h : Inv n mem) {k : Nat} (ha : a.toInt = k) (hk : k < 4) (hb : IB b) (hc : 0 ≤ c.toInt ∧ c.toInt ≤ 40)
    {R : MMt → Prop} (hR : ∀ m3 : MMt, (∀ m4 m5 : MMt, m4 = up2 m3 86 k b → m5 = up2 m4 87 k c → B_X10_sheet_90 a 0 m5 (fun r' m' => (1 : Int32) = r' ∧ Inv n m')) → R m3) : L_X6_clear (68 + 2 * k) b c mem R := by
  rintro m1 hm1 m2 hm2
  refine fillI_spec (by decide) _ (hR _ ?_)
  intro m4 m5 hm4 hm5
  refine sheet90 ha hk _ fun m' g1 g2 => ⟨rfl, ?_⟩
  have F : ∀ q, q ≠ 68 + 2 * k → q ≠ 68 + 2 * k + 1 → q ≠ 86 → q ≠ 87 → q ≠ 88 → m' q = mem q := by
    intro q h1 h2 h3 h4 h5
    rw [g1 q h5, hm5, up2_ro _ _ _ _ _ h4, hm4, up2_ro _ _ _ _ _ h3]
    funext j
    unfold fil
    rw [if_neg (by omega), hm2, up2_ro _ _ _ _ _ h1, hm1, up2_ro _ _ _ _ _ h1]
  refine Inv_s h (fun q q1 q2 q3 q4 q5 => F q (by omega) (by omega) q2 q3 q4) ?_
  intro k' hk'
  have e86 : ∀ j, m' 86 j = if j = k then b else mem 86 j := fun j => by
    rw [g1 86 (by decide), hm5, up2_ro _ _ _ _ _ (by decide), hm4, uq]
    by_cases e : j = k
    · rw [if_pos e, if_pos e]
    · rw [if_neg e, if_neg e]; unfold fil; rw [if_neg (by omega), hm2, up2_ro _ _ _ _ _ (by omega), hm1, up2_ro _ _ _ _ _ (by omega)]
  have e87 : ∀ j, m' 87 j = if j = k then c else mem 87 j := fun j => by
    rw [g1 87 (by decide), hm5, uq]
    by_cases e : j = k
    · rw [if_pos e, if_pos e]
    · rw [if_neg e, if_neg e, hm4, up2_ro _ _ _ _ _ (by decide)]; unfold fil; rw [if_neg (by omega), hm2, up2_ro _ _ _ _ _ (by omega), hm1, up2_ro _ _ _ _ _ (by omega)]
  have e88 : ∀ j, m' 88 j = if 40 * k ≤ j ∧ j < 40 * k + 40 then 0 else mem 88 j := fun j => by
    rw [g2 j]
    split
    · rfl
    · rw [hm5, up2_ro _ _ _ _ _ (by decide), hm4, up2_ro _ _ _ _ _ (by decide)]; unfold fil; rw [if_neg (by omega), hm2, up2_ro _ _ _ _ _ (by omega), hm1, up2_ro _ _ _ _ _ (by omega)]
  by_cases e : k' = k
  · subst e
    have r0 : ∀ j, m' (68 + 2 * k') j = if j = 1 then c else if j = 0 then b else mem (68 + 2 * k') j := fun j => by
      rw [g1 _ (by omega), hm5, up2_ro _ _ _ _ _ (by omega), hm4, up2_ro _ _ _ _ _ (by omega)]
      unfold fil
      rw [if_neg (by omega), hm2, uq, hm1, uq]
    refine ⟨(r0 0).trans (((e86 k').trans (if_pos rfl)).symm), by rw [e86, if_pos rfl]; exact hb, (r0 1).trans (((e87 k').trans (if_pos rfl)).symm), by rw [e87, if_pos rfl]; exact hc, fun i hi => ?_⟩
    rw [e88, if_pos (by omega), g1 _ (by omega), hm5, up2_ro _ _ _ _ _ (by omega), hm4, up2_ro _ _ _ _ _ (by omega)]
    unfold fil
    rw [if_pos ⟨rfl, hi⟩]
  · refine IS1_fr (h.sh hk') (F _ (by omega) (by omega) (by omega) (by omega) (by omega)) (F _ (by omega) (by omega) (by omega) (by omega) (by omega)) (by rw [e86, if_neg e]) (by rw [e87, if_neg e]) (fun i hi => by rw [e88, if_neg (by omega)])
theorem k_sheet {n : Nat} {a b c : Int32} {mem : MMt} (h : Inv n mem) : L_X9_sheet a b c mem (fun r m => L_X10_sheet a b c m (fun r' m' => r = r' ∧ Inv n m')) := by
  by_cases c1 : 0 ≤ a.toInt ∧ a.toInt ≤ 3
  · obtain ⟨k, hk⟩ : ∃ k : Nat, a.toInt = k := ⟨a.toInt.toNat, by omega⟩
    have hk4 : k < 4 := by omega
    by_cases c2 : IB b
    · have go9 : ∀ {Q : Int32 → MMt → Prop}, B_X9_sheet_35 a b c mem Q → L_X9_sheet a b c mem Q := by
        intro Q hq
        simp only [L_X9_sheet, isSheet9, if_pos c1, e10, not_false_eq_true, not_true_eq_false, false_implies, forall_const, true_and, and_true, eq_self, imp_self, true_implies]
        rcases c2 with e | e | e | e
        · exact ⟨fun _ => hq, fun d => absurd e d⟩
        · exact ⟨fun _ => hq, fun _ => ⟨fun _ => hq, fun d => absurd e d⟩⟩
        · exact ⟨fun _ => hq, fun _ => ⟨fun _ => hq, fun _ => ⟨fun _ => hq, fun d => absurd e d⟩⟩⟩
        · exact ⟨fun _ => hq, fun _ => ⟨fun _ => hq, fun _ => ⟨fun _ => hq, fun _ => ⟨fun _ => hq, fun d => absurd e d⟩⟩⟩⟩
      have go10 : ∀ {m : MMt} {Q : Int32 → MMt → Prop}, B_X10_sheet_35 a b c m Q → L_X10_sheet a b c m Q := by
        intro m Q hq
        simp only [L_X10_sheet, isSheet10, if_pos c1, e10, not_false_eq_true, not_true_eq_false, false_implies, forall_const, true_and, and_true, eq_self, imp_self, true_implies]
        rcases c2 with e | e | e | e
        · exact ⟨fun _ => hq, fun d => absurd e d⟩
        · exact ⟨fun _ => hq, fun _ => ⟨fun _ => hq, fun d => absurd e d⟩⟩
        · exact ⟨fun _ => hq, fun _ => ⟨fun _ => hq, fun _ => ⟨fun _ => hq, fun d => absurd e d⟩⟩⟩
        · exact ⟨fun _ => hq, fun _ => ⟨fun _ => hq, fun _ => ⟨fun _ => hq, fun _ => ⟨fun _ => hq, fun d => absurd e d⟩⟩⟩⟩
      refine go9 ?_
      have fin : ∀ (m3 : MMt) (c' : Int32), (c' = if b = 0 then 0 else c) → (b = 0 ∨ (0 ≤ c.toInt ∧ c.toInt ≤ 40)) → (∀ m4 m5 : MMt, m4 = up2 m3 86 k b → m5 = up2 m4 87 k c' → B_X10_sheet_90 a 0 m5 (fun r' m' => (1 : Int32) = r' ∧ Inv n m')) → L_X10_sheet a b c m3 (fun r' m' => (1 : Int32) = r' ∧ Inv n m') := by
        intro m3 c' hc' hcc K
        refine go10 ?_
        have F65 : B_X10_sheet_65 a b c m3 (fun r' m' => (1 : Int32) = r' ∧ Inv n m') := by
          refine ⟨vp_of hk hk4, fun m4 hm4 => ?_⟩
          rw [tn_of hk] at hm4
          refine ⟨fun d => ⟨vp_of hk hk4, fun m5 hm5 => ?_⟩, fun d => ⟨vp_of hk hk4, fun m5 hm5 => ?_⟩⟩
          · rw [tn_of hk] at hm5
            exact K m4 m5 hm4 (by rw [hc', if_neg d]; exact hm5)
          · rw [tn_of hk] at hm5
            exact K m4 m5 hm4 (by rw [hc', if_pos d]; exact hm5)
        refine ⟨fun _ => F65, fun d => ?_⟩
        rw [isIn_sp]
        simp only [Int64.reduceToInt]
        rw [if_pos (hcc.resolve_left d)]
        exact ⟨fun _ => F65, fun d => absurd d (by decide)⟩
      by_cases b0 : b = 0
      · have F65 : B_X9_sheet_65 a b c mem (fun r m => L_X10_sheet a b c m (fun r' m' => r = r' ∧ Inv n m')) := by
          refine ⟨vp_of hk hk4, fun d => absurd b0 d, fun _ => ?_⟩
          rw [tn_of hk]
          exact sheet_ok (c := 0) h hk hk4 c2 (by decide) fun m3 K => fin m3 0 (by rw [if_pos b0]) (Or.inl b0) K
        exact ⟨fun _ => ⟨fun _ => F65, fun d => absurd b0 d⟩, fun d => absurd b0 d⟩
      · by_cases c3 : 0 ≤ c.toInt
        · have c3a : (0 : Int32) ≤ c := by rw [Int32.le_iff_toInt_le]; simp only [Int32.reduceToInt]; omega
          by_cases c4 : c.toInt ≤ 40
          · have c4a : c ≤ (40 : Int32) := by rw [Int32.le_iff_toInt_le]; simp only [Int32.reduceToInt]; omega
            have F65 : B_X9_sheet_65 a b c mem (fun r m => L_X10_sheet a b c m (fun r' m' => r = r' ∧ Inv n m')) := by
              refine ⟨vp_of hk hk4, fun _ => ?_, fun d => absurd d b0⟩
              rw [tn_of hk]
              exact sheet_ok (c := c) h hk hk4 c2 ⟨c3, c4⟩ fun m3 K => fin m3 c (by rw [if_neg b0]) (Or.inr ⟨c3, c4⟩) K
            exact ⟨fun d => absurd d b0, fun _ => ⟨fun _ => ⟨fun d => absurd d b0, fun _ => ⟨fun _ => F65, fun d => absurd c4a d⟩⟩, fun d => absurd c3a d⟩⟩
          · have c4a : ¬ c ≤ (40 : Int32) := by rw [Int32.le_iff_toInt_le]; simp only [Int32.reduceToInt]; omega
            refine ⟨fun d => absurd d b0, fun _ => ⟨fun _ => ⟨fun d => absurd d b0, fun _ => ⟨fun d => absurd d c4a, fun _ => ?_⟩⟩, fun d => absurd c3a d⟩⟩
            refine err_end h (by decide) (R := fun Q m => L_X10_sheet a b c m Q) fun m Q hm he => ?_
            refine go10 ⟨fun d => absurd d b0, fun _ => ?_⟩
            rw [isIn_sp]
            simp only [Int64.reduceToInt]
            rw [if_neg (fun q => c4 q.2)]
            exact ⟨fun d => absurd trivial d, fun _ => ⟨fun _ => he, fun d => absurd c3a d⟩⟩
        · have c3a : ¬ (0 : Int32) ≤ c := by rw [Int32.le_iff_toInt_le]; simp only [Int32.reduceToInt]; omega
          refine ⟨fun d => absurd d b0, fun _ => ⟨fun d => absurd d c3a, fun _ => ?_⟩⟩
          refine err_end h (by decide) (R := fun Q m => L_X10_sheet a b c m Q) fun m Q hm he => ?_
          refine go10 ⟨fun d => absurd d b0, fun _ => ?_⟩
          rw [isIn_sp]
          simp only [Int64.reduceToInt]
          rw [if_neg (fun q => c3 q.1)]
          exact ⟨fun d => absurd trivial d, fun _ => ⟨fun d => absurd d c3a, fun _ => he⟩⟩
    · have n0 : ¬ b = 0 := fun e => c2 (Or.inl e)
      have n8 : ¬ b = 8 := fun e => c2 (Or.inr (Or.inl e))
      have n16 : ¬ b = 16 := fun e => c2 (Or.inr (Or.inr (Or.inl e)))
      have n32 : ¬ b = 32 := fun e => c2 (Or.inr (Or.inr (Or.inr e)))
      simp only [L_X9_sheet, isSheet9, if_pos c1, e10, not_false_eq_true, not_true_eq_false, false_implies, forall_const, true_and, and_true, eq_self, imp_self, true_implies, n0, n8, n16, n32]
      refine err_end h (by decide) (R := fun Q m => L_X10_sheet a b c m Q) fun m Q hm he => ?_
      simp only [L_X10_sheet, isSheet10, if_pos c1, e10, not_false_eq_true, not_true_eq_false, false_implies, forall_const, true_and, and_true, eq_self, imp_self, true_implies, n0, n8, n16, n32]
      exact he
  · simp only [L_X9_sheet, isSheet9, if_neg c1, e10, not_false_eq_true, not_true_eq_false, false_implies, forall_const, true_and, and_true, eq_self, imp_self, true_implies]
    refine err_end h (by decide) (R := fun Q m => L_X10_sheet a b c m Q) fun m Q hm he => ?_
    simp only [L_X10_sheet, isSheet10, if_neg c1, e10, not_false_eq_true, not_true_eq_false, false_implies, forall_const, true_and, and_true, eq_self, imp_self, true_implies]
    exact he
/-- what a number of so many bits becomes -/
theorem miss9 (q0 : Nat) (mem : MMt) (Q : Int32 → MMt → Prop) : L_X6_isMissing q0 mem Q ↔ if mem q0 0 = 0 then Q 1 mem else Q 0 mem := by
  unfold L_X6_isMissing
  by_cases c : mem q0 0 = 0 <;> simp [c]
def lwb (bits v : Int32) : Int32 := if bits = 32 then v else if bits = 8 then v.toInt8.toInt32 else v.toInt16.toInt32
theorem lwb9 (q0 : Nat) (v : Int32) (mem : MMt) (Q : Int32 → MMt → Prop) (h : Q (lwb (mem q0 0) v) mem) : L_X6_lowestBits q0 v mem Q := by
  unfold lwb at h
  refine ⟨fun c => ⟨fun d => ?_, fun d => ?_⟩, fun c => ?_⟩
  · rwa [if_neg c, if_neg d] at h
  · rwa [if_neg c, if_pos d] at h
  · rwa [if_pos c] at h
/-- one number of one SHEET becomes v on both sides -/
theorem ISh_put {n : Nat} {mem m' : MMt} (h : Inv n mem) {k i : Nat} (hk : k < 4) (hi : i < 40) {v : Int32} (hr : ∀ q, q ≠ 68 + 2 * k + 1 → q ≠ 88 → m' q = mem q) (h1 : m' (68 + 2 * k + 1) = upd (mem (68 + 2 * k + 1)) i v) (h2 : m' 88 = upd (mem 88) (40 * k + i) v) : Inv n m' := by
  refine Inv_s h (fun q q1 q2 q3 q4 q5 => hr q (by omega) q4) ?_
  intro k' hk'
  obtain ⟨g1, g2, g3, g4, g5⟩ := h.sh hk'
  have r1 := hr (68 + 2 * k') (by omega) (by omega)
  have r86 := hr 86 (by omega) (by omega)
  have r87 := hr 87 (by omega) (by omega)
  refine ⟨by rw [r1, r86]; exact g1, by rw [r86]; exact g2, by rw [r1, r87]; exact g3, by rw [r87]; exact g4, fun j hj => ?_⟩
  rw [h2, upd_at]
  by_cases e : k' = k
  · subst e
    rw [h1, upd_at, g5 j hj]
    by_cases e2 : j = i
    · rw [if_pos e2, if_pos (by omega)]
    · rw [if_neg e2, if_neg (by omega)]
  · rw [hr _ (by omega) (by omega), if_neg (by omega)]; exact g5 j hj
theorem k_put {n : Nat} {a b c : Int32} {mem : MMt} (h : Inv n mem) : L_X9_put a b c mem (fun r m => L_X10_put a b c m (fun r' m' => r = r' ∧ Inv n m')) := by
  by_cases c1 : 0 ≤ a.toInt ∧ a.toInt ≤ 3
  · obtain ⟨k, hk⟩ : ∃ k : Nat, a.toInt = k := ⟨a.toInt.toNat, by omega⟩
    have hk4 : k < 4 := by omega
    obtain ⟨g1, g2, g3, g4, g5⟩ := h.sh hk4
    have va := vp_of hk hk4
    by_cases c2 : mem 86 k = 0
    · simp only [L_X9_put, isSheet9, if_pos c1, e10, not_false_eq_true, not_true_eq_false, false_implies, forall_const, true_and, and_true, eq_self, imp_self, true_implies, tn_of hk, miss9, g1, if_pos c2, va]
      refine err_end h (by decide) (R := fun Q m => L_X10_put a b c m Q) fun m Q hm he => ?_
      simp only [L_X10_put, L_X10_noSheet, isSheet10, if_pos c1, e10, not_false_eq_true, not_true_eq_false, false_implies, forall_const, true_and, and_true, eq_self, imp_self, true_implies, tn_of hk, va, hm 86 (by decide), c2]
      rw [err10 (by decide)] at he ⊢
      exact ⟨fun d => absurd d (by decide), fun _ => he⟩
    · have e : ((mem 87 k) - (1 : Int32)).toInt = (mem 87 k).toInt - 1 := by rw [sb_ti]; simp only [Int32.reduceToInt]; omega
      by_cases c3 : 0 ≤ b.toInt ∧ b.toInt ≤ (mem 87 k).toInt - 1
      · obtain ⟨i, hi⟩ : ∃ i : Nat, b.toInt = i := ⟨b.toInt.toNat, by omega⟩
        have hi40 : i < 40 := by omega
        have eI : TI (((40 : Int32) * a) + b) (40 * k + i) := by
          unfold TI
          rw [ad_ti, ml_ti, hk, hi]; simp only [Int32.reduceToInt]; omega
        simp only [L_X9_put, isSheet9, if_pos c1, e10, not_false_eq_true, not_true_eq_false, false_implies, forall_const, true_and, and_true, eq_self, imp_self, true_implies, tn_of hk, miss9, g1, g3, if_neg c2, va, within_sp, Int32.reduceToInt, e, if_pos c3]
        refine lwb9 _ _ _ _ ⟨vp_of hi hi40, ?_⟩
        rw [g1, tn_of hi]
        rintro m13 hm13
        have f : ∀ q, q ≠ 68 + 2 * k + 1 → m13 q = mem q := fun q hq => by rw [hm13, up2_ro _ _ _ _ _ hq]
        have f86 := f 86 (by omega)
        have f87 := f 87 (by omega)
        simp only [L_X10_put, L_X10_noSheet, isSheet10, if_pos c1, e10, not_false_eq_true, not_true_eq_false, false_implies, forall_const, true_and, and_true, eq_self, imp_self, true_implies, tn_of hk, va, f86, f87, c2, isIn_sp, Int64.reduceToInt, Int32.toInt_toInt64, e, if_pos c3, eI.vp (show 40 * k + i < 160 by omega), eI.tn]
        have fin : ∀ m' : MMt, m' = up2 m13 88 (40 * k + i) (lwb (mem 86 k) c) → (1 : Int32) = 1 ∧ Inv n m' := by
          rintro m' rfl
          exact ⟨rfl, ISh_put h hk4 hi40 (v := lwb (mem 86 k) c) (fun q q1 q2 => by rw [up2_ro _ _ _ _ _ q2, f q q1]) (by rw [up2_ro _ _ _ _ _ (by omega), hm13, up2_row]) (by rw [up2_row, f 88 (by omega)])⟩
        refine ⟨fun d => ⟨fun e2 m' hm' => (fin m' ?_).2, fun e2 m' hm' => (fin m' ?_).2⟩, fun d m' hm' => (fin m' ?_).2⟩
        · rw [hm']; unfold lwb
          rcases g2 with q | q | q | q
          · exact absurd q c2
          · exact absurd q d
          · exact absurd q e2
          · rw [if_pos q]
        · rw [hm']; unfold lwb; rw [e2]; rfl
        · rw [hm']; unfold lwb; rw [d]; rfl
      · simp only [L_X9_put, isSheet9, if_pos c1, e10, not_false_eq_true, not_true_eq_false, false_implies, forall_const, true_and, and_true, eq_self, imp_self, true_implies, tn_of hk, miss9, g1, g3, if_neg c2, va, within_sp, Int32.reduceToInt, e, if_neg c3]
        refine err_end h (by decide) (R := fun Q m => L_X10_put a b c m Q) fun m Q hm he => ?_
        simp only [L_X10_put, L_X10_noSheet, isSheet10, if_pos c1, e10, not_false_eq_true, not_true_eq_false, false_implies, forall_const, true_and, and_true, eq_self, imp_self, true_implies, tn_of hk, va, hm 86 (by decide), hm 87 (by decide), c2, isIn_sp, Int64.reduceToInt, Int32.toInt_toInt64, e, if_neg c3]
        exact he
  · simp only [L_X9_put, isSheet9, if_neg c1, e10, not_false_eq_true, not_true_eq_false, false_implies, forall_const, true_and, and_true, eq_self, imp_self, true_implies]
    refine err_end h (by decide) (R := fun Q m => L_X10_put a b c m Q) fun m Q hm he => ?_
    simp only [L_X10_put, L_X10_noSheet, isSheet10, if_neg c1, e10, not_false_eq_true, not_true_eq_false, false_implies, forall_const, true_and, and_true, eq_self, imp_self, true_implies]
    rw [err10 (by decide)] at he ⊢
    exact ⟨fun d => absurd d (by decide), fun _ => he⟩
