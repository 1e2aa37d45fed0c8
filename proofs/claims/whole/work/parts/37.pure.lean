theorem up2_sort (m : MMt) (q : Nat) (a b c : Int32) : up2 (up2 (up2 m q 3 a) q 2 b) q 3 c = st2 m q b c := by
  funext x y; unfold st2; simp only [up2_at]
  by_cases h1 : x = q <;> by_cases h2 : y = 3 <;> by_cases h3 : y = 2 <;> simp [h1, h2, h3]
theorem up2_swap (m : MMt) (q : Nat) (a b : Int32) : up2 (up2 m q 3 a) q 2 b = st2 m q b a := by
  funext x y; unfold st2; simp only [up2_at]
  by_cases h1 : x = q <;> by_cases h2 : y = 3 <;> by_cases h3 : y = 2 <;> simp [h1, h2, h3] <;> omega
theorem stride9 {q : Nat} {p : Int32} {mem : MMt} (hx : GW (mem q)) (hp : -9 ≤ p.toInt ∧ p.toInt ≤ 9) (Q : Int32 → MMt → Prop)
    (h1 : nF p (mem q) = mem q 2 ∧ nV p (mem q) = mem q 3 → Q 0 (st2 mem q (nF p (mem q)) (nV p (mem q))))
    (h2 : ¬ (nF p (mem q) = mem q 2 ∧ nV p (mem q) = mem q 3) → Q 1 (st2 mem q (nF p (mem q)) (nV p (mem q)))) : L_X1_stride q p mem Q := by
  rintro f hf v hv
  refine pulled9 _ _ _ _ ?_
  rintro v5 hv5
  obtain ⟨w0, w1, w2, w3, w4⟩ := hx
  have hs := slo9 (k := mem q 0) w1 w3 hp
  have hsr := slo_rg (mem q 0) (mem q 1) (mem q 3) p
  have hr := rc_rg (k := mem q 0) w1
  rw [← hv5] at hs
  have eF : nF p (mem q) = hld (hld (mem q 2 + slo (mem q 0) (mem q 1) (mem q 3) p) 0 40) (mem q 4 - rc (mem q 0) (mem q 1)) (mem q 4 + rc (mem q 0) (mem q 1)) := rfl
  have eV : nV p (mem q) = if nF p (mem q) = mem q 2 + slo (mem q 0) (mem q 1) (mem q 3) p then slo (mem q 0) (mem q 1) (mem q 3) p else 0 := rfl
  have fin : ∀ sl : Int32, hld sl (-9) 9 = slo (mem q 0) (mem q 1) (mem q 3) p → B_X1_stride_52 q q f v sl mem Q := by
    intro sl hsl
    unfold B_X1_stride_52
    rw [held_sp hld9_le, hsl]
    rintro m1 hm1
    rintro w hw
    have o0 : m1 q 0 = mem q 0 := by rw [hm1, up2_at, if_neg (by omega)]
    have o1 : m1 q 1 = mem q 1 := by rw [hm1, up2_at, if_neg (by omega)]
    have o2 : m1 q 2 = mem q 2 := by rw [hm1, up2_at, if_neg (by omega)]
    have o3 : m1 q 3 = slo (mem q 0) (mem q 1) (mem q 3) p := by rw [hm1, up2_eq]
    have o4 : m1 q 4 = mem q 4 := by rw [hm1, up2_at, if_neg (by omega)]
    refine reach9 _ _ _ ?_
    rw [max_sp]
    refine reach9 _ _ _ ?_
    rw [min_sp, o0, o1, o4]
    rw [o2, o3] at hw
    have hwr : -9 ≤ w.toInt ∧ w.toInt ≤ 49 := by rw [hw, ad_ti]; omega
    have hc := clamp9 hwr w4 hr
    rw [held_sp hc.1, hc.2]
    rw [← hw] at eF eV
    rw [← eF]
    rintro m2 rfl
    have tail : ∀ m : MMt, m = st2 mem q (nF p (mem q)) (nV p (mem q)) → B_X1_stride_128 q q f v m Q := by
      rintro m rfl
      have so := @st2_o mem q (nF p (mem q)) (nV p (mem q))
      unfold B_X1_stride_128
      rw [so.2.2.1, so.2.2.2.1, hf, hv]
      exact ⟨fun c => h2 fun d => c d.1, fun c => ⟨fun d => h1 ⟨c, d⟩, fun d => h2 fun e => d e.2⟩⟩
    refine ⟨fun c => ?_, fun c => ?_⟩
    · rw [up2_eq] at c
      refine tail _ ?_
      rw [eV, if_pos c, hm1, up2_swap]
    · rw [up2_eq] at c
      rintro m3 rfl
      refine tail _ ?_
      rw [eV, if_neg c, hm1, up2_sort]
  refine ⟨fun c => drag9 _ _ _ ?_, fun c => drag9 _ _ _ ?_⟩
  · rw [min_sp]
    exact fin _ (hs.1 c)
  · rw [max_sp]
    exact fin _ (hs.2 c)
/-- what the class remembers of PULL -/
def MEM (s : Nat → Int32) (mem : MMt) : Prop := ∀ i, i < 410 → mem 21 i = 100 ∨ mem 21 i = gv s 0 (Int32.ofNat (i % 41)) (Int32.ofNat (i / 41)) 0
theorem on_of {x : Int32} {k : Nat} (h : x.toInt = k) : Int32.ofNat k = x := by
  have h2 := rg_ti x
  rw [eq_ti, on_ti (by omega), h]
theorem i8_of {x : Int32} (h : -128 ≤ x.toInt ∧ x.toInt ≤ 127) : x.toInt8.toInt32 = x := by
  apply Int32.toInt_inj.mp
  rw [Int8.toInt_toInt32, Int32.toInt_toInt8, Int.bmod_def]
  split <;> omega
theorem pullOf9 {q : Nat} {s : Nat → Int32} {mem : MMt} (hx : GW (mem q)) (hl : LWR 15 s 120 mem) (hu : mem 15 0 = 0) (hw : WFL s 120) (hM : MEM s mem) (hq : q ≠ 21) (hq2 : q ≠ 17) (Q : Int32 → MMt → Prop)
    (h : ∀ m' : MMt, (∀ a, a ≠ 21 → a ≠ 17 → m' a = mem a) → MEM s m' → Q (LPp s (mem q)) m') : L_X5_pullOf q mem Q := by
  rintro v1 hv1
  obtain ⟨w0, w1, w2, w3, w4⟩ := hx
  obtain ⟨f, hf⟩ : ∃ f : Nat, (mem q 2).toInt = f := ⟨(mem q 2).toInt.toNat, by omega⟩
  obtain ⟨n, hn⟩ : ∃ n : Nat, (mem q 1).toInt = n := ⟨(mem q 1).toInt.toNat, by omega⟩
  have hf40 : f ≤ 40 := by omega
  have hn9 : n ≤ 9 := by omega
  have hi : v1.toInt = (n * 41 + f : Nat) := by
    rw [hv1]
    simp only [ad_ti, ml_ti, Int32.reduceToInt, hf, hn]
    omega
  have hv : vp_in v1 410 := vp_of hi (by omega)
  have hLP : gv s 0 (Int32.ofNat ((n * 41 + f) % 41)) (Int32.ofNat ((n * 41 + f) / 41)) 0 = LPp s (mem q) := by
    rw [show (n * 41 + f) % 41 = f by omega, show (n * 41 + f) / 41 = n by omega, on_of hf, on_of hn]
    rfl
  rw [within_sp, if_pos (by rw [hi]; simp only [Int32.reduceToInt, sb_ti]; omega)]
  refine ⟨fun _ => ⟨hv, fun c => ⟨hv, ?_⟩, fun c => ?_⟩, fun c => absurd c (by decide)⟩
  · have h8 := h mem (fun _ _ _ => rfl) hM
    rw [tn_of hi] at c ⊢
    rcases hM _ (show n * 41 + f < 410 by omega) with e | e
    · exact absurd e c
    · rw [e, hLP]; exact h8
  · refine give9_0 (s := s) hu hl hw _ fun m1 hm1 => ⟨hv, ?_⟩
    rintro m2 rfl
    have hr := LP_rg s (mem q)
    have e8 : (gv s 0 (mem q 2) (mem q 1) 0).toInt8.toInt32.toInt8.toInt32 = LPp s (mem q) := by
      have e9 : gv s 0 (mem q 2) (mem q 1) 0 = LPp s (mem q) := rfl
      rw [e9, i8_of (x := LPp s (mem q)) (by omega), i8_of (x := LPp s (mem q)) (by omega)]
    refine ⟨hv, ?_⟩
    rw [e8, up2_eq]
    refine h _ ?_ ?_
    · intro a h1 h2
      rw [up2_ro _ _ _ _ _ h1, hm1 a (by omega)]
    · intro i hi2
      rw [up2_at, tn_of hi]
      by_cases e : i = n * 41 + f
      · subst e
        rw [if_pos ⟨rfl, rfl⟩]
        exact Or.inr hLP.symm
      · rw [if_neg (by omega), hm1 21 (by omega)]
        exact hM i hi2
theorem MEM_congr {s t : Nat → Int32} {mem m' : MMt} (hM : MEM s mem) (h1 : m' 21 = mem 21) (h2 : ∀ a b, gv t 0 a b 0 = gv s 0 a b 0) : MEM t m' := by
  intro i hi
  rw [h1, h2]
  exact hM i hi
/-- x after a STEP of its own -/
def stp (s x : Nat → Int32) : Nat → Int32 := fun j => if j = 2 then FF s x else if j = 3 then VV s x else x j
theorem st2_row (mem : MMt) (q : Nat) (f v : Int32) : st2 mem q f v q = fun j => if j = 2 then f else if j = 3 then v else mem q j := by
  funext j
  unfold st2
  simp only [up2_at]
  by_cases h1 : j = 2 <;> by_cases h2 : j = 3 <;> simp [h1, h2]
theorem stp_GW {s x : Nat → Int32} (h : GW x) : GW (stp s x) := by
  have h1 := nF_rg (p := LPp s x) h
  have h2 := nV_rg (LPp s x) x
  exact ⟨h.1, h.2.1, h1, h2, h.2.2.2.2⟩
/-- the frame of the class's thought: rows 21, 17, and the likeness -/
theorem goesOn9 {s : Nat → Int32} {mem : MMt} (hx : GW (mem 54)) (hl : LWR 15 s 120 mem) (hu : mem 15 0 = 0) (hw : WFL s 120) (hM : MEM s mem) (Q : Int32 → MMt → Prop)
    (h : ∀ m' : MMt, (∀ a, a ≠ 21 → a ≠ 17 → a ≠ 54 → m' a = mem a) → m' 54 = stp s (mem 54) → MEM s m' → (RS s (mem 54) → Q 0 m') ∧ (¬ RS s (mem 54) → Q 1 m')) : L_X7_goesOn mem Q := by
  refine pullOf9 hx hl hu hw hM (by decide) (by decide) _ fun m1 h1 h2 => ?_
  have e54 := h1 54 (by decide) (by decide)
  have hx1 : GW (m1 54) := by rw [e54]; exact hx
  have key := h (st2 m1 54 (nF (LPp s (mem 54)) (m1 54)) (nV (LPp s (mem 54)) (m1 54))) (fun a a1 a2 a3 => by rw [st2_ro a3, h1 a a1 a2]) (by rw [st2_row, e54]; rfl) (MEM_congr h2 (by rw [st2_ro (by decide)]) fun _ _ => rfl)
  refine stride9 hx1 (LP_rg _ _) _ (fun c => key.1 ?_) (fun c => key.2 ?_)
  · rw [e54] at c; exact c
  · rw [e54] at c; exact c
/-- a likeness -/
def cpy5 (x y : Nat → Int32) : Nat → Int32 := fun j => if j < 5 then x j else y j
theorem copy1 {q a : Nat} (hqa : a ≠ q) (mem : MMt) (Q : MMt → Prop) (h : ∀ m' : MMt, (∀ b, b ≠ q → m' b = mem b) → m' q = cpy5 (mem a) (mem q) → Q m') : L_X1_copyFrom q a mem Q := by
  rintro m1 rfl m2 rfl m3 rfl m4 rfl m5 rfl
  simp only [up2_ro _ _ _ _ _ hqa]
  refine h _ (fun b hb => by simp only [up2_ro _ _ _ _ _ hb]) ?_
  funext j
  simp only [up2_at, cpy5]
  have : j = 0 ∨ j = 1 ∨ j = 2 ∨ j = 3 ∨ j = 4 ∨ 5 ≤ j := by omega
  rcases this with rfl | rfl | rfl | rfl | rfl | h5
  · simp
  · simp
  · simp
  · simp
  · simp
  · rw [if_neg (by omega), if_neg (by omega), if_neg (by omega), if_neg (by omega), if_neg (by omega), if_neg (by omega)]
theorem shove9 {q : Nat} {p : Int32} {mem : MMt} (Q : MMt → Prop) (h : Q (up2 mem q 3 (hld (mem q 3 + p) (-9) 9))) : L_X1_shove q p mem Q := by
  unfold L_X1_shove
  rw [held_sp hld9_le]
  rintro m rfl
  exact h
theorem pushed10 {a p : Int32} {g : Nat} (ha : a.toInt = g) (hg : g < 8) {mem : MMt} (Q : Int32 → MMt → Prop)
    (h : Q (hld (mem 77 (10 + 5 * g + 3) + p) (-9) 9) (up2 mem 77 (10 + 5 * g + 3) (hld (mem 77 (10 + 5 * g + 3) + p) (-9) 9))) : L_X10_pushed a p mem Q := by
  refine of10 (j := 3) ha hg rfl (by decide) _ _ ?_
  rw [with_sp]
  refine sets10 (j := 3) ha hg rfl (by decide) _ _ (of10 (j := 3) ha hg rfl (by decide) _ _ ?_)
  rw [up2_eq]
  exact h
