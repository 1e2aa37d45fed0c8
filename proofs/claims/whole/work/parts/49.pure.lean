/-- one good goes on -/
def pgo (s : Nat → Int32) (g : Nat) : Nat → Int32 :=
  if ¬ FF s (gd s g) = gd s g 2 ∧ (FF s (gd s g) = 0 ∨ FF s (gd s g) = 40) then
    upd (upd (upd s (10 + 5 * g + 2) (FF s (gd s g))) (10 + 5 * g + 3) (VV s (gd s g))) 1 (hld (s 1 + gv s 1 (if FF s (gd s g) = 0 then 0 else 1) (ld (gd s g 0) (gd s g 1)) (s 0)) (-99999) 99999)
  else upd (upd s (10 + 5 * g + 2) (FF s (gd s g))) (10 + 5 * g + 3) (VV s (gd s g))
def pgN (s : Nat → Int32) : Nat → Nat → Int32
  | 0 => s
  | k + 1 => pgo (pgN s k) k
/-- a STEP -/
def pst (s : Nat → Int32) : Nat → Int32 := upd (pgN s (s 6).toInt.toNat) 0 (pgN s (s 6).toInt.toNat 0 + 1)
theorem pgo_o {s : Nat → Int32} {g i : Nat} (h1 : i ≠ 1) (h2 : i ≠ 10 + 5 * g + 2) (h3 : i ≠ 10 + 5 * g + 3) : pgo s g i = s i := by
  unfold pgo
  split
  · rw [upd_ne h1, upd_ne h3, upd_ne h2]
  · rw [upd_ne h3, upd_ne h2]
theorem pgo_2 (s : Nat → Int32) (g : Nat) : pgo s g (10 + 5 * g + 2) = FF s (gd s g) ∧ pgo s g (10 + 5 * g + 3) = VV s (gd s g) := by
  unfold pgo
  split
  · rw [upd_ne (by omega), upd_ne (by omega), upd_eq, upd_ne (by omega), upd_eq]; exact ⟨rfl, rfl⟩
  · rw [upd_ne (by omega), upd_eq, upd_eq]; exact ⟨rfl, rfl⟩
/-- s and t hold the same laws -/
def LE2 (s t : Nat → Int32) : Prop := ∀ i, 120 ≤ i → i < 322 → t i = s i
theorem LE2.rf (s : Nat → Int32) : LE2 s s := fun _ _ _ => rfl
theorem LE2.tr {s t u : Nat → Int32} (h1 : LE2 s t) (h2 : LE2 t u) : LE2 s u := fun i a b => (h2 i a b).trans (h1 i a b)
theorem pgN_o {s : Nat → Int32} : ∀ {k i : Nat}, i ≠ 1 → (i < 10 ∨ 10 + 5 * k ≤ i) → pgN s k i = s i
  | 0, _, _, _ => rfl
  | k + 1, i, h1, h2 => by
    show pgo (pgN s k) k i = s i
    rw [pgo_o h1 (by omega) (by omega)]
    exact pgN_o h1 (by omega)
theorem pgN_le {s : Nat → Int32} {k : Nat} (hk : k ≤ 8) : LE2 s (pgN s k) := fun i h1 h2 => pgN_o (by omega) (by omega)
/-- the laws as both sides hold them -/
def TH2 (s : Nat → Int32) (mem : MMt) : Prop := TH s mem ∧ LWR 18 s 221 mem ∧ mem 18 0 = 1 ∧ WFL s 221
theorem TH2.wl {s : Nat → Int32} {mem : MMt} (h : TH2 s mem) : WL s := ⟨h.1.2.2.1, h.2.2.2⟩
theorem Inv.th2 {n : Nat} {mem : MMt} (h : Inv n mem) : TH2 (mem 77) mem := ⟨h.th, h.2.1.1.2.2.2.2.2, h.2.2.1.2.1, h.wl.2⟩
theorem WL_le {s t : Nat → Int32} (h : WL s) (hl : LE2 s t) : WL t := ⟨WFL_congr h.1 fun i a b => hl i a (by omega), WFL_congr h.2 fun i a b => hl i (by omega) (by omega)⟩
theorem MEM_le {s t : Nat → Int32} {mem m' : MMt} (hw : WL s) (hM : MEM s mem) (hl : LE2 s t) (h : m' 21 = mem 21) : MEM t m' := MEM_congr hM h fun a b => gv_congr hw.1 hw.2 hl _ _ _ _
theorem TH2_le {s t : Nat → Int32} {mem m' : MMt} (h : TH2 s mem) (hl : LE2 s t) (hr : ∀ q, q = 15 ∨ q = 16 ∨ q = 18 ∨ q = 19 → m' q = mem q) (hM : MEM s m') : TH2 t m' := by
  have hw := WL_le h.wl hl
  obtain ⟨⟨a1, a2, a3, a4⟩, b1, b2, b3⟩ := h
  exact ⟨⟨LWR_congr a1 (fun i x y => hl i x (by omega)) (by rw [hr 15 (by omega)]) (hr 16 (by omega)), by rw [hr 15 (by omega)]; exact a2, hw.1, MEM_le ⟨a3, b3⟩ hM hl rfl⟩, LWR_congr b1 (fun i x y => hl i (by omega) (by omega)) (by rw [hr 18 (by omega)]) (hr 19 (by omega)), by rw [hr 18 (by omega)]; exact b2, hw.2⟩
theorem FV_le {s t : Nat → Int32} (hw : WL s) (hl : LE2 s t) (x : Nat → Int32) : LPp t x = LPp s x ∧ FF t x = FF s x ∧ VV t x = VV s x := by
  have e : LPp t x = LPp s x := by unfold LPp; exact gv_congr hw.1 hw.2 hl _ _ _ _
  refine ⟨e, ?_, ?_⟩
  · unfold FF; rw [e]
  · unfold VV; rw [e]
theorem stp_j (s x : Nat → Int32) : stp s x 0 = x 0 ∧ stp s x 1 = x 1 ∧ stp s x 2 = FF s x ∧ stp s x 3 = VV s x ∧ stp s x 4 = x 4 := by
  unfold stp
  simp
theorem pgo_WG {s : Nat → Int32} {g : Nat} (h : WG s) (hg : (g : Int) < (s 6).toInt) : WG (pgo s g) := by
  obtain ⟨h1, h2⟩ := h
  have e6 : pgo s g 6 = s 6 := pgo_o (by decide) (by omega) (by omega)
  refine ⟨by rw [e6]; exact h1, fun g' hg' => ?_⟩
  rw [e6] at hg'
  by_cases e : g' = g
  · subst e
    have hx := h2 g' hg
    have hs := stp_GW (s := s) hx
    refine GW_ext (fun j hj => ?_) hs
    have p := pgo_2 s g'
    have q := stp_j s (gd s g')
    show _ = pgo s g' (10 + 5 * g' + j)
    rcases j5 hj with rfl | rfl | rfl | rfl | rfl
    · rw [q.1, pgo_o (by omega) (by omega) (by omega)]; rfl
    · rw [q.2.1, pgo_o (by omega) (by omega) (by omega)]; rfl
    · rw [q.2.2.1, p.1]
    · rw [q.2.2.2.1, p.2]
    · rw [q.2.2.2.2, pgo_o (by omega) (by omega) (by omega)]; rfl
  · refine GW_ext (fun j hj => ?_) (h2 g' hg')
    show s (10 + 5 * g' + j) = pgo s g (10 + 5 * g' + j)
    rw [pgo_o (by omega) (by omega) (by omega)]
theorem pgN_WG {s : Nat → Int32} (h : WG s) : ∀ {k : Nat}, (k : Int) ≤ (s 6).toInt → WG (pgN s k)
  | 0, _ => h
  | k + 1, hk => by
    have ih := pgN_WG h (k := k) (by omega)
    refine pgo_WG ih ?_
    rw [pgN_o (by decide) (by omega)]; omega
theorem pst_o {s : Nat → Int32} (h : WG s) {i : Nat} (h0 : i ≠ 0) (h1 : i ≠ 1) (h2 : i < 10 ∨ 50 ≤ i) : pst s i = s i := by
  have := h.1
  unfold pst
  rw [upd_ne h0, pgN_o h1 (by omega)]
theorem pst_WG {s : Nat → Int32} (h : WG s) : WG (pst s) := by
  have h1 := pgN_WG h (k := (s 6).toInt.toNat) (by have := h.1; omega)
  obtain ⟨a, b⟩ := h1
  have e6 : pst s 6 = pgN s (s 6).toInt.toNat 6 := upd_ne (by decide)
  refine ⟨by rw [e6]; exact a, fun g hg => ?_⟩
  rw [e6] at hg
  exact GW_ext (fun j hj => (upd_ne (by omega)).symm) (b g hg)
theorem pst_le {s : Nat → Int32} (h : WG s) : LE2 s (pst s) := fun i h1 h2 => pst_o h (by omega) (by omega) (by omega)
theorem goes10 {a : Int32} {g : Nat} (ha : a.toInt = g) (hg : g < 8) {mem : MMt} (hw : WL (mem 77)) (Q : MMt → Prop)
    (h : ∀ m' : MMt, (∀ q, q ≠ 76 → q ≠ 77 → q ≠ 81 → q ≠ 82 → m' q = mem q) → (∀ j, j ≠ 12 → j ≠ 13 → m' 76 j = mem 76 j) → m' 77 = pgo (mem 77) g → Q m') : L_X10_goes a mem Q := by
  refine looks10 ha hg hw _ fun m1 h1 h2 h3 h4 => ?_
  have f77 := h1 77 (by decide) (by decide) (by decide)
  refine of10 (j := 2) ha hg rfl (by decide) _ _ (sets10 (j := 2) ha hg rfl (by decide) _ _ (sets10 (j := 3) ha hg rfl (by decide) _ _ ?_))
  simp only [up2_ro _ 77 _ _ 76 (by decide), h3, h4, f77]
  rw [show mem 77 (10 + 5 * g + 2) = gd (mem 77) g 2 from rfl]
  generalize hm2 : up2 (up2 m1 77 (10 + 5 * g + 2) (FF (mem 77) (gd (mem 77) g))) 77 (10 + 5 * g + 3) (VV (mem 77) (gd (mem 77) g)) = m2
  have g77 : m2 77 = upd (upd (mem 77) (10 + 5 * g + 2) (FF (mem 77) (gd (mem 77) g))) (10 + 5 * g + 3) (VV (mem 77) (gd (mem 77) g)) := by
    rw [← hm2, up2_row, up2_row, f77]
  have gr : ∀ q, q ≠ 77 → m2 q = m1 q := fun q hq => by rw [← hm2, up2_ro _ _ _ _ _ hq, up2_ro _ _ _ _ _ hq]
  have e12 : m2 76 12 = FF (mem 77) (gd (mem 77) g) := by rw [gr 76 (by decide)]; exact h3
  have tax : ∀ t : Int32, (FF (mem 77) (gd (mem 77) g)) / 40 = t → (¬ FF (mem 77) (gd (mem 77) g) = gd (mem 77) g 2 ∧ (FF (mem 77) (gd (mem 77) g) = 0 ∨ FF (mem 77) (gd (mem 77) g) = 40)) → t = (if FF (mem 77) (gd (mem 77) g) = 0 then 0 else 1) → (t = 0 ∨ t = 1) → B_X10_goes_56 a m2 Q := by
    intro t ht hc htt h01
    unfold B_X10_goes_56 L_X10_loadOf
    refine of10 (j := 0) ha hg rfl (by decide) _ _ (of10 (j := 1) ha hg rfl (by decide) _ _ (load10 _ _ _ _ ?_))
    rw [e12, ht, g77]
    have e0 : upd (upd (mem 77) (10 + 5 * g + 2) (FF (mem 77) (gd (mem 77) g))) (10 + 5 * g + 3) (VV (mem 77) (gd (mem 77) g)) (10 + 5 * g + 0) = gd (mem 77) g 0 := by rw [upd_ne (by omega), upd_ne (by omega)]; rfl
    have e1 : upd (upd (mem 77) (10 + 5 * g + 2) (FF (mem 77) (gd (mem 77) g))) (10 + 5 * g + 3) (VV (mem 77) (gd (mem 77) g)) (10 + 5 * g + 1) = gd (mem 77) g 1 := by rw [upd_ne (by omega), upd_ne (by omega)]; rfl
    have es : upd (upd (mem 77) (10 + 5 * g + 2) (FF (mem 77) (gd (mem 77) g))) (10 + 5 * g + 3) (VV (mem 77) (gd (mem 77) g)) 0 = mem 77 0 := by rw [upd_ne (by omega), upd_ne (by omega)]
    have ll : LE2 (mem 77) (m2 77) := fun i i1 i2 => by rw [g77, upd_ne (by omega), upd_ne (by omega)]
    have hw2 := WL_le hw ll
    rw [e0, e1]
    dsimp only
    rw [g77, es]
    refine gives10 (Or.inr rfl) hw2.1 hw2.2 _ fun m3 k1 => ?_
    rw [with_sp]
    rintro m4 hm4
    have k77 := k1 77 (by decide) (by decide)
    refine h m4 (fun q q1 q2 q3 q4 => by rw [hm4, up2_ro _ _ _ _ _ q2, k1 q q3 q4, gr q q2, h1 q q1 q3 q4]) (fun j j1 j2 => by rw [hm4, up2_ro _ _ _ _ _ (by decide), k1 76 (by decide) (by decide), gr 76 (by decide), h2 j j1 j2]) ?_
    rw [hm4, up2_row, k77, gv_congr hw.1 hw.2 ll]
    unfold pgo
    rw [if_pos hc, g77, upd_ne (show 1 ≠ 10 + 5 * g + 3 by omega), upd_ne (show 1 ≠ 10 + 5 * g + 2 by omega), htt]
  have pl : ¬ (¬ FF (mem 77) (gd (mem 77) g) = gd (mem 77) g 2 ∧ (FF (mem 77) (gd (mem 77) g) = 0 ∨ FF (mem 77) (gd (mem 77) g) = 40)) → Q m2 := by
    intro hc
    refine h m2 (fun q q1 q2 q3 q4 => by rw [gr q q2, h1 q q1 q3 q4]) (fun j j1 j2 => by rw [gr 76 (by decide), h2 j j1 j2]) ?_
    unfold pgo
    rw [if_neg hc, g77]
  have n40 : ¬ (40 : Int32) = 0 := by decide
  refine ⟨fun c => pl fun z => z.1 c, fun c => ⟨fun d => tax 0 (by rw [d]; decide) ⟨c, Or.inl d⟩ (by rw [if_pos d]) (Or.inl rfl), fun d => ⟨fun e => pl fun z => z.2.elim d e, fun e => tax 1 (by rw [e]; decide) ⟨c, Or.inr e⟩ (by rw [if_neg d]) (Or.inr rfl)⟩⟩⟩
theorem step10 {mem : MMt} (hG : WG (mem 77)) (hw : WL (mem 77)) (Q : MMt → Prop)
    (h : ∀ m' : MMt, (∀ q, q ≠ 76 → q ≠ 77 → q ≠ 81 → q ≠ 82 → m' q = mem q) → (∀ j, j ≠ 12 → j ≠ 13 → m' 76 j = mem 76 j) → m' 77 = pst (mem 77) → Q m') : L_X10_step mem Q := by
  have w6 := hG.1
  obtain ⟨N, hN⟩ : ∃ N : Nat, (mem 77 6).toInt = N := ⟨(mem 77 6).toInt.toNat, by omega⟩
  have eN : (mem 77 6).toInt.toNat = N := by omega
  unfold L_X10_step B_X10_step_2
  refine LOOP_up N (fun k z => z.1 = Int32.ofNat k ∧ (∀ q, q ≠ 76 → q ≠ 77 → q ≠ 81 → q ≠ 82 → z.2 q = mem q) ∧ (∀ j, j ≠ 12 → j ≠ 13 → z.2 76 j = mem 76 j) ∧ z.2 77 = pgN (mem 77) k) ⟨rfl, fun _ _ _ _ _ => rfl, fun _ _ _ => rfl, rfl⟩ ?_ ?_
  · rintro k ⟨x, m⟩ X hk ⟨e1, e2, e3, e4⟩ hX
    dsimp only at e1 e2 e3 e4 hX ⊢
    subst e1
    have hk2 : TI (Int32.ofNat k) k := on_ti (by omega)
    have e6 : m 77 6 = mem 77 6 := by rw [e4]; exact pgN_o (by decide) (by omega)
    rw [e6]
    refine ⟨fun d => absurd d (nle_of hN hk2 hk), fun _ => ?_⟩
    refine goes10 hk2 (by omega) (by rw [e4]; exact WL_le hw (pgN_le (by omega))) _ fun m1 g1 g2 g3 => ?_
    rintro v4 rfl
    refine hX _ ⟨on_1 k, fun q q1 q2 q3 q4 => (g1 q q1 q2 q3 q4).trans (e2 q q1 q2 q3 q4), fun j j1 j2 => (g2 j j1 j2).trans (e3 j j1 j2), ?_⟩
    show m1 77 = _
    rw [g3, e4]; rfl
  · rintro ⟨x, m⟩ X ⟨e1, e2, e3, e4⟩
    dsimp only at e1 e2 e3 e4 ⊢
    subst e1
    have hk2 : TI (Int32.ofNat N) N := on_ti (by omega)
    have e6 : m 77 6 = mem 77 6 := by rw [e4]; exact pgN_o (by decide) (by omega)
    rw [e6]
    refine ⟨fun _ => ?_, fun d => absurd (le_of hN hk2 (Nat.le_refl _)) d⟩
    rintro m2 rfl
    refine h _ (fun q q1 q2 q3 q4 => by rw [up2_ro _ _ _ _ _ q2]; exact e2 q q1 q2 q3 q4) (fun j j1 j2 => by rw [up2_ro _ _ _ _ _ (by decide)]; exact e3 j j1 j2) ?_
    rw [up2_row, e4]
    unfold pst
    rw [eN]
theorem hldT_le : (-99999 : Int32) ≤ 99999 := by decide
/-- a course of the class goes on -/
theorem goOn9 {cb : Nat} (hcb : cb = 1 ∨ cb = 43) {s : Nat → Int32} {mem : MMt} (hC : CR cb s mem) (hG : WG s) (hT : TH2 s mem) (Q : MMt → Prop)
    (h : ∀ m' : MMt, (∀ a, a ≠ cb → (a < cb + 2 ∨ cb + 9 < a) → a ≠ 21 → a ≠ 17 → a ≠ 20 → m' a = mem a) → CR cb (pst s) m' → MEM s m' → Q m') : L_X0_goOn cb mem Q := by
  have w6 := hG.1
  have hw := hT.wl
  obtain ⟨N, hN⟩ : ∃ N : Nat, (s 6).toInt = N := ⟨(s 6).toInt.toNat, by omega⟩
  have eN : (s 6).toInt.toNat = N := by omega
  unfold L_X0_goOn B_X0_goOn_2
  refine LOOP_up N (fun k z => z.1 = Int32.ofNat k ∧ (∀ a, a ≠ cb → (a < cb + 2 ∨ cb + 9 < a) → a ≠ 21 → a ≠ 17 → a ≠ 20 → z.2 a = mem a) ∧ CR cb (pgN s k) z.2 ∧ MEM s z.2) ⟨rfl, fun _ _ _ _ _ _ => rfl, hC, hT.1.2.2.2⟩ ?_ ?_
  · rintro k ⟨x, m⟩ X hk ⟨e1, e2, e3, e4⟩ hX
    dsimp only at e1 e2 e3 e4 hX ⊢
    subst e1
    have hk2 : TI (Int32.ofNat k) k := on_ti (by omega)
    have s6 : pgN s k 6 = s 6 := pgN_o (by decide) (by omega)
    have ll : LE2 s (pgN s k) := pgN_le (by omega)
    have hGk := pgN_WG hG (k := k) (by omega)
    have hgk : (k : Int) < (pgN s k 6).toInt := by rw [s6]; omega
    rw [e3.1, s6, hk2.tn]
    refine ⟨fun d => absurd d (nle_of hN hk2 hk), fun _ => ⟨hk2.vp (by omega), ?_⟩⟩
    rintro v4 hv4
    have hr : ∀ j, j < 5 → m (cb + 2 + k) j = gd (pgN s k) k j := fun j hj => e3.2.2.2 k hgk j hj
    have hx : GW (m (cb + 2 + k)) := GW_ext (fun j hj => (hr j hj).symm) (hGk.2 k hgk)
    have hTk : TH2 s m := TH2_le hT (LE2.rf s) (fun q hq => e2 q (by omega) (by omega) (by omega) (by omega) (by omega)) e4
    have ne21 : cb + 2 + k ≠ 21 := by omega
    have ne17 : cb + 2 + k ≠ 17 := by omega
    refine pullOf9 (s := s) hx hTk.1.1 hTk.1.2.1 hTk.1.2.2.1 e4 ne21 ne17 _ fun m1 g1 g2 => ?_
    have r1 : m1 (cb + 2 + k) = m (cb + 2 + k) := g1 _ ne21 ne17
    have hL : LPp s (m (cb + 2 + k)) = LPp (pgN s k) (gd (pgN s k) k) := by rw [(FV_ext (s := s) hr).2.2.1, (FV_le hw ll _).1]
    have hF : nF (LPp s (m (cb + 2 + k))) (m1 (cb + 2 + k)) = FF (pgN s k) (gd (pgN s k) k) := by
      rw [r1]; exact ((FV_ext (s := s) hr).1).trans (FV_le hw ll _).2.1.symm
    have hV : nV (LPp s (m (cb + 2 + k))) (m1 (cb + 2 + k)) = VV (pgN s k) (gd (pgN s k) k) := by
      rw [r1]; exact ((FV_ext (s := s) hr).2.1).trans (FV_le hw ll _).2.2.symm
    have e42 : v4 = gd (pgN s k) k 2 := by rw [hv4]; exact hr 2 (by decide)
    have main : ∀ m2 : MMt, m2 = st2 m1 (cb + 2 + k) (FF (pgN s k) (gd (pgN s k) k)) (VV (pgN s k) (gd (pgN s k) k)) →
        ((m2 (cb + 2 + k) 2 = v4 → ∀ v10 : Int32, v10 = Int32.ofNat k + 1 → X (v10, m2)) ∧ (¬ m2 (cb + 2 + k) 2 = v4 → ((m2 (cb + 2 + k) 2 = 0 → B_X0_goOn_58 cb X cb (Int32.ofNat k) (cb + 2 + k) m2 Q) ∧ (¬ m2 (cb + 2 + k) 2 = 0 → ((¬ m2 (cb + 2 + k) 2 = 40 → ∀ v13 : Int32, v13 = Int32.ofNat k + 1 → X (v13, m2)) ∧ (m2 (cb + 2 + k) 2 = 40 → B_X0_goOn_58 cb X cb (Int32.ofNat k) (cb + 2 + k) m2 Q)))))) := by
      intro m2 hm2
      have p2 : m2 (cb + 2 + k) 2 = FF (pgN s k) (gd (pgN s k) k) := by rw [hm2]; exact st2_o.2.2.1
      have p0 : m2 (cb + 2 + k) 0 = gd (pgN s k) k 0 := by rw [hm2, st2_o.1, r1, hr 0 (by decide)]
      have p1 : m2 (cb + 2 + k) 1 = gd (pgN s k) k 1 := by rw [hm2, st2_o.2.1, r1, hr 1 (by decide)]
      have pr : ∀ a, a ≠ cb + 2 + k → a ≠ 21 → a ≠ 17 → m2 a = m a := fun a a1 a2 a3 => by rw [hm2, st2_ro a1, g1 a a2 a3]
      have M2 : MEM s m2 := MEM_congr g2 (by rw [hm2, st2_ro (by omega)]) fun _ _ => rfl
      have rows : ∀ (m3 : MMt), (∀ a, a ≠ cb → a ≠ 20 → m3 a = m2 a) → m3 cb 1 = m2 cb 1 → m3 cb 2 = m2 cb 2 → m3 cb 3 = pgo (pgN s k) k 1 → MEM s m3 → X (Int32.ofNat k + 1, m3) := by
        intro m3 q1 q2 q3 q4 q5
        refine hX _ ⟨on_1 k, fun a a1 a2 a3 a4 a5 => ?_, ⟨?_, ?_, q4, ?_⟩, q5⟩
        · show m3 a = _
          rw [q1 a a1 a5, pr a (by omega) a3 a4]; exact e2 a a1 a2 a3 a4 a5
        · show m3 cb 1 = pgo (pgN s k) k 6
          rw [q2, pr cb (by omega) (by omega) (by omega), pgo_o (by decide) (by omega) (by omega)]; exact e3.1
        · show m3 cb 2 = pgo (pgN s k) k 0
          rw [q3, pr cb (by omega) (by omega) (by omega), pgo_o (by decide) (by omega) (by omega)]; exact e3.2.1
        · intro g hg j hj
          show m3 (cb + 2 + g) j = pgo (pgN s k) k (10 + 5 * g + j)
          have hg' : (g : Int) < (pgN s k 6).toInt := by
            have : pgN s (k + 1) 6 = pgN s k 6 := pgo_o (by decide) (by omega) (by omega)
            rw [this] at hg; exact hg
          have hg8 : g < 8 := by rw [s6] at hg'; omega
          rw [q1 _ (by omega) (by omega)]
          by_cases e : g = k
          · subst e
            have pp := pgo_2 (pgN s g) g
            rcases j5 hj with rfl | rfl | rfl | rfl | rfl
            · rw [p0, pgo_o (by omega) (by omega) (by omega)]; rfl
            · rw [p1, pgo_o (by omega) (by omega) (by omega)]; rfl
            · rw [p2, pp.1]
            · rw [hm2, st2_o.2.2.2.1, pp.2]
            · rw [hm2, st2_o.2.2.2.2, r1, hr 4 (by decide), pgo_o (by omega) (by omega) (by omega)]; rfl
          · rw [pr _ (by omega) (by omega) (by omega), e3.2.2.2 g hg' j hj, pgo_o (by omega) (by omega) (by omega)]
            rfl
      have plain : ¬ (¬ FF (pgN s k) (gd (pgN s k) k) = gd (pgN s k) k 2 ∧ (FF (pgN s k) (gd (pgN s k) k) = 0 ∨ FF (pgN s k) (gd (pgN s k) k) = 40)) → ∀ v10 : Int32, v10 = Int32.ofNat k + 1 → X (v10, m2) := by
        rintro hc v10 rfl
        refine rows m2 (fun _ _ _ => rfl) rfl rfl ?_ M2
        rw [pr cb (by omega) (by omega) (by omega), e3.2.2.1]
        unfold pgo
        rw [if_neg hc, upd_ne (by omega), upd_ne (by omega)]
      have tax : ∀ t : Int32, (¬ FF (pgN s k) (gd (pgN s k) k) = gd (pgN s k) k 2 ∧ (FF (pgN s k) (gd (pgN s k) k) = 0 ∨ FF (pgN s k) (gd (pgN s k) k) = 40)) → t = (if FF (pgN s k) (gd (pgN s k) k) = 0 then 0 else 1) → B_X0_goOn_74 cb X cb (Int32.ofNat k) (cb + 2 + k) t m2 Q := by
        intro t hc ht
        refine load9 _ _ _ ?_
        rw [p0, p1, pr cb (by omega) (by omega) (by omega), e3.2.1]
        have hT2 : TH2 s m2 := TH2_le hTk (LE2.rf s) (fun q hq => pr q (by omega) (by omega) (by omega)) M2
        refine give9_1 (s := s) hT2.2.2.1 hT2.2.1 hT2.2.2.2 _ fun m3 k1 => ?_
        rw [held_sp hldT_le]
        rintro m4 rfl v8 rfl
        refine rows _ (fun a a1 a2 => by rw [up2_ro _ _ _ _ _ a1, k1 a a2]) (by rw [uq, if_neg (by decide), k1 cb (by omega)]) (by rw [uq, if_neg (by decide), k1 cb (by omega)]) ?_ (MEM_congr M2 (by rw [up2_ro _ _ _ _ _ (by omega), k1 21 (by decide)]) fun _ _ => rfl)
        rw [up2_eq, k1 cb (by omega), pr cb (by omega) (by omega) (by omega), e3.2.2.1]
        unfold pgo
        rw [if_pos hc, upd_eq, ht, gv_congr hw.1 hw.2 ll]
      rw [p2, e42]
      refine ⟨fun c => plain fun z => z.1 c, fun c => ⟨fun d => ?_, fun d => ⟨fun e => plain fun z => z.2.elim d e, fun e => ?_⟩⟩⟩
      · refine ⟨fun z => absurd (p2.trans d) z, fun _ => tax 0 ⟨c, Or.inl d⟩ (by rw [if_pos d])⟩
      · refine ⟨fun _ => tax 1 ⟨c, Or.inr e⟩ (by rw [if_neg d]), fun z => absurd (p2.symm.trans z) d⟩
    refine stride9 (by rw [r1]; exact hx) (LP_rg _ _) _ (fun _ => main _ (by rw [hF, hV])) (fun _ => main _ (by rw [hF, hV]))
  · rintro ⟨x, m⟩ X ⟨e1, e2, e3, e4⟩
    dsimp only at e1 e2 e3 e4 ⊢
    subst e1
    have hk2 : TI (Int32.ofNat N) N := on_ti (by omega)
    have s6 : pgN s N 6 = s 6 := pgN_o (by decide) (by omega)
    rw [e3.1, s6]
    refine ⟨fun _ => ?_, fun d => absurd (le_of hN hk2 (Nat.le_refl _)) d⟩
    rintro m2 rfl
    refine h _ (fun a a1 a2 a3 a4 a5 => by rw [up2_ro _ _ _ _ _ a1]; exact e2 a a1 a2 a3 a4 a5) ⟨?_, ?_, ?_, ?_⟩ (MEM_congr e4 (by rw [up2_ro _ _ _ _ _ (by omega)]) fun _ _ => rfl)
    · rw [uq, if_neg (by decide), e3.1]; unfold pst; rw [eN, upd_ne (by decide)]
    · rw [up2_eq, e3.2.1]; unfold pst; rw [eN, upd_eq]
    · rw [uq, if_neg (by decide), e3.2.2.1]; unfold pst; rw [eN, upd_ne (by decide)]
    · intro g hg j hj
      rw [up2_ro _ _ _ _ _ (by omega)]
      have ep : pst s 6 = pgN s N 6 := by unfold pst; rw [eN, upd_ne (by decide)]
      rw [ep] at hg
      rw [e3.2.2.2 g hg j hj]
      unfold gd pst
      rw [eN, upd_ne (by omega)]
