theorem k_law {n : Nat} {a b c d : Int32} {mem : MMt} (h : Inv n mem) : L_X9_law a b c d mem (fun r m => L_X10_law a b c d m (fun r' m' => r = r' ∧ Inv n m')) := by
  have T2 := h.th2
  have hS := h.2.1.1
  by_cases c1 : 0 ≤ a.toInt ∧ a.toInt ≤ 1
  · have u01 : a = 0 ∨ a = 1 := by
      simp only [eq_ti, Int32.reduceToInt]; omega
    simp only [L_X9_law, L_X9_isUse, within_sp, Int32.reduceToInt, if_pos c1, e10, not_false_eq_true, not_true_eq_false, false_implies, forall_const, true_and, and_true, eq_self, imp_self, true_implies]
    have M : ∀ (lq : Nat) (m : MMt), (lq = 17 ∨ lq = 20) → (∀ q, q ≠ lq → m q = mem q) → L_X10_law a b c d m (fun r' m' => gv (mem 77) a b c d = r' ∧ Inv n m') := by
      intro lq m hlq hm
      have f77 : m 77 = mem 77 := hm 77 (by omega)
      simp only [L_X10_law, isIn_sp, Int64.reduceToInt, if_pos c1, e10, not_false_eq_true, not_true_eq_false, false_implies, forall_const, true_and, and_true, eq_self, imp_self, true_implies]
      refine gives10 u01 (by rw [f77]; exact h.wl.1) (by rw [f77]; exact h.wl.2) _ fun m' k1 => ⟨by rw [f77], ?_⟩
      refine Inv_sc h (fun q hq => ?_) ?_ (MEM_congr h.mem (by rw [k1 21 (by decide) (by decide), hm 21 (by omega)]) fun _ _ => rfl)
      · unfold SC at hq
        rw [k1 q (by omega) (by omega), hm q (by omega)]
      · rw [k1 76 (by decide) (by decide), hm 76 (by omega)]; exact ⟨rfl, rfl, rfl⟩
    rcases u01 with rfl | rfl
    · refine ⟨fun e => absurd rfl e, fun _ => ?_⟩
      exact give9_0 (s := mem 77) T2.1.2.1 T2.1.1 T2.1.2.2.1 _ fun m' k1 => M 17 m' (Or.inl rfl) (fun q hq => k1 q hq)
    · refine ⟨fun _ => ?_, fun e => absurd e (by decide)⟩
      exact give9_1 (s := mem 77) T2.2.2.1 T2.2.1 T2.2.2.2 _ fun m' k1 => M 20 m' (Or.inr rfl) (fun q hq => k1 q hq)
  · simp only [L_X9_law, L_X9_isUse, within_sp, Int32.reduceToInt, if_neg c1, e10, not_false_eq_true, not_true_eq_false, false_implies, forall_const, true_and, and_true, eq_self, imp_self, true_implies]
    refine err_end h (by decide) (R := fun Q m => L_X10_law a b c d m Q) fun m Q hm he => ?_
    simp only [L_X10_law, isIn_sp, Int64.reduceToInt, if_neg c1, e10, not_false_eq_true, not_true_eq_false, false_implies, forall_const, true_and, and_true, eq_self, imp_self, true_implies]
    exact he
/-- whether a good ends on the ground t, by the row w of quakes -/
def lnd (s : Nat → Int32) (t : Int32) : Nat → Nat → (Nat → Int32) → Nat → Nat
  | 0, _, x, _ => if x 2 = t then 1 else 0
  | l + 1, 0, x, w => lnd s t l 0 (stp s x) w
  | l + 1, q + 1, x, w => lnd s t l q (stp s (phd x (Int32.ofNat (w % 3) - 1))) (w / 3)
def mo (s : Nat → Int32) (t : Int32) : Nat → Nat → (Nat → Int32) → Nat
  | 0, _, x => if x 2 = t then 1 else 0
  | l + 1, 0, x => mo s t l 0 (stp s x)
  | l + 1, q + 1, x => mo s t l q (stp s (phd x (-1))) + mo s t l q (stp s (phd x 0)) + mo s t l q (stp s (phd x 1))
def sumN (f : Nat → Nat) : Nat → Nat
  | 0 => 0
  | n + 1 => sumN f n + f n
theorem sum3 (f : Nat → Nat) : ∀ n, sumN f (3 * n) = sumN (fun w => f (3 * w)) n + sumN (fun w => f (3 * w + 1)) n + sumN (fun w => f (3 * w + 2)) n
  | 0 => rfl
  | n + 1 => by
    have ih := sum3 f n
    show sumN f (3 * n + 3) = (sumN (fun w => f (3 * w)) n + f (3 * n)) + (sumN (fun w => f (3 * w + 1)) n + f (3 * n + 1)) + (sumN (fun w => f (3 * w + 2)) n + f (3 * n + 2))
    have e : sumN f (3 * n + 3) = sumN f (3 * n) + f (3 * n) + f (3 * n + 1) + f (3 * n + 2) := rfl
    omega
theorem sum_congr {f g : Nat → Nat} : ∀ {n : Nat}, (∀ i, i < n → f i = g i) → sumN f n = sumN g n
  | 0, _ => rfl
  | n + 1, h => by
    show sumN f n + f n = sumN g n + g n
    rw [sum_congr (fun i hi => h i (by omega)), h n (by omega)]
theorem lnd_mo (s : Nat → Int32) (t : Int32) : ∀ (l q : Nat) (x : Nat → Int32), q ≤ l → sumN (lnd s t l q x) (3 ^ q) = mo s t l q x
  | 0, q, x, h => by
    obtain rfl : q = 0 := by omega
    show 0 + lnd s t 0 0 x 0 = _
    rw [Nat.zero_add]; rfl
  | l + 1, 0, x, h => by
    have ih := lnd_mo s t l 0 (stp s x) (by omega)
    exact ih
  | l + 1, q + 1, x, h => by
    rw [show 3 ^ (q + 1) = 3 * 3 ^ q by rw [Nat.pow_succ]; omega, sum3]
    have e0 : ∀ d, d < 3 → sumN (fun w => lnd s t (l + 1) (q + 1) x (3 * w + d)) (3 ^ q) = mo s t l q (stp s (phd x (Int32.ofNat d - 1))) := by
      intro d hd
      rw [← lnd_mo s t l q _ (by omega)]
      refine sum_congr fun w _ => ?_
      show lnd s t l q (stp s (phd x (Int32.ofNat ((3 * w + d) % 3) - 1))) ((3 * w + d) / 3) = _
      rw [show (3 * w + d) % 3 = d by omega, show (3 * w + d) / 3 = w by omega]
    have h0 := e0 0 (by decide)
    have h1 := e0 1 (by decide)
    have h2 := e0 2 (by decide)
    rw [show sumN (fun w => lnd s t (l + 1) (q + 1) x (3 * w)) (3 ^ q) = _ from h0, h1, h2]
    rfl
theorem lnd_le (s : Nat → Int32) (t : Int32) : ∀ (l q : Nat) (x : Nat → Int32) (w : Nat), lnd s t l q x w ≤ 1
  | 0, _, x, _ => by unfold lnd; split <;> omega
  | l + 1, 0, x, w => lnd_le s t l 0 _ w
  | l + 1, q + 1, x, w => lnd_le s t l q _ _
theorem sum_le {f : Nat → Nat} (h : ∀ i, f i ≤ 1) : ∀ n, sumN f n ≤ n
  | 0 => Nat.le_refl _
  | n + 1 => by
    have := sum_le h n
    have := h n
    show sumN f n + f n ≤ n + 1
    omega
theorem lnd_rs {s x : Nat → Int32} {t : Int32} (hr : RS s x) : ∀ (l w : Nat), lnd s t l 0 x w = if x 2 = t then 1 else 0
  | 0, _ => rfl
  | l + 1, w => by
    show lnd s t l 0 (stp s x) w = _
    rw [stp_rs hr]; exact lnd_rs hr l w
theorem dv3 {k : Nat} (h : k < 2147483648) : Int32.ofNat k / 3 = Int32.ofNat (k / 3) ∧ Int32.ofNat k - Int32.ofNat (k / 3) * 3 = Int32.ofNat (k % 3) := by
  have e : TI (Int32.ofNat k) k := on_ti h
  have e3 : TI (Int32.ofNat (k / 3)) (k / 3) := on_ti (by omega)
  have em : TI (Int32.ofNat (k % 3)) (k % 3) := on_ti (by omega)
  have t3 : (3 : Int32).toInt = 3 := by decide
  have d : (Int32.ofNat k / 3).toInt = (k / 3 : Nat) := by
    rw [dv_p (by rw [show (Int32.ofNat k).toInt = k from e]; omega) (by decide), show (Int32.ofNat k).toInt = k from e, t3]; omega
  refine ⟨by rw [eq_ti, d]; exact e3.symm, ?_⟩
  have m : TI (Int32.ofNat (k / 3) * 3) (k / 3 * 3) := TI.mul e3 (rfl : TI 3 3) (by omega)
  have r := TI.sub e m (by omega)
  rw [show k - k / 3 * 3 = k % 3 by omega] at r
  rw [eq_ti]
  exact (show (Int32.ofNat k - Int32.ofNat (k / 3) * 3).toInt = (k % 3 : Nat) from r).trans em.symm
theorem phd_0 {x : Nat → Int32} (h : GW x) : phd x 0 = x := by
  funext j
  unfold phd upd
  by_cases e : j = 3
  · rw [if_pos e, e, Int32.add_zero]
    unfold hld
    have := h.2.2.2.1
    rw [if_neg (by rw [Int32.lt_iff_toInt_lt]; simp only [Int32.reduceToInt]; omega), if_neg (by rw [Int32.lt_iff_toInt_lt]; simp only [Int32.reduceToInt]; omega)]
  · rw [if_neg e]
theorem quakes9 {w n N : Nat} {a : Int32} (hw : w < 1000) (hn : a.toInt = N) (hN : N ≤ 5) {s x : Nat → Int32} {t : Int32} {m : MMt} (hx : ∀ j, j < 5 → m 54 j = x j) (hg : GW x) (hT : TH s m) (Q : MMt → Prop)
    (h : ∀ m' : MMt, FrC s m m' → (if m' 54 2 = t then 1 else 0) = lnd s t 50 N x w → Q m') : L_X7_goThroughQuakes (Int32.ofNat w) a m Q := by
  generalize hR : lnd s t 50 N x w = R at h
  unfold L_X7_goThroughQuakes B_X7_goThroughQuakes_5
  refine LOOP_up 50 (fun k z => z.2.1 = Int32.ofNat k ∧ FrC s m z.2.2 ∧ ∃ (y : Nat → Int32) (v : Nat), z.1 = Int32.ofNat v ∧ v < 1000 ∧ (∀ j, j < 5 → z.2.2 54 j = y j) ∧ GW y ∧ lnd s t (50 - k) (N - k) y v = R) ⟨rfl, ⟨fun _ _ _ _ => rfl, hT.2.2.2⟩, x, w, rfl, hw, hx, hg, hR⟩ ?_ ?_
  · rintro k ⟨x3, i, m2⟩ X hk ⟨e1, e2, y, v, e3, e4, e5, e6, e7⟩ hX
    dsimp only at e1 e2 e3 e5 hX ⊢
    subst e1; subst e3
    have hk2 : TI (Int32.ofNat k) k := on_ti (by omega)
    have e50 : 50 - k = (50 - (k + 1)) + 1 := by omega
    refine ⟨fun d => absurd d (nle_of (n := 50) rfl hk2 hk), fun _ => ⟨fun d => ?_, fun d => ?_⟩⟩
    · have hkN : N ≤ k := by
        rw [Int32.le_iff_toInt_le, hn, show (Int32.ofNat k).toInt = k from hk2] at d; omega
      have nlt : ¬ Int32.ofNat k < a := by rw [Int32.lt_iff_toInt_lt, hn, show (Int32.ofNat k).toInt = k from hk2]; omega
      rw [show N - k = 0 by omega, e50] at e7
      have e7' : lnd s t (50 - (k + 1)) 0 (stp s y) v = R := e7
      refine goX9 (s := s) e5 e6 (TH_frC hT e2) _ fun m' g1 g2 => ⟨fun r => ⟨fun c => absurd rfl c, fun _ => ⟨fun c => absurd c nlt, fun _ => ?_⟩⟩, fun r => ⟨fun _ => ?_, fun c => absurd c (by decide)⟩⟩
      · refine h m' (e2.tr g1) ?_
        rw [g2 2 (by decide), ← e7', stp_rs r, lnd_rs r]
      · rintro v4 rfl
        exact hX _ ⟨on_1 k, e2.tr g1, stp s y, v, rfl, e4, g2, stp_GW e6, by rw [show N - (k + 1) = 0 by omega]; exact e7'⟩
    · have hkN : k < N := by
        rcases Nat.lt_or_ge k N with z | z
        · exact z
        · exact absurd (le_of hn hk2 z) d
      have lt : Int32.ofNat k < a := by rw [Int32.lt_iff_toInt_lt, hn, show (Int32.ofNat k).toInt = k from hk2]; omega
      obtain ⟨d1, d2⟩ := dv3 (k := v) (by omega)
      rw [show N - k = (N - (k + 1)) + 1 by omega, e50] at e7
      have e7' : lnd s t (50 - (k + 1)) (N - (k + 1)) (stp s (phd y (Int32.ofNat (v % 3) - 1))) (v / 3) = R := e7
      rw [d1, d2]
      refine shove9 _ ?_
      rintro v4 rfl
      have y54 : ∀ j, j < 5 → up2 m2 54 3 (hld (m2 54 3 + (Int32.ofNat (v % 3) - 1)) (-9) 9) 54 j = phd y (Int32.ofNat (v % 3) - 1) j := fun j hj => by
        rw [e5 3 (by decide)]; exact upd_row e5 3 _ j hj
      have f54 := FrC_54 e2.2 3 (hld (m2 54 3 + (Int32.ofNat (v % 3) - 1)) (-9) 9)
      refine goX9 (s := s) y54 (phd_GW e6 _) (TH_frC hT (e2.tr f54)) _ fun m' g1 g2 => ?_
      have go : ∀ v4 : Int32, v4 = Int32.ofNat k + 1 → X (Int32.ofNat (v / 3), v4, m') := by
        rintro v4 rfl
        exact hX _ ⟨on_1 k, (e2.tr f54).tr g1, _, v / 3, rfl, by omega, g2, stp_GW (phd_GW e6 _), e7'⟩
      exact ⟨fun _ => ⟨fun _ => go, fun _ => ⟨fun _ => go, fun c => absurd lt c⟩⟩, fun _ => ⟨fun _ => go, fun _ => ⟨fun _ => go, fun c => absurd lt c⟩⟩⟩
  · rintro ⟨x3, i, m2⟩ X ⟨e1, e2, y, v, e3, e4, e5, e6, e7⟩
    dsimp only at e1 e2 e3 e5 ⊢
    subst e1; subst e3
    rw [show 50 - 50 = 0 by omega] at e7
    have e7' : (if y 2 = t then 1 else 0) = R := by
      rw [← e7]; cases (N - 50) <;> rfl
    exact ⟨fun _ => h m2 e2 (by rw [e5 2 (by decide)]; exact e7'), fun d => absurd (by decide) d⟩
theorem land9 {q N : Nat} {a sd : Int32} (hn : a.toInt = N) (hN : N ≤ 5) {s x : Nat → Int32} {t : Int32} (ht : sd * 40 = t) {m : MMt} (hq : q ≠ 54) (hq1 : q ≠ 21) (hq2 : q ≠ 17) (hx : ∀ j, j < 5 → m q j = x j) (hg : GW x) (hT : TH s m) (Q : Int32 → MMt → Prop)
    (h : ∀ m' : MMt, FrC s m m' → Q (Int32.ofNat (mo s t 50 N x)) m') : L_X7_landings q sd a (Int32.ofNat (3 ^ N)) m Q := by
  have p243 : 3 ^ N ≤ 243 := by
    have : N = 0 ∨ N = 1 ∨ N = 2 ∨ N = 3 ∨ N = 4 ∨ N = 5 := by omega
    rcases this with rfl | rfl | rfl | rfl | rfl | rfl <;> decide
  rw [← lnd_mo s t 50 N x (by omega)] at h
  have hle := sum_le (lnd_le s t 50 N x)
  generalize 3 ^ N = W at h p243
  have hW2 : TI (Int32.ofNat W) W := on_ti (by omega)
  unfold L_X7_landings B_X7_landings_6
  refine LOOP_up W (fun w z => z.2.1 = Int32.ofNat w ∧ z.1 = Int32.ofNat (sumN (lnd s t 50 N x) w) ∧ FrC s m z.2.2) ⟨rfl, rfl, fun _ _ _ _ => rfl, hT.2.2.2⟩ ?_ ?_
  · rintro w ⟨x5, i, m2⟩ X hw ⟨e1, e2, e3⟩ hX
    dsimp only at e1 e2 e3 hX ⊢
    subst e1; subst e2
    have hw2 : TI (Int32.ofNat w) w := on_ti (by omega)
    refine ⟨fun d => absurd d (nle_of hW2 hw2 hw), fun _ => ?_⟩
    refine copyX9 (s := s) (x := x) hq (fun j hj => by rw [e3.1 q hq1 hq2 hq]; exact hx j hj) e3.2 _ fun m3 f1 x1 => ?_
    refine quakes9 (n := 0) (t := t) (by omega) hn hN x1 hg (TH_frC (TH_frC hT e3) f1) _ fun m' k1 k2 => ?_
    rw [ht]
    have key : ∀ r : Int32, r = Int32.ofNat (lnd s t 50 N x w) → B_X7_landings_49 q X q sd a (Int32.ofNat W) (Int32.ofNat w) r (Int32.ofNat (sumN (lnd s t 50 N x) w)) m' Q := by
      rintro r rfl v1 rfl v2 rfl
      refine hX _ ⟨on_1 w, ?_, (e3.tr f1).tr k1⟩
      show _ = Int32.ofNat (sumN (lnd s t 50 N x) w + lnd s t 50 N x w)
      rw [Int32.ofNat_add]
    exact ⟨fun c => key 0 (by rw [if_neg c] at k2; rw [← k2]; rfl), fun c => key 1 (by rw [if_pos c] at k2; rw [← k2]; rfl)⟩
  · rintro ⟨x5, i, m2⟩ X ⟨e1, e2, e3⟩
    dsimp only at e1 e2 e3 ⊢
    subst e1; subst e2
    exact ⟨fun _ => h m2 e3, fun d => absurd (by rw [Int32.le_iff_toInt_le]; omega) d⟩
