abbrev Sst : Type := Option (Int32 × (Nat → Int32))
def abv (x : Int32) : Int32 := if 0 ≤ x then x else -x
def upS (st : Sst) (sum : Int32) (pr : Nat → Int32) : Sst := match st with
  | none => some (sum, pr)
  | some (b, q) => if sum < b then some (sum, pr) else some (b, q)
theorem upS_nn (st : Sst) (sum : Int32) (pr : Nat → Int32) : upS st sum pr ≠ none := by
  unfold upS
  cases st with
  | none => simp
  | some x => obtain ⟨b, q⟩ := x; dsimp only; split <;> simp
def setT (T : Nat → Bool) (h : Nat) : Nat → Bool := fun x => decide (x = h) || T x
def bfd (F : Nat → Sst → Sst) (T : Nat → Bool) : List Nat → Sst → Sst
  | [], st => st
  | h :: hs, st => bfd F T hs (if T h = true then st else F h st)
/-- over all the ways to pair: the first least SUM among those with most pairs -/
def bst (LD : Nat → Int32) (U : List Nat) (most : Nat) : List Nat → (Nat → Bool) → Nat → Int32 → (Nat → Int32) → Sst → Sst
  | [], _, c, sum, pr, st => if most ≤ c then upS st sum pr else st
  | l :: ls, T, c, sum, pr, st => bst LD U most ls T c sum pr (bfd (fun h z => bst LD U most ls (setT T h) (c + 1) (sum + abv (LD l - LD h)) (upd pr l (Int32.ofNat h)) z) T U st)
theorem bfd_id {F : Nat → Sst → Sst} (hF : ∀ h z, F h z = z) (T : Nat → Bool) : ∀ (U : List Nat) (st : Sst), bfd F T U st = st
  | [], _ => rfl
  | h :: hs, st => by
    show bfd F T hs (if T h = true then st else F h st) = st
    rw [hF, ite_self]; exact bfd_id hF T hs st
theorem bst_pr {LD : Nat → Int32} {U : List Nat} {most : Nat} : ∀ (ls : List Nat) (T : Nat → Bool) (c : Nat) (sum : Int32) (pr : Nat → Int32) (st : Sst), c + ls.length < most → bst LD U most ls T c sum pr st = st
  | [], T, c, sum, pr, st, h => if_neg (by simp at h; omega)
  | l :: ls, T, c, sum, pr, st, h => by
    rw [List.length_cons] at h
    show bst LD U most ls T c sum pr _ = st
    rw [bst_pr ls T c sum pr _ (by omega)]
    exact bfd_id (fun h z => bst_pr ls _ _ _ _ _ (by omega)) T U st
theorem bfd_mn {F : Nat → Sst → Sst} (hF : ∀ h z, z ≠ none → F h z ≠ none) (T : Nat → Bool) : ∀ (U : List Nat) (st : Sst), st ≠ none → bfd F T U st ≠ none
  | [], _, h => h
  | h :: hs, st, hs2 => by
    show bfd F T hs (if T h = true then st else F h st) ≠ none
    refine bfd_mn hF T hs _ ?_
    split
    · exact hs2
    · exact hF h st hs2
theorem bst_mn {LD : Nat → Int32} {U : List Nat} {most : Nat} : ∀ (ls : List Nat) (T : Nat → Bool) (c : Nat) (sum : Int32) (pr : Nat → Int32) (st : Sst), st ≠ none → bst LD U most ls T c sum pr st ≠ none
  | [], T, c, sum, pr, st, h => by
    show (if most ≤ c then upS st sum pr else st) ≠ none
    split
    · exact upS_nn _ _ _
    · exact h
  | l :: ls, T, c, sum, pr, st, h => bst_mn ls _ _ _ _ _ (bfd_mn (fun h z hz => bst_mn ls _ _ _ _ _ hz) T U st h)
def fre (T : Nat → Bool) : List Nat → Nat
  | [] => 0
  | h :: hs => (if T h = true then 0 else 1) + fre T hs
theorem fre_ni {T : Nat → Bool} {h : Nat} : ∀ {U : List Nat}, h ∉ U → fre (setT T h) U = fre T U
  | [], _ => rfl
  | x :: xs, hn => by
    have h1 : x ≠ h := fun e => hn (by rw [e]; exact List.mem_cons_self)
    have h2 : h ∉ xs := fun e => hn (List.mem_cons_of_mem _ e)
    show (if setT T h x = true then 0 else 1) + fre (setT T h) xs = (if T x = true then 0 else 1) + fre T xs
    rw [fre_ni h2, show setT T h x = T x by unfold setT; simp [h1]]
theorem fre_set {T : Nat → Bool} {h : Nat} (hT : T h = false) : ∀ {U : List Nat}, U.Nodup → h ∈ U → fre (setT T h) U + 1 = fre T U
  | [], _, hm => absurd hm (by simp)
  | x :: xs, hd, hm => by
    rw [List.nodup_cons] at hd
    show (if setT T h x = true then 0 else 1) + fre (setT T h) xs + 1 = (if T x = true then 0 else 1) + fre T xs
    by_cases e : x = h
    · subst e
      rw [fre_ni hd.1, if_pos (by unfold setT; simp), if_neg (by rw [hT]; decide)]; omega
    · have h2 : h ∈ xs := by
        rcases List.mem_cons.mp hm with w | w
        · exact absurd w.symm e
        · exact w
      have := fre_set hT hd.2 h2
      rw [show setT T h x = T x by unfold setT; simp [e]]; omega
theorem fre_pos {T : Nat → Bool} : ∀ {U : List Nat}, 0 < fre T U → ∃ h, h ∈ U ∧ T h = false
  | [], h => absurd h (by unfold fre; omega)
  | x :: xs, h => by
    by_cases e : T x = true
    · have h' : 0 < (if T x = true then 0 else 1) + fre T xs := h
      rw [if_pos e] at h'
      obtain ⟨y, h1, h2⟩ := fre_pos (T := T) (U := xs) (by omega)
      exact ⟨y, List.mem_cons_of_mem _ h1, h2⟩
    · exact ⟨x, List.mem_cons_self, by simpa using e⟩
theorem bfd_nn {F : Nat → Sst → Sst} (hF : ∀ h z, z ≠ none → F h z ≠ none) (T : Nat → Bool) {y : Nat} (hy : T y = false) (hFy : ∀ z, F y z ≠ none) : ∀ (U : List Nat) (st : Sst), y ∈ U → bfd F T U st ≠ none
  | [], _, h => absurd h (by simp)
  | h :: hs, st, hm => by
    show bfd F T hs (if T h = true then st else F h st) ≠ none
    by_cases e : y = h
    · subst e
      rw [if_neg (by rw [hy]; decide)]
      exact bfd_mn hF T hs _ (hFy st)
    · rcases List.mem_cons.mp hm with w | w
      · exact absurd w e
      · exact bfd_nn hF T hy hFy hs _ w
theorem bst_nn {LD : Nat → Int32} {U : List Nat} (hU : U.Nodup) {most : Nat} (hm : most ≤ U.length) : ∀ (ls : List Nat) (T : Nat → Bool) (c : Nat) (sum : Int32) (pr : Nat → Int32) (st : Sst), most ≤ c + ls.length → c + fre T U = U.length → bst LD U most ls T c sum pr st ≠ none
  | [], T, c, sum, pr, st, h, _ => by
    show (if most ≤ c then upS st sum pr else st) ≠ none
    rw [if_pos (by simpa using h)]
    exact upS_nn _ _ _
  | l :: ls, T, c, sum, pr, st, h, h2 => by
    rw [List.length_cons] at h
    by_cases e : fre T U = 0
    · exact bst_nn hU hm ls T c sum pr _ (by omega) h2
    · obtain ⟨y, y1, y2⟩ := fre_pos (T := T) (U := U) (by omega)
      have := fre_set y2 hU y1
      exact bst_mn ls _ _ _ _ _ (bfd_nn (fun h z hz => bst_mn ls _ _ _ _ _ hz) T y2 (fun z => bst_nn hU hm ls _ _ _ _ _ (by omega) (by omega)) U st y1)
/-- those of P from g on, k of them looked at -/
def lowl (P : Nat → Bool) : Nat → Nat → List Nat
  | 0, _ => []
  | k + 1, g => if P g = true then g :: lowl P k (g + 1) else lowl P k (g + 1)
theorem lowl_mem {P : Nat → Bool} {x : Nat} : ∀ {k g : Nat}, x ∈ lowl P k g ↔ g ≤ x ∧ x < g + k ∧ P x = true
  | 0, g => by
    unfold lowl; simp; omega
  | k + 1, g => by
    unfold lowl
    split
    · rename_i h
      rw [List.mem_cons, lowl_mem (k := k)]
      constructor
      · rintro (rfl | ⟨h1, h2, h3⟩)
        · exact ⟨by omega, by omega, h⟩
        · exact ⟨by omega, by omega, h3⟩
      · rintro ⟨h1, h2, h3⟩
        by_cases e : x = g
        · exact Or.inl e
        · exact Or.inr ⟨by omega, by omega, h3⟩
    · rename_i h
      rw [lowl_mem (k := k)]
      constructor
      · rintro ⟨h1, h2, h3⟩; exact ⟨by omega, by omega, h3⟩
      · rintro ⟨h1, h2, h3⟩
        have : x ≠ g := fun e => h (by rw [← e]; exact h3)
        exact ⟨by omega, by omega, h3⟩
theorem lowl_nd {P : Nat → Bool} : ∀ {k g : Nat}, (lowl P k g).Nodup
  | 0, g => List.nodup_nil
  | k + 1, g => by
    unfold lowl
    split
    · exact List.nodup_cons.mpr ⟨fun h => by have := (lowl_mem.mp h).1; omega, lowl_nd⟩
    · exact lowl_nd
theorem lowl_le {P : Nat → Bool} : ∀ {k g : Nat}, (lowl P k g).length ≤ k
  | 0, g => Nat.le_refl _
  | k + 1, g => by
    unfold lowl
    have := lowl_le (P := P) (k := k) (g := g + 1)
    split
    · rw [List.length_cons]; omega
    · omega
theorem lowl_app {P : Nat → Bool} : ∀ {k j g : Nat}, lowl P (k + j) g = lowl P k g ++ lowl P j (g + k)
  | 0, j, g => by rw [Nat.zero_add]; rfl
  | k + 1, j, g => by
    rw [show k + 1 + j = (k + j) + 1 by omega]
    show (if P g = true then g :: lowl P (k + j) (g + 1) else lowl P (k + j) (g + 1)) = (if P g = true then g :: lowl P k (g + 1) else lowl P k (g + 1)) ++ lowl P j (g + (k + 1))
    rw [lowl_app (k := k) (j := j) (g := g + 1), show g + 1 + k = g + (k + 1) by omega]
    split <;> rfl
