abbrev NX : Nat := 91
theorem shk_0 : SH 0 = (9 + 10, 12) := by decide +kernel
theorem shk_1 : SH 1 = (0 + 10, 4) := by decide +kernel
theorem shk_2 : SH 2 = (2, 8) := by decide +kernel
theorem shk_3 : SH 3 = (1 + 10, 5) := by decide +kernel
theorem shk_4 : SH 4 = (1 + 10, 5) := by decide +kernel
theorem shk_5 : SH 5 = (1 + 10, 5) := by decide +kernel
theorem shk_6 : SH 6 = (1 + 10, 5) := by decide +kernel
theorem shk_7 : SH 7 = (1 + 10, 5) := by decide +kernel
theorem shk_8 : SH 8 = (1 + 10, 5) := by decide +kernel
theorem shk_9 : SH 9 = (1 + 10, 5) := by decide +kernel
theorem shk_10 : SH 10 = (1 + 10, 5) := by decide +kernel
theorem shk_11 : SH 11 = (5 + 10, 10) := by decide +kernel
theorem shk_12 : SH 12 = (0, 2) := by decide +kernel
theorem shk_13 : SH 13 = (1, 50) := by decide +kernel
theorem shk_14 : SH 14 = (0, 20) := by decide +kernel
theorem shk_15 : SH 15 = (2 + 10, 4) := by decide +kernel
theorem shk_16 : SH 16 = (0, 50) := by decide +kernel
theorem shk_17 : SH 17 = (0, 50) := by decide +kernel
theorem shk_18 : SH 18 = (2 + 10, 4) := by decide +kernel
theorem shk_19 : SH 19 = (0, 50) := by decide +kernel
theorem shk_20 : SH 20 = (0, 50) := by decide +kernel
theorem shk_21 : SH 21 = (1, 410) := by decide +kernel
theorem shk_22 : SH 22 = (0 + 10, 4) := by decide +kernel
theorem shk_23 : SH 23 = (2, 8) := by decide +kernel
theorem shk_24 : SH 24 = (1 + 10, 5) := by decide +kernel
theorem shk_25 : SH 25 = (1 + 10, 5) := by decide +kernel
theorem shk_26 : SH 26 = (1 + 10, 5) := by decide +kernel
theorem shk_27 : SH 27 = (1 + 10, 5) := by decide +kernel
theorem shk_28 : SH 28 = (1 + 10, 5) := by decide +kernel
theorem shk_29 : SH 29 = (1 + 10, 5) := by decide +kernel
theorem shk_30 : SH 30 = (1 + 10, 5) := by decide +kernel
theorem shk_31 : SH 31 = (1 + 10, 5) := by decide +kernel
theorem shk_32 : SH 32 = (5 + 10, 10) := by decide +kernel
theorem shk_33 : SH 33 = (0, 2) := by decide +kernel
theorem shk_34 : SH 34 = (1, 50) := by decide +kernel
theorem shk_35 : SH 35 = (0, 20) := by decide +kernel
theorem shk_36 : SH 36 = (2 + 10, 4) := by decide +kernel
theorem shk_37 : SH 37 = (0, 50) := by decide +kernel
theorem shk_38 : SH 38 = (0, 50) := by decide +kernel
theorem shk_39 : SH 39 = (2 + 10, 4) := by decide +kernel
theorem shk_40 : SH 40 = (0, 50) := by decide +kernel
theorem shk_41 : SH 41 = (0, 50) := by decide +kernel
theorem shk_42 : SH 42 = (1, 410) := by decide +kernel
theorem shk_43 : SH 43 = (0 + 10, 4) := by decide +kernel
theorem shk_44 : SH 44 = (2, 8) := by decide +kernel
theorem shk_45 : SH 45 = (1 + 10, 5) := by decide +kernel
theorem shk_46 : SH 46 = (1 + 10, 5) := by decide +kernel
theorem shk_47 : SH 47 = (1 + 10, 5) := by decide +kernel
theorem shk_48 : SH 48 = (1 + 10, 5) := by decide +kernel
theorem shk_49 : SH 49 = (1 + 10, 5) := by decide +kernel
theorem shk_50 : SH 50 = (1 + 10, 5) := by decide +kernel
theorem shk_51 : SH 51 = (1 + 10, 5) := by decide +kernel
theorem shk_52 : SH 52 = (1 + 10, 5) := by decide +kernel
theorem shk_53 : SH 53 = (7 + 10, 2) := by decide +kernel
theorem shk_54 : SH 54 = (1 + 10, 5) := by decide +kernel
theorem shk_55 : SH 55 = (4 + 10, 6) := by decide +kernel
theorem shk_56 : SH 56 = (0, 50) := by decide +kernel
theorem shk_57 : SH 57 = (1, 0) := by decide +kernel
theorem shk_58 : SH 58 = (3 + 10, 9) := by decide +kernel
theorem shk_59 : SH 59 = (0, 8) := by decide +kernel
theorem shk_60 : SH 60 = (0, 8) := by decide +kernel
theorem shk_61 : SH 61 = (0, 8) := by decide +kernel
theorem shk_62 : SH 62 = (0, 8) := by decide +kernel
theorem shk_63 : SH 63 = (0, 8) := by decide +kernel
theorem shk_64 : SH 64 = (8 + 10, 5) := by decide +kernel
theorem shk_65 : SH 65 = (0, 40) := by decide +kernel
theorem shk_66 : SH 66 = (3, 4) := by decide +kernel
theorem shk_67 : SH 67 = (0, 6) := by decide +kernel
theorem shk_68 : SH 68 = (6 + 10, 3) := by decide +kernel
theorem shk_69 : SH 69 = (0, 40) := by decide +kernel
theorem shk_70 : SH 70 = (6 + 10, 3) := by decide +kernel
theorem shk_71 : SH 71 = (0, 40) := by decide +kernel
theorem shk_72 : SH 72 = (6 + 10, 3) := by decide +kernel
theorem shk_73 : SH 73 = (0, 40) := by decide +kernel
theorem shk_74 : SH 74 = (6 + 10, 3) := by decide +kernel
theorem shk_75 : SH 75 = (0, 40) := by decide +kernel
theorem shk_76 : SH 76 = (10 + 10, 29) := by decide +kernel
theorem shk_77 : SH 77 = (0, 322) := by decide +kernel
theorem shk_78 : SH 78 = (0, 322) := by decide +kernel
theorem shk_79 : SH 79 = (0, 6) := by decide +kernel
theorem shk_80 : SH 80 = (0, 100) := by decide +kernel
theorem shk_81 : SH 81 = (0, 50) := by decide +kernel
theorem shk_82 : SH 82 = (0, 3) := by decide +kernel
theorem shk_83 : SH 83 = (0, 42) := by decide +kernel
theorem shk_84 : SH 84 = (0, 8) := by decide +kernel
theorem shk_85 : SH 85 = (0, 8) := by decide +kernel
theorem shk_86 : SH 86 = (0, 4) := by decide +kernel
theorem shk_87 : SH 87 = (0, 4) := by decide +kernel
theorem shk_88 : SH 88 = (0, 160) := by decide +kernel
theorem shk_89 : SH 89 = (0, 40) := by decide +kernel
theorem shk_90 : SH 90 = (0, 40) := by decide +kernel
theorem ltk_0 : 0 < NX := by decide
theorem ltk_1 : 1 < NX := by decide
theorem ltk_2 : 2 < NX := by decide
theorem ltk_3 : 3 < NX := by decide
theorem ltk_4 : 4 < NX := by decide
theorem ltk_5 : 5 < NX := by decide
theorem ltk_6 : 6 < NX := by decide
theorem ltk_7 : 7 < NX := by decide
theorem ltk_8 : 8 < NX := by decide
theorem ltk_9 : 9 < NX := by decide
theorem ltk_10 : 10 < NX := by decide
theorem ltk_11 : 11 < NX := by decide
theorem ltk_12 : 12 < NX := by decide
theorem ltk_13 : 13 < NX := by decide
theorem ltk_14 : 14 < NX := by decide
theorem ltk_15 : 15 < NX := by decide
theorem ltk_16 : 16 < NX := by decide
theorem ltk_17 : 17 < NX := by decide
theorem ltk_18 : 18 < NX := by decide
theorem ltk_19 : 19 < NX := by decide
theorem ltk_20 : 20 < NX := by decide
theorem ltk_21 : 21 < NX := by decide
theorem ltk_22 : 22 < NX := by decide
theorem ltk_23 : 23 < NX := by decide
theorem ltk_24 : 24 < NX := by decide
theorem ltk_25 : 25 < NX := by decide
theorem ltk_26 : 26 < NX := by decide
theorem ltk_27 : 27 < NX := by decide
theorem ltk_28 : 28 < NX := by decide
theorem ltk_29 : 29 < NX := by decide
theorem ltk_30 : 30 < NX := by decide
theorem ltk_31 : 31 < NX := by decide
theorem ltk_32 : 32 < NX := by decide
theorem ltk_33 : 33 < NX := by decide
theorem ltk_34 : 34 < NX := by decide
theorem ltk_35 : 35 < NX := by decide
theorem ltk_36 : 36 < NX := by decide
theorem ltk_37 : 37 < NX := by decide
theorem ltk_38 : 38 < NX := by decide
theorem ltk_39 : 39 < NX := by decide
theorem ltk_40 : 40 < NX := by decide
theorem ltk_41 : 41 < NX := by decide
theorem ltk_42 : 42 < NX := by decide
theorem ltk_43 : 43 < NX := by decide
theorem ltk_44 : 44 < NX := by decide
theorem ltk_45 : 45 < NX := by decide
theorem ltk_46 : 46 < NX := by decide
theorem ltk_47 : 47 < NX := by decide
theorem ltk_48 : 48 < NX := by decide
theorem ltk_49 : 49 < NX := by decide
theorem ltk_50 : 50 < NX := by decide
theorem ltk_51 : 51 < NX := by decide
theorem ltk_52 : 52 < NX := by decide
theorem ltk_53 : 53 < NX := by decide
theorem ltk_54 : 54 < NX := by decide
theorem ltk_55 : 55 < NX := by decide
theorem ltk_56 : 56 < NX := by decide
theorem ltk_57 : 57 < NX := by decide
theorem ltk_58 : 58 < NX := by decide
theorem ltk_59 : 59 < NX := by decide
theorem ltk_60 : 60 < NX := by decide
theorem ltk_61 : 61 < NX := by decide
theorem ltk_62 : 62 < NX := by decide
theorem ltk_63 : 63 < NX := by decide
theorem ltk_64 : 64 < NX := by decide
theorem ltk_65 : 65 < NX := by decide
theorem ltk_66 : 66 < NX := by decide
theorem ltk_67 : 67 < NX := by decide
theorem ltk_68 : 68 < NX := by decide
theorem ltk_69 : 69 < NX := by decide
theorem ltk_70 : 70 < NX := by decide
theorem ltk_71 : 71 < NX := by decide
theorem ltk_72 : 72 < NX := by decide
theorem ltk_73 : 73 < NX := by decide
theorem ltk_74 : 74 < NX := by decide
theorem ltk_75 : 75 < NX := by decide
theorem ltk_76 : 76 < NX := by decide
theorem ltk_77 : 77 < NX := by decide
theorem ltk_78 : 78 < NX := by decide
theorem ltk_79 : 79 < NX := by decide
theorem ltk_80 : 80 < NX := by decide
theorem ltk_81 : 81 < NX := by decide
theorem ltk_82 : 82 < NX := by decide
theorem ltk_83 : 83 < NX := by decide
theorem ltk_84 : 84 < NX := by decide
theorem ltk_85 : 85 < NX := by decide
theorem ltk_86 : 86 < NX := by decide
theorem ltk_87 : 87 < NX := by decide
theorem ltk_88 : 88 < NX := by decide
theorem ltk_89 : 89 < NX := by decide
theorem ltk_90 : 90 < NX := by decide
def RFl : List (List (Option Nat)) := [[some 1, some 11, some 22, some 32, some 43, some 53, some 55, some 58, some 64, some 66, some 67, none], [some 2, none, none, none], [some 3, some 4, some 5, some 6, some 7, some 8, some 9, some 10], [none, none, none, none, none], [none, none, none, none, none], [none, none, none, none, none], [none, none, none, none, none], [none, none, none, none, none], [none, none, none, none, none], [none, none, none, none, none], [none, none, none, none, none], [none, some 12, none, some 13, none, some 14, none, some 15, some 18, some 21], [], [], [], [none, some 16, none, some 17], [], [], [none, some 19, none, some 20], [], [], [], [some 23, none, none, none], [some 24, some 25, some 26, some 27, some 28, some 29, some 30, some 31], [none, none, none, none, none], [none, none, none, none, none], [none, none, none, none, none], [none, none, none, none, none], [none, none, none, none, none], [none, none, none, none, none], [none, none, none, none, none], [none, none, none, none, none], [none, some 33, none, some 34, none, some 35, none, some 36, some 39, some 42], [], [], [], [none, some 37, none, some 38], [], [], [none, some 40, none, some 41], [], [], [], [some 44, none, none, none], [some 45, some 46, some 47, some 48, some 49, some 50, some 51, some 52], [none, none, none, none, none], [none, none, none, none, none], [none, none, none, none, none], [none, none, none, none, none], [none, none, none, none, none], [none, none, none, none, none], [none, none, none, none, none], [none, none, none, none, none], [some 54, some 11], [none, none, none, none, none], [some 56, none, some 57, none, none, some 1004], [], [], [some 59, some 60, some 61, some 62, none, none, none, none, some 63], [], [], [], [], [], [some 65, none, none, none, none], [], [some 68, some 70, some 72, some 74], [], [none, none, some 69], [], [none, none, some 71], [], [none, none, some 73], [], [none, none, some 75], [], [some 77, some 78, none, none, some 79, none, none, none, none, some 80, some 81, some 82, none, none, some 83, none, some 84, some 85, none, none, some 86, some 87, some 88, some 89, none, none, none, none, some 90], [], [], [], [], [], [], [], [], [], [], [], [], [], []]
def RF (a j : Nat) : Option Nat := (RFl.getD a []).getD j none
def RFok (rf : RFt) : Prop := ∀ a j, a < NX → ¬ (a = 55 ∧ (j = 2 ∨ j = 5)) → rf a j = RF a j
theorem RF_lt {a j t : Nat} (h : RF a j = some t) : a < NX := by
  rcases Nat.lt_or_ge a NX with q | q
  · exact q
  · exfalso
    have e : RFl[a]? = none := List.getElem?_eq_none (by rw [show RFl.length = NX by decide +kernel]; exact q)
    unfold RF at h
    rw [List.getD_eq_getElem?_getD (l := RFl), e] at h
    simp at h
def RFr (b : Nat) (rf : RFt) : Prop := RFok rf ∧ rf 55 2 = some 13 ∧ rf 55 5 = some (1002 + b)
theorem RFok.lit {rf : RFt} (h : RFok rf) (a j : Nat) {t : Nat} (ht : (if a = 55 ∧ (j = 2 ∨ j = 5) then none else RF a j) = some t) : rf a j = some t := by
  by_cases c : a = 55 ∧ (j = 2 ∨ j = 5)
  · rw [if_pos c] at ht; cases ht
  · rw [if_neg c] at ht; rw [h a j (RF_lt ht) c]; exact ht
/-- an object of class ci -/
def IS (ci q : Nat) : Prop := (SH q).1 = ci + 10 ∧ q < NX
theorem IS_lit {k ci n : Nat} (hs : SH k = (ci + 10, n)) (hl : k < NX) : IS ci k := ⟨by rw [hs], hl⟩
theorem is_all0 : ∀ q, q < NX → (SH q).1 = 0 + 10 → SH q = (0 + 10, 4) := by decide +kernel
theorem IS.sh0 {q : Nat} (h : IS 0 q) : SH q = (0 + 10, 4) := is_all0 q h.2 h.1
theorem is_all1 : ∀ q, q < NX → (SH q).1 = 1 + 10 → SH q = (1 + 10, 5) := by decide +kernel
theorem IS.sh1 {q : Nat} (h : IS 1 q) : SH q = (1 + 10, 5) := is_all1 q h.2 h.1
theorem is_all2 : ∀ q, q < NX → (SH q).1 = 2 + 10 → SH q = (2 + 10, 4) := by decide +kernel
theorem IS.sh2 {q : Nat} (h : IS 2 q) : SH q = (2 + 10, 4) := is_all2 q h.2 h.1
theorem is_all3 : ∀ q, q < NX → (SH q).1 = 3 + 10 → SH q = (3 + 10, 9) := by decide +kernel
theorem IS.sh3 {q : Nat} (h : IS 3 q) : SH q = (3 + 10, 9) := is_all3 q h.2 h.1
theorem is_all4 : ∀ q, q < NX → (SH q).1 = 4 + 10 → SH q = (4 + 10, 6) := by decide +kernel
theorem IS.sh4 {q : Nat} (h : IS 4 q) : SH q = (4 + 10, 6) := is_all4 q h.2 h.1
theorem is_all5 : ∀ q, q < NX → (SH q).1 = 5 + 10 → SH q = (5 + 10, 10) := by decide +kernel
theorem IS.sh5 {q : Nat} (h : IS 5 q) : SH q = (5 + 10, 10) := is_all5 q h.2 h.1
theorem is_all6 : ∀ q, q < NX → (SH q).1 = 6 + 10 → SH q = (6 + 10, 3) := by decide +kernel
theorem IS.sh6 {q : Nat} (h : IS 6 q) : SH q = (6 + 10, 3) := is_all6 q h.2 h.1
theorem is_all7 : ∀ q, q < NX → (SH q).1 = 7 + 10 → SH q = (7 + 10, 2) := by decide +kernel
theorem IS.sh7 {q : Nat} (h : IS 7 q) : SH q = (7 + 10, 2) := is_all7 q h.2 h.1
theorem is_all8 : ∀ q, q < NX → (SH q).1 = 8 + 10 → SH q = (8 + 10, 5) := by decide +kernel
theorem IS.sh8 {q : Nat} (h : IS 8 q) : SH q = (8 + 10, 5) := is_all8 q h.2 h.1
theorem is_all9 : ∀ q, q < NX → (SH q).1 = 9 + 10 → SH q = (9 + 10, 12) := by decide +kernel
theorem IS.sh9 {q : Nat} (h : IS 9 q) : SH q = (9 + 10, 12) := is_all9 q h.2 h.1
theorem is_all10 : ∀ q, q < NX → (SH q).1 = 10 + 10 → SH q = (10 + 10, 29) := by decide +kernel
theorem IS.sh10 {q : Nat} (h : IS 10 q) : SH q = (10 + 10, 29) := is_all10 q h.2 h.1
theorem lay_all_0_0 : ∀ q, q < NX → (SH q).1 = 0 + 10 → SH (q + 1) = (2, 8) ∧ q + 1 < NX ∧ RF q 0 = some (q + 1) := by decide +kernel
theorem lay_0_0 {q : Nat} (h : IS 0 q) : SH (q + 1) = (2, 8) ∧ q + 1 < NX ∧ ∀ {rf : RFt}, RFok rf → rf q 0 = some (q + 1) := by
  obtain ⟨h1, h2, h3⟩ := lay_all_0_0 q h.2 h.1
  have h9 : ∀ {rf : RFt}, RFok rf → rf q 0 = some (q + 1) := fun hrf => (hrf q 0 h.2 (fun c => by have e := h.1; rw [c.1] at e; exact absurd e (by decide +kernel))).trans h3
  exact ⟨h1, h2, h9⟩
theorem lay_all_2_1 : ∀ q, q < NX → (SH q).1 = 2 + 10 → SH (q + 1) = (0, 50) ∧ q + 1 < NX ∧ RF q 1 = some (q + 1) := by decide +kernel
theorem lay_2_1 {q : Nat} (h : IS 2 q) : SH (q + 1) = (0, 50) ∧ q + 1 < NX ∧ ∀ {rf : RFt}, RFok rf → rf q 1 = some (q + 1) := by
  obtain ⟨h1, h2, h3⟩ := lay_all_2_1 q h.2 h.1
  have h9 : ∀ {rf : RFt}, RFok rf → rf q 1 = some (q + 1) := fun hrf => (hrf q 1 h.2 (fun c => by have e := h.1; rw [c.1] at e; exact absurd e (by decide +kernel))).trans h3
  exact ⟨h1, h2, h9⟩
theorem lay_all_2_3 : ∀ q, q < NX → (SH q).1 = 2 + 10 → SH (q + 2) = (0, 50) ∧ q + 2 < NX ∧ RF q 3 = some (q + 2) := by decide +kernel
theorem lay_2_3 {q : Nat} (h : IS 2 q) : SH (q + 2) = (0, 50) ∧ q + 2 < NX ∧ ∀ {rf : RFt}, RFok rf → rf q 3 = some (q + 2) := by
  obtain ⟨h1, h2, h3⟩ := lay_all_2_3 q h.2 h.1
  have h9 : ∀ {rf : RFt}, RFok rf → rf q 3 = some (q + 2) := fun hrf => (hrf q 3 h.2 (fun c => by have e := h.1; rw [c.1] at e; exact absurd e (by decide +kernel))).trans h3
  exact ⟨h1, h2, h9⟩
theorem lay_all_5_1 : ∀ q, q < NX → (SH q).1 = 5 + 10 → SH (q + 1) = (0, 2) ∧ q + 1 < NX ∧ RF q 1 = some (q + 1) := by decide +kernel
theorem lay_5_1 {q : Nat} (h : IS 5 q) : SH (q + 1) = (0, 2) ∧ q + 1 < NX ∧ ∀ {rf : RFt}, RFok rf → rf q 1 = some (q + 1) := by
  obtain ⟨h1, h2, h3⟩ := lay_all_5_1 q h.2 h.1
  have h9 : ∀ {rf : RFt}, RFok rf → rf q 1 = some (q + 1) := fun hrf => (hrf q 1 h.2 (fun c => by have e := h.1; rw [c.1] at e; exact absurd e (by decide +kernel))).trans h3
  exact ⟨h1, h2, h9⟩
theorem lay_all_5_3 : ∀ q, q < NX → (SH q).1 = 5 + 10 → SH (q + 2) = (1, 50) ∧ q + 2 < NX ∧ RF q 3 = some (q + 2) := by decide +kernel
theorem lay_5_3 {q : Nat} (h : IS 5 q) : SH (q + 2) = (1, 50) ∧ q + 2 < NX ∧ ∀ {rf : RFt}, RFok rf → rf q 3 = some (q + 2) := by
  obtain ⟨h1, h2, h3⟩ := lay_all_5_3 q h.2 h.1
  have h9 : ∀ {rf : RFt}, RFok rf → rf q 3 = some (q + 2) := fun hrf => (hrf q 3 h.2 (fun c => by have e := h.1; rw [c.1] at e; exact absurd e (by decide +kernel))).trans h3
  exact ⟨h1, h2, h9⟩
theorem lay_all_5_5 : ∀ q, q < NX → (SH q).1 = 5 + 10 → SH (q + 3) = (0, 20) ∧ q + 3 < NX ∧ RF q 5 = some (q + 3) := by decide +kernel
theorem lay_5_5 {q : Nat} (h : IS 5 q) : SH (q + 3) = (0, 20) ∧ q + 3 < NX ∧ ∀ {rf : RFt}, RFok rf → rf q 5 = some (q + 3) := by
  obtain ⟨h1, h2, h3⟩ := lay_all_5_5 q h.2 h.1
  have h9 : ∀ {rf : RFt}, RFok rf → rf q 5 = some (q + 3) := fun hrf => (hrf q 5 h.2 (fun c => by have e := h.1; rw [c.1] at e; exact absurd e (by decide +kernel))).trans h3
  exact ⟨h1, h2, h9⟩
theorem lay_all_5_7 : ∀ q, q < NX → (SH q).1 = 5 + 10 → SH (q + 4) = (2 + 10, 4) ∧ q + 4 < NX ∧ RF q 7 = some (q + 4) := by decide +kernel
theorem lay_5_7 {q : Nat} (h : IS 5 q) : SH (q + 4) = (2 + 10, 4) ∧ q + 4 < NX ∧ (∀ {rf : RFt}, RFok rf → rf q 7 = some (q + 4)) ∧ IS 2 (q + 4) := by
  obtain ⟨h1, h2, h3⟩ := lay_all_5_7 q h.2 h.1
  have h9 : ∀ {rf : RFt}, RFok rf → rf q 7 = some (q + 4) := fun hrf => (hrf q 7 h.2 (fun c => by have e := h.1; rw [c.1] at e; exact absurd e (by decide +kernel))).trans h3
  exact ⟨h1, h2, h9, by rw [h1], h2⟩
theorem lay_all_5_8 : ∀ q, q < NX → (SH q).1 = 5 + 10 → SH (q + 7) = (2 + 10, 4) ∧ q + 7 < NX ∧ RF q 8 = some (q + 7) := by decide +kernel
theorem lay_5_8 {q : Nat} (h : IS 5 q) : SH (q + 7) = (2 + 10, 4) ∧ q + 7 < NX ∧ (∀ {rf : RFt}, RFok rf → rf q 8 = some (q + 7)) ∧ IS 2 (q + 7) := by
  obtain ⟨h1, h2, h3⟩ := lay_all_5_8 q h.2 h.1
  have h9 : ∀ {rf : RFt}, RFok rf → rf q 8 = some (q + 7) := fun hrf => (hrf q 8 h.2 (fun c => by have e := h.1; rw [c.1] at e; exact absurd e (by decide +kernel))).trans h3
  exact ⟨h1, h2, h9, by rw [h1], h2⟩
theorem lay_all_5_9 : ∀ q, q < NX → (SH q).1 = 5 + 10 → SH (q + 10) = (1, 410) ∧ q + 10 < NX ∧ RF q 9 = some (q + 10) := by decide +kernel
theorem lay_5_9 {q : Nat} (h : IS 5 q) : SH (q + 10) = (1, 410) ∧ q + 10 < NX ∧ ∀ {rf : RFt}, RFok rf → rf q 9 = some (q + 10) := by
  obtain ⟨h1, h2, h3⟩ := lay_all_5_9 q h.2 h.1
  have h9 : ∀ {rf : RFt}, RFok rf → rf q 9 = some (q + 10) := fun hrf => (hrf q 9 h.2 (fun c => by have e := h.1; rw [c.1] at e; exact absurd e (by decide +kernel))).trans h3
  exact ⟨h1, h2, h9⟩
theorem lay_all_6_2 : ∀ q, q < NX → (SH q).1 = 6 + 10 → SH (q + 1) = (0, 40) ∧ q + 1 < NX ∧ RF q 2 = some (q + 1) := by decide +kernel
theorem lay_6_2 {q : Nat} (h : IS 6 q) : SH (q + 1) = (0, 40) ∧ q + 1 < NX ∧ ∀ {rf : RFt}, RFok rf → rf q 2 = some (q + 1) := by
  obtain ⟨h1, h2, h3⟩ := lay_all_6_2 q h.2 h.1
  have h9 : ∀ {rf : RFt}, RFok rf → rf q 2 = some (q + 1) := fun hrf => (hrf q 2 h.2 (fun c => by have e := h.1; rw [c.1] at e; exact absurd e (by decide +kernel))).trans h3
  exact ⟨h1, h2, h9⟩
theorem gd_all : ∀ q, q < NX → (SH q).1 = 0 + 10 → ∀ i, i < 8 → (SH (q + 2 + i)).1 = 1 + 10 ∧ q + 2 + i < NX ∧ RF (q + 1) i = some (q + 2 + i) := by decide +kernel
theorem vp_lt {i : Int32} {n : Nat} (h : vp_in i n) : i.toNatClampNeg < n := Nat.not_le.mp fun q => h (Or.inr q)
theorem gd_in {q : Nat} {i : Int32} (h : IS 0 q) (hi : vp_in i 8) : IS 1 (q + 2 + i.toNatClampNeg) := ⟨(gd_all q h.2 h.1 _ (vp_lt hi)).1, (gd_all q h.2 h.1 _ (vp_lt hi)).2.1⟩
theorem gd_rf {q : Nat} {i : Int32} {rf : RFt} (h : IS 0 q) (hrf : RFok rf) (hi : vp_in i 8) : rf (q + 1) i.toNatClampNeg = some (q + 2 + i.toNatClampNeg) :=
  (hrf _ _ (by have h8 : q + 2 + i.toNatClampNeg < NX := (gd_all q h.2 h.1 _ (vp_lt hi)).2.1; omega) (fun c => by rw [show q = 54 by omega] at h; exact absurd h.1 (by decide +kernel))).trans (gd_all q h.2 h.1 _ (vp_lt hi)).2.2
theorem st_all : ∀ i, i < 4 → (SH (68 + 2 * i)).1 = 6 + 10 ∧ 68 + 2 * i < NX ∧ RF 66 i = some (68 + 2 * i) := by decide +kernel
theorem st_in {i : Int32} (hi : vp_in i 4) : IS 6 (68 + 2 * i.toNatClampNeg) := ⟨(st_all _ (vp_lt hi)).1, (st_all _ (vp_lt hi)).2.1⟩
theorem st_rf {i : Int32} {rf : RFt} (hrf : RFok rf) (hi : vp_in i 4) : rf 66 i.toNatClampNeg = some (68 + 2 * i.toNatClampNeg) := (hrf _ _ (by decide) (by omega)).trans (st_all _ (vp_lt hi)).2.2
/-- a loop: by an invariant with a number that falls -/
def LOOP {σ : Type} (body : (σ → Prop) → σ → Prop) (s0 : σ) : Prop := ∃ I : Nat → σ → Prop, (∃ n, I n s0) ∧ ∀ n s, I n s → body (fun s' => ∃ m, m < n ∧ I m s') s
def QQi (P : RFt → Prop) (K : Int32 → MMt → Prop) : Option Value → RFt → MMt → Prop := fun v rf mem => P rf ∧ ∃ r, v = some (.int r) ∧ K r mem
def QQv (P : RFt → Prop) (K : MMt → Prop) : Option Value → RFt → MMt → Prop := fun v rf mem => P rf ∧ v = none ∧ K mem
def QQr (ci : Nat) (P : RFt → Prop) (K : Nat → MMt → Prop) : Option Value → RFt → MMt → Prop := fun v rf mem => P rf ∧ ∃ r, v = some (.ref r) ∧ IS ci r ∧ K r mem
def BZ (x : Int32) : Prop := x = 0 ∨ x = 1
theorem BZ.rt {x : Int32} (h : BZ x) : RT (some .boolean) (some (.int x)) := ⟨_, rfl, by rcases h with rfl | rfl <;> rfl⟩
def BY (x : Int32) : Prop := narrow .byte (.int x) = .int x
theorem BY.rt {x : Int32} (h : BY x) : RT (some .byte) (some (.int x)) := ⟨_, rfl, h⟩
def CH (x : Int32) : Prop := narrow .char (.int x) = .int x
theorem CH.rt {x : Int32} (h : CH x) : RT (some .char) (some (.int x)) := ⟨_, rfl, h⟩
def WK : List (Option Value) → List (Option Value) → Prop
  | [], [] => True
  | a :: l, b :: m => (b = none ∨ a = b) ∧ WK l m
  | _, _ => False
theorem WK.at : ∀ {l m : List (Option Value)}, WK l m → l.length = m.length ∧ ∀ (i : Nat) (v : Value), m[i]? = some (some v) → l[i]? = some (some v)
  | [], [], _ => ⟨rfl, fun i v h => h⟩
  | a :: l, b :: m, h => by
    obtain ⟨h1, h2⟩ := h
    obtain ⟨e, k⟩ := WK.at h2
    refine ⟨by simp [e], fun i v hv => ?_⟩
    match i, hv with
    | 0, hv =>
      rcases h1 with rfl | rfl
      · simp at hv
      · exact hv
    | i + 1, hv => exact k i v hv
  | [], b :: m, h => h.elim
  | a :: l, [], h => h.elim
theorem ts_lt {x l : Int32} {z : Int} (h : x < l) (e : l.toInt = z) : x.toInt < z := by rw [← e]; exact Int32.lt_iff_toInt_lt.mp h
theorem ts_gt {x l : Int32} {z : Int} (h : l < x) (e : l.toInt = z) : z < x.toInt := by rw [← e]; exact Int32.lt_iff_toInt_lt.mp h
theorem ts_eq {x l : Int32} (h : x.toInt = l.toInt) : x = l := Int32.toInt_inj.mp h
theorem bi_m99 : (Int8.ofInt (-99)).toInt32 = (-99 : Int32) := by decide +kernel
theorem bi_m10 : (Int8.ofInt (-10)).toInt32 = (-10 : Int32) := by decide +kernel
theorem bi_m9 : (Int8.ofInt (-9)).toInt32 = (-9 : Int32) := by decide +kernel
theorem bi_m2 : (Int8.ofInt (-2)).toInt32 = (-2 : Int32) := by decide +kernel
theorem bi_6 : (Int8.ofInt (6)).toInt32 = (6 : Int32) := by decide +kernel
theorem bi_7 : (Int8.ofInt (7)).toInt32 = (7 : Int32) := by decide +kernel
theorem bi_8 : (Int8.ofInt (8)).toInt32 = (8 : Int32) := by decide +kernel
theorem bi_9 : (Int8.ofInt (9)).toInt32 = (9 : Int32) := by decide +kernel
theorem bi_10 : (Int8.ofInt (10)).toInt32 = (10 : Int32) := by decide +kernel
theorem bi_11 : (Int8.ofInt (11)).toInt32 = (11 : Int32) := by decide +kernel
theorem bi_12 : (Int8.ofInt (12)).toInt32 = (12 : Int32) := by decide +kernel
theorem bi_13 : (Int8.ofInt (13)).toInt32 = (13 : Int32) := by decide +kernel
theorem bi_16 : (Int8.ofInt (16)).toInt32 = (16 : Int32) := by decide +kernel
theorem bi_18 : (Int8.ofInt (18)).toInt32 = (18 : Int32) := by decide +kernel
theorem bi_19 : (Int8.ofInt (19)).toInt32 = (19 : Int32) := by decide +kernel
theorem bi_20 : (Int8.ofInt (20)).toInt32 = (20 : Int32) := by decide +kernel
theorem bi_24 : (Int8.ofInt (24)).toInt32 = (24 : Int32) := by decide +kernel
theorem bi_30 : (Int8.ofInt (30)).toInt32 = (30 : Int32) := by decide +kernel
theorem bi_32 : (Int8.ofInt (32)).toInt32 = (32 : Int32) := by decide +kernel
theorem bi_33 : (Int8.ofInt (33)).toInt32 = (33 : Int32) := by decide +kernel
theorem bi_37 : (Int8.ofInt (37)).toInt32 = (37 : Int32) := by decide +kernel
theorem bi_38 : (Int8.ofInt (38)).toInt32 = (38 : Int32) := by decide +kernel
theorem bi_40 : (Int8.ofInt (40)).toInt32 = (40 : Int32) := by decide +kernel
theorem bi_41 : (Int8.ofInt (41)).toInt32 = (41 : Int32) := by decide +kernel
theorem bi_42 : (Int8.ofInt (42)).toInt32 = (42 : Int32) := by decide +kernel
theorem bi_43 : (Int8.ofInt (43)).toInt32 = (43 : Int32) := by decide +kernel
theorem bi_45 : (Int8.ofInt (45)).toInt32 = (45 : Int32) := by decide +kernel
theorem bi_47 : (Int8.ofInt (47)).toInt32 = (47 : Int32) := by decide +kernel
theorem bi_48 : (Int8.ofInt (48)).toInt32 = (48 : Int32) := by decide +kernel
theorem bi_50 : (Int8.ofInt (50)).toInt32 = (50 : Int32) := by decide +kernel
theorem bi_51 : (Int8.ofInt (51)).toInt32 = (51 : Int32) := by decide +kernel
theorem bi_57 : (Int8.ofInt (57)).toInt32 = (57 : Int32) := by decide +kernel
theorem bi_60 : (Int8.ofInt (60)).toInt32 = (60 : Int32) := by decide +kernel
theorem bi_61 : (Int8.ofInt (61)).toInt32 = (61 : Int32) := by decide +kernel
theorem bi_62 : (Int8.ofInt (62)).toInt32 = (62 : Int32) := by decide +kernel
theorem bi_63 : (Int8.ofInt (63)).toInt32 = (63 : Int32) := by decide +kernel
theorem bi_69 : (Int8.ofInt (69)).toInt32 = (69 : Int32) := by decide +kernel
theorem bi_70 : (Int8.ofInt (70)).toInt32 = (70 : Int32) := by decide +kernel
theorem bi_99 : (Int8.ofInt (99)).toInt32 = (99 : Int32) := by decide +kernel
theorem bi_100 : (Int8.ofInt (100)).toInt32 = (100 : Int32) := by decide +kernel
theorem bi_101 : (Int8.ofInt (101)).toInt32 = (101 : Int32) := by decide +kernel
theorem bi_102 : (Int8.ofInt (102)).toInt32 = (102 : Int32) := by decide +kernel
theorem bi_108 : (Int8.ofInt (108)).toInt32 = (108 : Int32) := by decide +kernel
theorem bi_109 : (Int8.ofInt (109)).toInt32 = (109 : Int32) := by decide +kernel
theorem bi_115 : (Int8.ofInt (115)).toInt32 = (115 : Int32) := by decide +kernel
theorem bi_116 : (Int8.ofInt (116)).toInt32 = (116 : Int32) := by decide +kernel
theorem bi_120 : (Int8.ofInt (120)).toInt32 = (120 : Int32) := by decide +kernel
theorem bi_124 : (Int8.ofInt (124)).toInt32 = (124 : Int32) := by decide +kernel
theorem ic_m1 : Int32.ofInt (-1) = (-1 : Int32) := by decide +kernel
theorem ic_0 : Int32.ofInt (0) = (0 : Int32) := by decide +kernel
theorem ic_1 : Int32.ofInt (1) = (1 : Int32) := by decide +kernel
theorem ic_2 : Int32.ofInt (2) = (2 : Int32) := by decide +kernel
theorem ic_3 : Int32.ofInt (3) = (3 : Int32) := by decide +kernel
theorem ic_4 : Int32.ofInt (4) = (4 : Int32) := by decide +kernel
theorem ic_5 : Int32.ofInt (5) = (5 : Int32) := by decide +kernel
theorem lc_0 : Int64.ofNat ((0 : Fin 2) : Nat) = (0 : Int64) := by decide +kernel
theorem lc_1 : Int64.ofNat ((1 : Fin 2) : Nat) = (1 : Int64) := by decide +kernel
theorem si_200 : (Int16.ofInt (200)).toInt32 = (200 : Int32) := by decide +kernel
theorem si_201 : (Int16.ofInt (201)).toInt32 = (201 : Int32) := by decide +kernel
theorem si_255 : (Int16.ofInt (255)).toInt32 = (255 : Int32) := by decide +kernel
theorem si_322 : (Int16.ofInt (322)).toInt32 = (322 : Int32) := by decide +kernel
theorem si_9999 : (Int16.ofInt (9999)).toInt32 = (9999 : Int32) := by decide +kernel
theorem si_10000 : (Int16.ofInt (10000)).toInt32 = (10000 : Int32) := by decide +kernel
theorem si_12345 : (Int16.ofInt (12345)).toInt32 = (12345 : Int32) := by decide +kernel
theorem si_20000 : (Int16.ofInt (20000)).toInt32 = (20000 : Int32) := by decide +kernel
theorem si_20033 : (Int16.ofInt (20033)).toInt32 = (20033 : Int32) := by decide +kernel
theorem tsx_0_2 {x : Int32} (h1 : ¬ x < (0 : Int32)) (h2 : ¬ (2 : Int32) < x) : x = (0 : Int32) ∨ x = (1 : Int32) ∨ x = (2 : Int32) := by
  have g1 : ¬ x.toInt < (0 : Int32).toInt := fun q => h1 (Int32.lt_iff_toInt_lt.mpr q)
  have g2 : ¬ (2 : Int32).toInt < x.toInt := fun q => h2 (Int32.lt_iff_toInt_lt.mpr q)
  rw [show (0 : Int32).toInt = 0 by decide] at g1
  rw [show (2 : Int32).toInt = 2 by decide] at g2
  have g : x.toInt = 0 ∨ x.toInt = 1 ∨ x.toInt = 2 := by omega
  rcases g with g | g | g
  · exact Or.inl (ts_eq (g.trans (by decide)))
  · exact Or.inr (Or.inl (ts_eq (g.trans (by decide))))
  · exact Or.inr (Or.inr (ts_eq (g.trans (by decide))))
theorem tsx_0_3 {x : Int32} (h1 : ¬ x < (0 : Int32)) (h2 : ¬ (3 : Int32) < x) : x = (0 : Int32) ∨ x = (1 : Int32) ∨ x = (2 : Int32) ∨ x = (3 : Int32) := by
  have g1 : ¬ x.toInt < (0 : Int32).toInt := fun q => h1 (Int32.lt_iff_toInt_lt.mpr q)
  have g2 : ¬ (3 : Int32).toInt < x.toInt := fun q => h2 (Int32.lt_iff_toInt_lt.mpr q)
  rw [show (0 : Int32).toInt = 0 by decide] at g1
  rw [show (3 : Int32).toInt = 3 by decide] at g2
  have g : x.toInt = 0 ∨ x.toInt = 1 ∨ x.toInt = 2 ∨ x.toInt = 3 := by omega
  rcases g with g | g | g | g
  · exact Or.inl (ts_eq (g.trans (by decide)))
  · exact Or.inr (Or.inl (ts_eq (g.trans (by decide))))
  · exact Or.inr (Or.inr (Or.inl (ts_eq (g.trans (by decide)))))
  · exact Or.inr (Or.inr (Or.inr (ts_eq (g.trans (by decide)))))
theorem tsx_0_4 {x : Int32} (h1 : ¬ x < (0 : Int32)) (h2 : ¬ (4 : Int32) < x) : x = (0 : Int32) ∨ x = (1 : Int32) ∨ x = (2 : Int32) ∨ x = (3 : Int32) ∨ x = (4 : Int32) := by
  have g1 : ¬ x.toInt < (0 : Int32).toInt := fun q => h1 (Int32.lt_iff_toInt_lt.mpr q)
  have g2 : ¬ (4 : Int32).toInt < x.toInt := fun q => h2 (Int32.lt_iff_toInt_lt.mpr q)
  rw [show (0 : Int32).toInt = 0 by decide] at g1
  rw [show (4 : Int32).toInt = 4 by decide] at g2
  have g : x.toInt = 0 ∨ x.toInt = 1 ∨ x.toInt = 2 ∨ x.toInt = 3 ∨ x.toInt = 4 := by omega
  rcases g with g | g | g | g | g
  · exact Or.inl (ts_eq (g.trans (by decide)))
  · exact Or.inr (Or.inl (ts_eq (g.trans (by decide))))
  · exact Or.inr (Or.inr (Or.inl (ts_eq (g.trans (by decide)))))
  · exact Or.inr (Or.inr (Or.inr (Or.inl (ts_eq (g.trans (by decide))))))
  · exact Or.inr (Or.inr (Or.inr (Or.inr (ts_eq (g.trans (by decide))))))
theorem tsx_0_8 {x : Int32} (h1 : ¬ x < (0 : Int32)) (h2 : ¬ (8 : Int32) < x) : x = (0 : Int32) ∨ x = (1 : Int32) ∨ x = (2 : Int32) ∨ x = (3 : Int32) ∨ x = (4 : Int32) ∨ x = (5 : Int32) ∨ x = (6 : Int32) ∨ x = (7 : Int32) ∨ x = (8 : Int32) := by
  have g1 : ¬ x.toInt < (0 : Int32).toInt := fun q => h1 (Int32.lt_iff_toInt_lt.mpr q)
  have g2 : ¬ (8 : Int32).toInt < x.toInt := fun q => h2 (Int32.lt_iff_toInt_lt.mpr q)
  rw [show (0 : Int32).toInt = 0 by decide] at g1
  rw [show (8 : Int32).toInt = 8 by decide] at g2
  have g : x.toInt = 0 ∨ x.toInt = 1 ∨ x.toInt = 2 ∨ x.toInt = 3 ∨ x.toInt = 4 ∨ x.toInt = 5 ∨ x.toInt = 6 ∨ x.toInt = 7 ∨ x.toInt = 8 := by omega
  rcases g with g | g | g | g | g | g | g | g | g
  · exact Or.inl (ts_eq (g.trans (by decide)))
  · exact Or.inr (Or.inl (ts_eq (g.trans (by decide))))
  · exact Or.inr (Or.inr (Or.inl (ts_eq (g.trans (by decide)))))
  · exact Or.inr (Or.inr (Or.inr (Or.inl (ts_eq (g.trans (by decide))))))
  · exact Or.inr (Or.inr (Or.inr (Or.inr (Or.inl (ts_eq (g.trans (by decide)))))))
  · exact Or.inr (Or.inr (Or.inr (Or.inr (Or.inr (Or.inl (ts_eq (g.trans (by decide))))))))
  · exact Or.inr (Or.inr (Or.inr (Or.inr (Or.inr (Or.inr (Or.inl (ts_eq (g.trans (by decide)))))))))
  · exact Or.inr (Or.inr (Or.inr (Or.inr (Or.inr (Or.inr (Or.inr (Or.inl (ts_eq (g.trans (by decide))))))))))
  · exact Or.inr (Or.inr (Or.inr (Or.inr (Or.inr (Or.inr (Or.inr (Or.inr (ts_eq (g.trans (by decide))))))))))
theorem tsx_0_9 {x : Int32} (h1 : ¬ x < (0 : Int32)) (h2 : ¬ (9 : Int32) < x) : x = (0 : Int32) ∨ x = (1 : Int32) ∨ x = (2 : Int32) ∨ x = (3 : Int32) ∨ x = (4 : Int32) ∨ x = (5 : Int32) ∨ x = (6 : Int32) ∨ x = (7 : Int32) ∨ x = (8 : Int32) ∨ x = (9 : Int32) := by
  have g1 : ¬ x.toInt < (0 : Int32).toInt := fun q => h1 (Int32.lt_iff_toInt_lt.mpr q)
  have g2 : ¬ (9 : Int32).toInt < x.toInt := fun q => h2 (Int32.lt_iff_toInt_lt.mpr q)
  rw [show (0 : Int32).toInt = 0 by decide] at g1
  rw [show (9 : Int32).toInt = 9 by decide] at g2
  have g : x.toInt = 0 ∨ x.toInt = 1 ∨ x.toInt = 2 ∨ x.toInt = 3 ∨ x.toInt = 4 ∨ x.toInt = 5 ∨ x.toInt = 6 ∨ x.toInt = 7 ∨ x.toInt = 8 ∨ x.toInt = 9 := by omega
  rcases g with g | g | g | g | g | g | g | g | g | g
  · exact Or.inl (ts_eq (g.trans (by decide)))
  · exact Or.inr (Or.inl (ts_eq (g.trans (by decide))))
  · exact Or.inr (Or.inr (Or.inl (ts_eq (g.trans (by decide)))))
  · exact Or.inr (Or.inr (Or.inr (Or.inl (ts_eq (g.trans (by decide))))))
  · exact Or.inr (Or.inr (Or.inr (Or.inr (Or.inl (ts_eq (g.trans (by decide)))))))
  · exact Or.inr (Or.inr (Or.inr (Or.inr (Or.inr (Or.inl (ts_eq (g.trans (by decide))))))))
  · exact Or.inr (Or.inr (Or.inr (Or.inr (Or.inr (Or.inr (Or.inl (ts_eq (g.trans (by decide)))))))))
  · exact Or.inr (Or.inr (Or.inr (Or.inr (Or.inr (Or.inr (Or.inr (Or.inl (ts_eq (g.trans (by decide))))))))))
  · exact Or.inr (Or.inr (Or.inr (Or.inr (Or.inr (Or.inr (Or.inr (Or.inr (Or.inl (ts_eq (g.trans (by decide)))))))))))
  · exact Or.inr (Or.inr (Or.inr (Or.inr (Or.inr (Or.inr (Or.inr (Or.inr (Or.inr (ts_eq (g.trans (by decide)))))))))))
theorem tsx_0_10 {x : Int32} (h1 : ¬ x < (0 : Int32)) (h2 : ¬ (10 : Int32) < x) : x = (0 : Int32) ∨ x = (1 : Int32) ∨ x = (2 : Int32) ∨ x = (3 : Int32) ∨ x = (4 : Int32) ∨ x = (5 : Int32) ∨ x = (6 : Int32) ∨ x = (7 : Int32) ∨ x = (8 : Int32) ∨ x = (9 : Int32) ∨ x = (10 : Int32) := by
  have g1 : ¬ x.toInt < (0 : Int32).toInt := fun q => h1 (Int32.lt_iff_toInt_lt.mpr q)
  have g2 : ¬ (10 : Int32).toInt < x.toInt := fun q => h2 (Int32.lt_iff_toInt_lt.mpr q)
  rw [show (0 : Int32).toInt = 0 by decide] at g1
  rw [show (10 : Int32).toInt = 10 by decide] at g2
  have g : x.toInt = 0 ∨ x.toInt = 1 ∨ x.toInt = 2 ∨ x.toInt = 3 ∨ x.toInt = 4 ∨ x.toInt = 5 ∨ x.toInt = 6 ∨ x.toInt = 7 ∨ x.toInt = 8 ∨ x.toInt = 9 ∨ x.toInt = 10 := by omega
  rcases g with g | g | g | g | g | g | g | g | g | g | g
  · exact Or.inl (ts_eq (g.trans (by decide)))
  · exact Or.inr (Or.inl (ts_eq (g.trans (by decide))))
  · exact Or.inr (Or.inr (Or.inl (ts_eq (g.trans (by decide)))))
  · exact Or.inr (Or.inr (Or.inr (Or.inl (ts_eq (g.trans (by decide))))))
  · exact Or.inr (Or.inr (Or.inr (Or.inr (Or.inl (ts_eq (g.trans (by decide)))))))
  · exact Or.inr (Or.inr (Or.inr (Or.inr (Or.inr (Or.inl (ts_eq (g.trans (by decide))))))))
  · exact Or.inr (Or.inr (Or.inr (Or.inr (Or.inr (Or.inr (Or.inl (ts_eq (g.trans (by decide)))))))))
  · exact Or.inr (Or.inr (Or.inr (Or.inr (Or.inr (Or.inr (Or.inr (Or.inl (ts_eq (g.trans (by decide))))))))))
  · exact Or.inr (Or.inr (Or.inr (Or.inr (Or.inr (Or.inr (Or.inr (Or.inr (Or.inl (ts_eq (g.trans (by decide)))))))))))
  · exact Or.inr (Or.inr (Or.inr (Or.inr (Or.inr (Or.inr (Or.inr (Or.inr (Or.inr (Or.inl (ts_eq (g.trans (by decide))))))))))))
  · exact Or.inr (Or.inr (Or.inr (Or.inr (Or.inr (Or.inr (Or.inr (Or.inr (Or.inr (Or.inr (ts_eq (g.trans (by decide))))))))))))
theorem tsx_1_6 {x : Int32} (h1 : ¬ x < (1 : Int32)) (h2 : ¬ (6 : Int32) < x) : x = (1 : Int32) ∨ x = (2 : Int32) ∨ x = (3 : Int32) ∨ x = (4 : Int32) ∨ x = (5 : Int32) ∨ x = (6 : Int32) := by
  have g1 : ¬ x.toInt < (1 : Int32).toInt := fun q => h1 (Int32.lt_iff_toInt_lt.mpr q)
  have g2 : ¬ (6 : Int32).toInt < x.toInt := fun q => h2 (Int32.lt_iff_toInt_lt.mpr q)
  rw [show (1 : Int32).toInt = 1 by decide] at g1
  rw [show (6 : Int32).toInt = 6 by decide] at g2
  have g : x.toInt = 1 ∨ x.toInt = 2 ∨ x.toInt = 3 ∨ x.toInt = 4 ∨ x.toInt = 5 ∨ x.toInt = 6 := by omega
  rcases g with g | g | g | g | g | g
  · exact Or.inl (ts_eq (g.trans (by decide)))
  · exact Or.inr (Or.inl (ts_eq (g.trans (by decide))))
  · exact Or.inr (Or.inr (Or.inl (ts_eq (g.trans (by decide)))))
  · exact Or.inr (Or.inr (Or.inr (Or.inl (ts_eq (g.trans (by decide))))))
  · exact Or.inr (Or.inr (Or.inr (Or.inr (Or.inl (ts_eq (g.trans (by decide)))))))
  · exact Or.inr (Or.inr (Or.inr (Or.inr (Or.inr (ts_eq (g.trans (by decide)))))))
theorem tsx_3_6 {x : Int32} (h1 : ¬ x < (3 : Int32)) (h2 : ¬ (6 : Int32) < x) : x = (3 : Int32) ∨ x = (4 : Int32) ∨ x = (5 : Int32) ∨ x = (6 : Int32) := by
  have g1 : ¬ x.toInt < (3 : Int32).toInt := fun q => h1 (Int32.lt_iff_toInt_lt.mpr q)
  have g2 : ¬ (6 : Int32).toInt < x.toInt := fun q => h2 (Int32.lt_iff_toInt_lt.mpr q)
  rw [show (3 : Int32).toInt = 3 by decide] at g1
  rw [show (6 : Int32).toInt = 6 by decide] at g2
  have g : x.toInt = 3 ∨ x.toInt = 4 ∨ x.toInt = 5 ∨ x.toInt = 6 := by omega
  rcases g with g | g | g | g
  · exact Or.inl (ts_eq (g.trans (by decide)))
  · exact Or.inr (Or.inl (ts_eq (g.trans (by decide))))
  · exact Or.inr (Or.inr (Or.inl (ts_eq (g.trans (by decide)))))
  · exact Or.inr (Or.inr (Or.inr (ts_eq (g.trans (by decide)))))
theorem tsx_37_62 {x : Int32} (h1 : ¬ x < (37 : Int32)) (h2 : ¬ (62 : Int32) < x) : x = (37 : Int32) ∨ x = (38 : Int32) ∨ x = (39 : Int32) ∨ x = (40 : Int32) ∨ x = (41 : Int32) ∨ x = (42 : Int32) ∨ x = (43 : Int32) ∨ x = (44 : Int32) ∨ x = (45 : Int32) ∨ x = (46 : Int32) ∨ x = (47 : Int32) ∨ x = (48 : Int32) ∨ x = (49 : Int32) ∨ x = (50 : Int32) ∨ x = (51 : Int32) ∨ x = (52 : Int32) ∨ x = (53 : Int32) ∨ x = (54 : Int32) ∨ x = (55 : Int32) ∨ x = (56 : Int32) ∨ x = (57 : Int32) ∨ x = (58 : Int32) ∨ x = (59 : Int32) ∨ x = (60 : Int32) ∨ x = (61 : Int32) ∨ x = (62 : Int32) := by
  have g1 : ¬ x.toInt < (37 : Int32).toInt := fun q => h1 (Int32.lt_iff_toInt_lt.mpr q)
  have g2 : ¬ (62 : Int32).toInt < x.toInt := fun q => h2 (Int32.lt_iff_toInt_lt.mpr q)
  rw [show (37 : Int32).toInt = 37 by decide] at g1
  rw [show (62 : Int32).toInt = 62 by decide] at g2
  have g : x.toInt = 37 ∨ x.toInt = 38 ∨ x.toInt = 39 ∨ x.toInt = 40 ∨ x.toInt = 41 ∨ x.toInt = 42 ∨ x.toInt = 43 ∨ x.toInt = 44 ∨ x.toInt = 45 ∨ x.toInt = 46 ∨ x.toInt = 47 ∨ x.toInt = 48 ∨ x.toInt = 49 ∨ x.toInt = 50 ∨ x.toInt = 51 ∨ x.toInt = 52 ∨ x.toInt = 53 ∨ x.toInt = 54 ∨ x.toInt = 55 ∨ x.toInt = 56 ∨ x.toInt = 57 ∨ x.toInt = 58 ∨ x.toInt = 59 ∨ x.toInt = 60 ∨ x.toInt = 61 ∨ x.toInt = 62 := by omega
  rcases g with g | g | g | g | g | g | g | g | g | g | g | g | g | g | g | g | g | g | g | g | g | g | g | g | g | g
  · exact Or.inl (ts_eq (g.trans (by decide)))
  · exact Or.inr (Or.inl (ts_eq (g.trans (by decide))))
  · exact Or.inr (Or.inr (Or.inl (ts_eq (g.trans (by decide)))))
  · exact Or.inr (Or.inr (Or.inr (Or.inl (ts_eq (g.trans (by decide))))))
  · exact Or.inr (Or.inr (Or.inr (Or.inr (Or.inl (ts_eq (g.trans (by decide)))))))
  · exact Or.inr (Or.inr (Or.inr (Or.inr (Or.inr (Or.inl (ts_eq (g.trans (by decide))))))))
  · exact Or.inr (Or.inr (Or.inr (Or.inr (Or.inr (Or.inr (Or.inl (ts_eq (g.trans (by decide)))))))))
  · exact Or.inr (Or.inr (Or.inr (Or.inr (Or.inr (Or.inr (Or.inr (Or.inl (ts_eq (g.trans (by decide))))))))))
  · exact Or.inr (Or.inr (Or.inr (Or.inr (Or.inr (Or.inr (Or.inr (Or.inr (Or.inl (ts_eq (g.trans (by decide)))))))))))
  · exact Or.inr (Or.inr (Or.inr (Or.inr (Or.inr (Or.inr (Or.inr (Or.inr (Or.inr (Or.inl (ts_eq (g.trans (by decide))))))))))))
  · exact Or.inr (Or.inr (Or.inr (Or.inr (Or.inr (Or.inr (Or.inr (Or.inr (Or.inr (Or.inr (Or.inl (ts_eq (g.trans (by decide)))))))))))))
  · exact Or.inr (Or.inr (Or.inr (Or.inr (Or.inr (Or.inr (Or.inr (Or.inr (Or.inr (Or.inr (Or.inr (Or.inl (ts_eq (g.trans (by decide))))))))))))))
  · exact Or.inr (Or.inr (Or.inr (Or.inr (Or.inr (Or.inr (Or.inr (Or.inr (Or.inr (Or.inr (Or.inr (Or.inr (Or.inl (ts_eq (g.trans (by decide)))))))))))))))
  · exact Or.inr (Or.inr (Or.inr (Or.inr (Or.inr (Or.inr (Or.inr (Or.inr (Or.inr (Or.inr (Or.inr (Or.inr (Or.inr (Or.inl (ts_eq (g.trans (by decide))))))))))))))))
  · exact Or.inr (Or.inr (Or.inr (Or.inr (Or.inr (Or.inr (Or.inr (Or.inr (Or.inr (Or.inr (Or.inr (Or.inr (Or.inr (Or.inr (Or.inl (ts_eq (g.trans (by decide)))))))))))))))))
  · exact Or.inr (Or.inr (Or.inr (Or.inr (Or.inr (Or.inr (Or.inr (Or.inr (Or.inr (Or.inr (Or.inr (Or.inr (Or.inr (Or.inr (Or.inr (Or.inl (ts_eq (g.trans (by decide))))))))))))))))))
  · exact Or.inr (Or.inr (Or.inr (Or.inr (Or.inr (Or.inr (Or.inr (Or.inr (Or.inr (Or.inr (Or.inr (Or.inr (Or.inr (Or.inr (Or.inr (Or.inr (Or.inl (ts_eq (g.trans (by decide)))))))))))))))))))
  · exact Or.inr (Or.inr (Or.inr (Or.inr (Or.inr (Or.inr (Or.inr (Or.inr (Or.inr (Or.inr (Or.inr (Or.inr (Or.inr (Or.inr (Or.inr (Or.inr (Or.inr (Or.inl (ts_eq (g.trans (by decide))))))))))))))))))))
  · exact Or.inr (Or.inr (Or.inr (Or.inr (Or.inr (Or.inr (Or.inr (Or.inr (Or.inr (Or.inr (Or.inr (Or.inr (Or.inr (Or.inr (Or.inr (Or.inr (Or.inr (Or.inr (Or.inl (ts_eq (g.trans (by decide)))))))))))))))))))))
  · exact Or.inr (Or.inr (Or.inr (Or.inr (Or.inr (Or.inr (Or.inr (Or.inr (Or.inr (Or.inr (Or.inr (Or.inr (Or.inr (Or.inr (Or.inr (Or.inr (Or.inr (Or.inr (Or.inr (Or.inl (ts_eq (g.trans (by decide))))))))))))))))))))))
  · exact Or.inr (Or.inr (Or.inr (Or.inr (Or.inr (Or.inr (Or.inr (Or.inr (Or.inr (Or.inr (Or.inr (Or.inr (Or.inr (Or.inr (Or.inr (Or.inr (Or.inr (Or.inr (Or.inr (Or.inr (Or.inl (ts_eq (g.trans (by decide)))))))))))))))))))))))
  · exact Or.inr (Or.inr (Or.inr (Or.inr (Or.inr (Or.inr (Or.inr (Or.inr (Or.inr (Or.inr (Or.inr (Or.inr (Or.inr (Or.inr (Or.inr (Or.inr (Or.inr (Or.inr (Or.inr (Or.inr (Or.inr (Or.inl (ts_eq (g.trans (by decide))))))))))))))))))))))))
  · exact Or.inr (Or.inr (Or.inr (Or.inr (Or.inr (Or.inr (Or.inr (Or.inr (Or.inr (Or.inr (Or.inr (Or.inr (Or.inr (Or.inr (Or.inr (Or.inr (Or.inr (Or.inr (Or.inr (Or.inr (Or.inr (Or.inr (Or.inl (ts_eq (g.trans (by decide)))))))))))))))))))))))))
  · exact Or.inr (Or.inr (Or.inr (Or.inr (Or.inr (Or.inr (Or.inr (Or.inr (Or.inr (Or.inr (Or.inr (Or.inr (Or.inr (Or.inr (Or.inr (Or.inr (Or.inr (Or.inr (Or.inr (Or.inr (Or.inr (Or.inr (Or.inr (Or.inl (ts_eq (g.trans (by decide))))))))))))))))))))))))))
  · exact Or.inr (Or.inr (Or.inr (Or.inr (Or.inr (Or.inr (Or.inr (Or.inr (Or.inr (Or.inr (Or.inr (Or.inr (Or.inr (Or.inr (Or.inr (Or.inr (Or.inr (Or.inr (Or.inr (Or.inr (Or.inr (Or.inr (Or.inr (Or.inr (Or.inl (ts_eq (g.trans (by decide)))))))))))))))))))))))))))
  · exact Or.inr (Or.inr (Or.inr (Or.inr (Or.inr (Or.inr (Or.inr (Or.inr (Or.inr (Or.inr (Or.inr (Or.inr (Or.inr (Or.inr (Or.inr (Or.inr (Or.inr (Or.inr (Or.inr (Or.inr (Or.inr (Or.inr (Or.inr (Or.inr (Or.inr (ts_eq (g.trans (by decide)))))))))))))))))))))))))))
theorem vpl {i : Int32} {n : Nat} (h : ¬ (i < 0 ∨ n ≤ i.toNatClampNeg)) : vp_in i n := h
section WRAP
variable {sx : Nat × (Nat → Int32)} {y : MethodName} {cc : ByteArray} {nL : Nat} {ret : Option FieldType} {d n0 n1 : Nat} {Q : Option Value → RFt → MMt → Prop} {nx : Nat} {rf : RFt} {mem mem' : MMt} {pc pc' : Nat} {L L' : List (Option Value)} {st : List Value}
theorem G_wk {L2 : List (Option Value)} (h : WK L L2) (k : G sx y cc nL ret d n0 n1 Q nx rf mem pc L2 st) : G sx y cc nL ret d n0 n1 Q nx rf mem pc L st := by
  intro p l e R s m args below meth c Z D dA base sa hC hF hR hret H locs lsr hH hL
  exact k p l e R s m args below meth c Z D dA base sa hC hF hR hret H locs lsr hH ⟨hL.1, hL.2.1, by rw [← h.at.1]; exact hL.2.2.1, fun i v hv => hL.2.2.2 i v (h.at.2 i v hv)⟩
theorem G_tsInE {dflt lo hi : Int} {offs : Array Int} {len : Nat} {x v : Int32} {off : Int} {tgt : Nat} (h : decode cc pc = .ok (.tableswitch dflt lo hi offs, len)) (hx : x = v) (h1 : ¬ v.toInt < lo ∧ ¬ hi < v.toInt ∧ offs[(v.toInt - lo).toNat]? = some off ∧ (pc : Int) + off = (tgt : Int)) (k : G sx y cc nL ret d n0 n1 Q nx rf mem tgt L st) : G sx y cc nL ret d n0 n1 Q nx rf mem pc L (.int x :: st) := by subst hx; exact G_tsIn h h1 k
theorem G_lsE {dflt : Int} {ps : Array (Int × Int)} {len : Nat} {x v : Int32} {off : Int} {tgt : Nat} (h : decode cc pc = .ok (.lookupswitch dflt ps, len)) (hx : x = v) (hp : (ps.toList.zip (ps.toList.drop 1)).all (fun (a, next) => a.1 < next.1) = true) (ho : Op.lookupswitch.offset ps.toList dflt v.toInt = off) (ht : (pc : Int) + off = (tgt : Int)) (k : G sx y cc nL ret d n0 n1 Q nx rf mem tgt L st) : G sx y cc nL ret d n0 n1 Q nx rf mem pc L (.int x :: st) := by subst hx; exact G_ls h hp ho ht k
theorem G_ialdL {k0 n j : Nat} {i : Int32} (h : At cc pc .iaload 1 pc') (hk : k0 < nx) (hS : SH k0 = (0, n)) (hi : vp_in i n) (hj : i.toNatClampNeg = j) (k : G sx y cc nL ret d n0 n1 Q nx rf mem pc' L (.int (mem k0 j) :: st)) : G sx y cc nL ret d n0 n1 Q nx rf mem pc L (.int i :: .ref k0 :: st) := by subst hj; exact G_iald h hk hS hi k
theorem G_baldL {k0 n j : Nat} {i : Int32} (h : At cc pc .baload 1 pc') (hk : k0 < nx) (hS : SH k0 = (1, n)) (hi : vp_in i n) (hj : i.toNatClampNeg = j) (k : G sx y cc nL ret d n0 n1 Q nx rf mem pc' L (.int (mem k0 j) :: st)) : G sx y cc nL ret d n0 n1 Q nx rf mem pc L (.int i :: .ref k0 :: st) := by subst hj; exact G_bald h hk hS hi k
theorem G_iastL {k0 n j : Nat} {i x : Int32} (h : At cc pc .iastore 1 pc') (hk : k0 < nx) (hS : SH k0 = (0, n)) (hi : vp_in i n) (hj : i.toNatClampNeg = j) (hm : up2 mem k0 j x = mem') (k : G sx y cc nL ret d n0 n1 Q nx rf mem' pc' L st) : G sx y cc nL ret d n0 n1 Q nx rf mem pc L (.int x :: .int i :: .ref k0 :: st) := by subst hm; subst hj; exact G_iast h hk hS hi k
theorem G_bastL {k0 n j : Nat} {i x : Int32} (h : At cc pc .bastore 1 pc') (hk : k0 < nx) (hS : SH k0 = (1, n)) (hi : vp_in i n) (hj : i.toNatClampNeg = j) (hm : up2 mem k0 j x.toInt8.toInt32 = mem') (k : G sx y cc nL ret d n0 n1 Q nx rf mem' pc' L st) : G sx y cc nL ret d n0 n1 Q nx rf mem pc L (.int x :: .int i :: .ref k0 :: st) := by subst hm; subst hj; exact G_bast h hk hS hi k
theorem G_nmI {x : Int32} (k : ∀ w : Int32, w = x → G sx y cc nL ret d n0 n1 Q nx rf mem pc L (.int w :: st)) : G sx y cc nL ret d n0 n1 Q nx rf mem pc L (.int x :: st) := k x rfl
theorem G_istoreW {i : Nat} {x w : Int32} (h : At cc pc (.istore i) 2 pc') (hw : x = w) (hs : stor L i (.int w) = some L') (k : G sx y cc nL ret d n0 n1 Q nx rf mem pc' L' st) : G sx y cc nL ret d n0 n1 Q nx rf mem pc L (.int x :: st) := by subst hw; exact G_istore h hs k
theorem G_istore_nW {k0 : Fin 4} {i : Nat} {x w : Int32} (h : At cc pc (.istore_n k0) 1 pc') (hi : (k0 : Nat) = i) (hw : x = w) (hs : stor L i (.int w) = some L') (k : G sx y cc nL ret d n0 n1 Q nx rf mem pc' L' st) : G sx y cc nL ret d n0 n1 Q nx rf mem pc L (.int x :: st) := by subst hw; exact G_istore_n h hi hs k
theorem G_iincW {i : Nat} {n : Int} {x v w : Int32} (h : At cc pc (.iinc i n) 3 pc') (hl : L[i]? = some (some (.int x))) (hv : Int32.ofInt n = v) (hw : x + v = w) (hs : stor L i (.int w) = some L') (k : G sx y cc nL ret d n0 n1 Q nx rf mem pc' L' st) : G sx y cc nL ret d n0 n1 Q nx rf mem pc L st := by subst hw; exact G_iinc h hl hv hs k
theorem G_putIW {own : String} {idx ci j k0 N : Nat} {v : Int32} {ty : FieldType} (h : At cc pc (.putfield idx) 3 pc') (hf : FW own idx ci j ty false) (hy : y.cls = own) (hk : k0 < nx) (hS : SH k0 = (ci + 10, N)) (hjN : j < N) (hr : isR ci j = false) (hn : ∀ z : Int32 × Nat, narrow ty (.int v) = .int v ∧ fits ty (.int v) = true) (hm : up2 mem k0 j v = mem') (k : G sx y cc nL ret d n0 n1 Q nx rf mem' pc' L st) : G sx y cc nL ret d n0 n1 Q nx rf mem pc L (.int v :: .ref k0 :: st) := by subst hm; exact G_putI h hf hy hk hS hjN hr hn k
theorem G_iastW {k0 n : Nat} {i x : Int32} (h : At cc pc .iastore 1 pc') (hk : k0 < nx) (hS : SH k0 = (0, n)) (hi : vp_in i n) (hm : up2 mem k0 i.toNatClampNeg x = mem') (k : G sx y cc nL ret d n0 n1 Q nx rf mem' pc' L st) : G sx y cc nL ret d n0 n1 Q nx rf mem pc L (.int x :: .int i :: .ref k0 :: st) := by subst hm; exact G_iast h hk hS hi k
theorem G_bastW {k0 n : Nat} {i x : Int32} (h : At cc pc .bastore 1 pc') (hk : k0 < nx) (hS : SH k0 = (1, n)) (hi : vp_in i n) (hm : up2 mem k0 i.toNatClampNeg x.toInt8.toInt32 = mem') (k : G sx y cc nL ret d n0 n1 Q nx rf mem' pc' L st) : G sx y cc nL ret d n0 n1 Q nx rf mem pc L (.int x :: .int i :: .ref k0 :: st) := by subst hm; exact G_bast h hk hS hi k
theorem G_copyW {a0 a1 l0 l1 kd idx : Nat} {sp dp n : Int32} {ty : FieldType} (h : At cc pc (.invokestatic idx) 3 pc') (hkd : (kd = 0 ∧ ty = .int) ∨ (kd = 1 ∧ ty = .byte)) (hl : ML y.cls idx arraycopyName) (hw : Cond.native arraycopyName ∈ lw_g ∧ Cond.static arraycopyName ∈ lw_g ∧ Cond.initialized "java/lang/System" ∈ lw_g) (h0 : a0 < nx) (h1 : a1 < nx) (hS0 : SH a0 = (kd, l0)) (hS1 : SH a1 = (kd, l1)) (hb : ¬ sp < 0 ∧ ¬ dp < 0 ∧ ¬ n < 0 ∧ sp.toNatClampNeg + n.toNatClampNeg ≤ l0 ∧ dp.toNatClampNeg + n.toNatClampNeg ≤ l1) (hfit : ∀ i, i < n.toNatClampNeg → fits ty (.int (mem a0 (sp.toNatClampNeg + i))) = true) (hst : (st.map fun v => v.category).sum ≤ 8) (hd1 : 1 ≤ d) (hn9 : nativeFrameWords "java/lang/System" "arraycopy" 5 ≤ 40) (hm : cp2 mem a0 a1 sp.toNatClampNeg dp.toNatClampNeg n.toNatClampNeg = mem') (k : G sx y cc nL ret d n0 n1 Q nx rf mem' pc' L st) : G sx y cc nL ret d n0 n1 Q nx rf mem pc L (.int n :: .int dp :: .ref a1 :: .int sp :: .ref a0 :: st) := by subst hm; exact G_copy h hkd hl hw h0 h1 hS0 hS1 hb hfit hst hd1 hn9 k
theorem G_lcmp {x z : Int64} (h : At cc pc .lcmp 1 pc') (k : G sx y cc nL ret d n0 n1 Q nx rf mem pc' L (.int (lg_cmp x z) :: st)) : G sx y cc nL ret d n0 n1 Q nx rf mem pc L (.long z :: .long x :: st) := by
  intro p l e R s m args below meth c Z D dA base sa hC hF hR hret H locs lsr hH hL
  obtain ⟨hd, rfl⟩ := h
  exact W.lcmp hC.1 hC.2.1 hd (k p l e R s m args below meth c Z D dA base sa hC hF hR hret H locs lsr hH hL)
theorem G_ldcw {own : String} {idx : Nat} {v : Int32} (h : At cc pc (.ldc_w idx) 3 pc') (hy : y.cls = own) (hw : Cond.constant own idx v ∈ lw_g) (k : G sx y cc nL ret d n0 n1 Q nx rf mem pc' L (.int v :: st)) : G sx y cc nL ret d n0 n1 Q nx rf mem pc L st := by
  intro p l e R s m args below meth c Z D dA base sa hC hF hR hret H locs lsr hH hL
  obtain ⟨hd, rfl⟩ := h
  subst hy
  exact lv_ldcw hC.1 hC.2.1 hC.2.2.2.1 (hC.2.2.2.2.1 _ hw) hd (k p l e R s m args below meth c Z D dA base sa hC hF hR hret H locs lsr hH hL)
variable {y' : MethodName} {cc' : ByteArray} {nL' d' nx1 idx : Nat} {ret' : Option FieldType}
theorem G_callS0i {M : RFt → Prop} {K : Int32 → MMt → Prop} (h : At cc pc (.invokestatic idx) 3 pc') (C : Ct sx y' cc' nL' ret' d' [] nx nx1 rf mem (QQi M K)) (w : MS y' cc' nL' ret' 0) (hl : ML y.cls idx y') (hd : d' + 1 ≤ d) (hn : n0 ≤ nx ∧ nx ≤ nx1 ∧ nx1 ≤ n1) (hst : (st.map fun v => v.category).sum ≤ 8) (k : ∀ (r : Int32) (rf' : RFt) (mem' : MMt), M rf' → K r mem' → RT ret' (some (.int r)) → G sx y cc nL ret d n0 n1 Q nx1 rf' mem' pc' L (.int r :: st)) : G sx y cc nL ret d n0 n1 Q nx rf mem pc L (st) :=
  G_callS0 h C w hl hd hn hst (fun v rf' mem' hq hrt => by obtain ⟨hp, r, rfl, hk⟩ := hq; exact k r rf' mem' hp hk hrt)
theorem G_callS0v {M : RFt → Prop} {K : MMt → Prop} (h : At cc pc (.invokestatic idx) 3 pc') (C : Ct sx y' cc' nL' ret' d' [] nx nx1 rf mem (QQv M K)) (w : MS y' cc' nL' ret' 0) (hl : ML y.cls idx y') (hd : d' + 1 ≤ d) (hn : n0 ≤ nx ∧ nx ≤ nx1 ∧ nx1 ≤ n1) (hst : (st.map fun v => v.category).sum ≤ 8) (k : ∀ (rf' : RFt) (mem' : MMt), M rf' → K mem' → G sx y cc nL ret d n0 n1 Q nx1 rf' mem' pc' L st) : G sx y cc nL ret d n0 n1 Q nx rf mem pc L (st) :=
  G_callS0 h C w hl hd hn hst (fun v rf' mem' hq hrt => by obtain ⟨hp, rfl, hk⟩ := hq; exact k rf' mem' hp hk)
theorem G_callS1i {M : RFt → Prop} {K : Int32 → MMt → Prop} {a1 : Value} (h : At cc pc (.invokestatic idx) 3 pc') (C : Ct sx y' cc' nL' ret' d' [a1] nx nx1 rf mem (QQi M K)) (w : MS y' cc' nL' ret' 1) (hl : ML y.cls idx y') (hd : d' + 1 ≤ d) (hn : n0 ≤ nx ∧ nx ≤ nx1 ∧ nx1 ≤ n1) (hst : (st.map fun v => v.category).sum ≤ 8) (k : ∀ (r : Int32) (rf' : RFt) (mem' : MMt), M rf' → K r mem' → RT ret' (some (.int r)) → G sx y cc nL ret d n0 n1 Q nx1 rf' mem' pc' L (.int r :: st)) : G sx y cc nL ret d n0 n1 Q nx rf mem pc L (a1 :: st) :=
  G_callS1 h C w hl hd hn hst (fun v rf' mem' hq hrt => by obtain ⟨hp, r, rfl, hk⟩ := hq; exact k r rf' mem' hp hk hrt)
theorem G_callS1v {M : RFt → Prop} {K : MMt → Prop} {a1 : Value} (h : At cc pc (.invokestatic idx) 3 pc') (C : Ct sx y' cc' nL' ret' d' [a1] nx nx1 rf mem (QQv M K)) (w : MS y' cc' nL' ret' 1) (hl : ML y.cls idx y') (hd : d' + 1 ≤ d) (hn : n0 ≤ nx ∧ nx ≤ nx1 ∧ nx1 ≤ n1) (hst : (st.map fun v => v.category).sum ≤ 8) (k : ∀ (rf' : RFt) (mem' : MMt), M rf' → K mem' → G sx y cc nL ret d n0 n1 Q nx1 rf' mem' pc' L st) : G sx y cc nL ret d n0 n1 Q nx rf mem pc L (a1 :: st) :=
  G_callS1 h C w hl hd hn hst (fun v rf' mem' hq hrt => by obtain ⟨hp, rfl, hk⟩ := hq; exact k rf' mem' hp hk)
theorem G_callS2i {M : RFt → Prop} {K : Int32 → MMt → Prop} {a1 a2 : Value} (h : At cc pc (.invokestatic idx) 3 pc') (C : Ct sx y' cc' nL' ret' d' [a1, a2] nx nx1 rf mem (QQi M K)) (w : MS y' cc' nL' ret' 2) (hl : ML y.cls idx y') (hd : d' + 1 ≤ d) (hn : n0 ≤ nx ∧ nx ≤ nx1 ∧ nx1 ≤ n1) (hst : (st.map fun v => v.category).sum ≤ 8) (k : ∀ (r : Int32) (rf' : RFt) (mem' : MMt), M rf' → K r mem' → RT ret' (some (.int r)) → G sx y cc nL ret d n0 n1 Q nx1 rf' mem' pc' L (.int r :: st)) : G sx y cc nL ret d n0 n1 Q nx rf mem pc L (a2 :: a1 :: st) :=
  G_callS2 h C w hl hd hn hst (fun v rf' mem' hq hrt => by obtain ⟨hp, r, rfl, hk⟩ := hq; exact k r rf' mem' hp hk hrt)
theorem G_callS2v {M : RFt → Prop} {K : MMt → Prop} {a1 a2 : Value} (h : At cc pc (.invokestatic idx) 3 pc') (C : Ct sx y' cc' nL' ret' d' [a1, a2] nx nx1 rf mem (QQv M K)) (w : MS y' cc' nL' ret' 2) (hl : ML y.cls idx y') (hd : d' + 1 ≤ d) (hn : n0 ≤ nx ∧ nx ≤ nx1 ∧ nx1 ≤ n1) (hst : (st.map fun v => v.category).sum ≤ 8) (k : ∀ (rf' : RFt) (mem' : MMt), M rf' → K mem' → G sx y cc nL ret d n0 n1 Q nx1 rf' mem' pc' L st) : G sx y cc nL ret d n0 n1 Q nx rf mem pc L (a2 :: a1 :: st) :=
  G_callS2 h C w hl hd hn hst (fun v rf' mem' hq hrt => by obtain ⟨hp, rfl, hk⟩ := hq; exact k rf' mem' hp hk)
theorem G_callS3i {M : RFt → Prop} {K : Int32 → MMt → Prop} {a1 a2 a3 : Value} (h : At cc pc (.invokestatic idx) 3 pc') (C : Ct sx y' cc' nL' ret' d' [a1, a2, a3] nx nx1 rf mem (QQi M K)) (w : MS y' cc' nL' ret' 3) (hl : ML y.cls idx y') (hd : d' + 1 ≤ d) (hn : n0 ≤ nx ∧ nx ≤ nx1 ∧ nx1 ≤ n1) (hst : (st.map fun v => v.category).sum ≤ 8) (k : ∀ (r : Int32) (rf' : RFt) (mem' : MMt), M rf' → K r mem' → RT ret' (some (.int r)) → G sx y cc nL ret d n0 n1 Q nx1 rf' mem' pc' L (.int r :: st)) : G sx y cc nL ret d n0 n1 Q nx rf mem pc L (a3 :: a2 :: a1 :: st) :=
  G_callS3 h C w hl hd hn hst (fun v rf' mem' hq hrt => by obtain ⟨hp, r, rfl, hk⟩ := hq; exact k r rf' mem' hp hk hrt)
theorem G_callS3v {M : RFt → Prop} {K : MMt → Prop} {a1 a2 a3 : Value} (h : At cc pc (.invokestatic idx) 3 pc') (C : Ct sx y' cc' nL' ret' d' [a1, a2, a3] nx nx1 rf mem (QQv M K)) (w : MS y' cc' nL' ret' 3) (hl : ML y.cls idx y') (hd : d' + 1 ≤ d) (hn : n0 ≤ nx ∧ nx ≤ nx1 ∧ nx1 ≤ n1) (hst : (st.map fun v => v.category).sum ≤ 8) (k : ∀ (rf' : RFt) (mem' : MMt), M rf' → K mem' → G sx y cc nL ret d n0 n1 Q nx1 rf' mem' pc' L st) : G sx y cc nL ret d n0 n1 Q nx rf mem pc L (a3 :: a2 :: a1 :: st) :=
  G_callS3 h C w hl hd hn hst (fun v rf' mem' hq hrt => by obtain ⟨hp, rfl, hk⟩ := hq; exact k rf' mem' hp hk)
theorem G_callS4i {M : RFt → Prop} {K : Int32 → MMt → Prop} {a1 a2 a3 a4 : Value} (h : At cc pc (.invokestatic idx) 3 pc') (C : Ct sx y' cc' nL' ret' d' [a1, a2, a3, a4] nx nx1 rf mem (QQi M K)) (w : MS y' cc' nL' ret' 4) (hl : ML y.cls idx y') (hd : d' + 1 ≤ d) (hn : n0 ≤ nx ∧ nx ≤ nx1 ∧ nx1 ≤ n1) (hst : (st.map fun v => v.category).sum ≤ 8) (k : ∀ (r : Int32) (rf' : RFt) (mem' : MMt), M rf' → K r mem' → RT ret' (some (.int r)) → G sx y cc nL ret d n0 n1 Q nx1 rf' mem' pc' L (.int r :: st)) : G sx y cc nL ret d n0 n1 Q nx rf mem pc L (a4 :: a3 :: a2 :: a1 :: st) :=
  G_callS4 h C w hl hd hn hst (fun v rf' mem' hq hrt => by obtain ⟨hp, r, rfl, hk⟩ := hq; exact k r rf' mem' hp hk hrt)
theorem G_callS4v {M : RFt → Prop} {K : MMt → Prop} {a1 a2 a3 a4 : Value} (h : At cc pc (.invokestatic idx) 3 pc') (C : Ct sx y' cc' nL' ret' d' [a1, a2, a3, a4] nx nx1 rf mem (QQv M K)) (w : MS y' cc' nL' ret' 4) (hl : ML y.cls idx y') (hd : d' + 1 ≤ d) (hn : n0 ≤ nx ∧ nx ≤ nx1 ∧ nx1 ≤ n1) (hst : (st.map fun v => v.category).sum ≤ 8) (k : ∀ (rf' : RFt) (mem' : MMt), M rf' → K mem' → G sx y cc nL ret d n0 n1 Q nx1 rf' mem' pc' L st) : G sx y cc nL ret d n0 n1 Q nx rf mem pc L (a4 :: a3 :: a2 :: a1 :: st) :=
  G_callS4 h C w hl hd hn hst (fun v rf' mem' hq hrt => by obtain ⟨hp, rfl, hk⟩ := hq; exact k rf' mem' hp hk)
theorem G_callS5i {M : RFt → Prop} {K : Int32 → MMt → Prop} {a1 a2 a3 a4 a5 : Value} (h : At cc pc (.invokestatic idx) 3 pc') (C : Ct sx y' cc' nL' ret' d' [a1, a2, a3, a4, a5] nx nx1 rf mem (QQi M K)) (w : MS y' cc' nL' ret' 5) (hl : ML y.cls idx y') (hd : d' + 1 ≤ d) (hn : n0 ≤ nx ∧ nx ≤ nx1 ∧ nx1 ≤ n1) (hst : (st.map fun v => v.category).sum ≤ 8) (k : ∀ (r : Int32) (rf' : RFt) (mem' : MMt), M rf' → K r mem' → RT ret' (some (.int r)) → G sx y cc nL ret d n0 n1 Q nx1 rf' mem' pc' L (.int r :: st)) : G sx y cc nL ret d n0 n1 Q nx rf mem pc L (a5 :: a4 :: a3 :: a2 :: a1 :: st) :=
  G_callS5 h C w hl hd hn hst (fun v rf' mem' hq hrt => by obtain ⟨hp, r, rfl, hk⟩ := hq; exact k r rf' mem' hp hk hrt)
theorem G_callS5v {M : RFt → Prop} {K : MMt → Prop} {a1 a2 a3 a4 a5 : Value} (h : At cc pc (.invokestatic idx) 3 pc') (C : Ct sx y' cc' nL' ret' d' [a1, a2, a3, a4, a5] nx nx1 rf mem (QQv M K)) (w : MS y' cc' nL' ret' 5) (hl : ML y.cls idx y') (hd : d' + 1 ≤ d) (hn : n0 ≤ nx ∧ nx ≤ nx1 ∧ nx1 ≤ n1) (hst : (st.map fun v => v.category).sum ≤ 8) (k : ∀ (rf' : RFt) (mem' : MMt), M rf' → K mem' → G sx y cc nL ret d n0 n1 Q nx1 rf' mem' pc' L st) : G sx y cc nL ret d n0 n1 Q nx rf mem pc L (a5 :: a4 :: a3 :: a2 :: a1 :: st) :=
  G_callS5 h C w hl hd hn hst (fun v rf' mem' hq hrt => by obtain ⟨hp, rfl, hk⟩ := hq; exact k rf' mem' hp hk)
theorem G_callSN2i {M : RFt → Prop} {K : Int32 → MMt → Prop} {a1 a2 : Value} (h : At cc pc (.invokestatic idx) 3 pc') (C : Ct sx y' cc' nL' ret' d' [a1, a2] nx nx1 rf mem (QQi M K)) (w : MS y' cc' nL' ret' 2) (hl : (y.cls, idx, y') ∈ nestL) (hd : d' + 1 ≤ d) (hn : n0 ≤ nx ∧ nx ≤ nx1 ∧ nx1 ≤ n1) (hst : (st.map fun v => v.category).sum ≤ 8) (k : ∀ (r : Int32) (rf' : RFt) (mem' : MMt), M rf' → K r mem' → RT ret' (some (.int r)) → G sx y cc nL ret d n0 n1 Q nx1 rf' mem' pc' L (.int r :: st)) : G sx y cc nL ret d n0 n1 Q nx rf mem pc L (a2 :: a1 :: st) :=
  G_callSN2 h C w hl hd hn hst (fun v rf' mem' hq hrt => by obtain ⟨hp, r, rfl, hk⟩ := hq; exact k r rf' mem' hp hk hrt)
theorem G_callSN3i {M : RFt → Prop} {K : Int32 → MMt → Prop} {a1 a2 a3 : Value} (h : At cc pc (.invokestatic idx) 3 pc') (C : Ct sx y' cc' nL' ret' d' [a1, a2, a3] nx nx1 rf mem (QQi M K)) (w : MS y' cc' nL' ret' 3) (hl : (y.cls, idx, y') ∈ nestL) (hd : d' + 1 ≤ d) (hn : n0 ≤ nx ∧ nx ≤ nx1 ∧ nx1 ≤ n1) (hst : (st.map fun v => v.category).sum ≤ 8) (k : ∀ (r : Int32) (rf' : RFt) (mem' : MMt), M rf' → K r mem' → RT ret' (some (.int r)) → G sx y cc nL ret d n0 n1 Q nx1 rf' mem' pc' L (.int r :: st)) : G sx y cc nL ret d n0 n1 Q nx rf mem pc L (a3 :: a2 :: a1 :: st) :=
  G_callSN3 h C w hl hd hn hst (fun v rf' mem' hq hrt => by obtain ⟨hp, r, rfl, hk⟩ := hq; exact k r rf' mem' hp hk hrt)
theorem G_callV0i {M : RFt → Prop} {K : Int32 → MMt → Prop} {b ci N : Nat} (h : At cc pc (.invokevirtual idx) 3 pc') (C : Ct sx y' cc' nL' ret' d' (.ref b :: []) nx nx1 rf mem (QQi M K)) (w : MV y' cc' nL' ret' 0) (hl : ML y.cls idx y') (hd : d' + 1 ≤ d) (hn : n0 ≤ nx ∧ nx ≤ nx1 ∧ nx1 ≤ n1) (hst : (st.map fun v => v.category).sum ≤ 8) (hb : b < nx) (hSb : SH b = (ci + 10, N)) (hcb : (vwCl[ci]?).map (fun q => q.1) = some y'.cls) (k : ∀ (r : Int32) (rf' : RFt) (mem' : MMt), M rf' → K r mem' → RT ret' (some (.int r)) → G sx y cc nL ret d n0 n1 Q nx1 rf' mem' pc' L (.int r :: st)) : G sx y cc nL ret d n0 n1 Q nx rf mem pc L (.ref b :: st) :=
  G_callV0 h C w hl hd hn hst hb hSb hcb (fun v rf' mem' hq hrt => by obtain ⟨hp, r, rfl, hk⟩ := hq; exact k r rf' mem' hp hk hrt)
theorem G_callV0v {M : RFt → Prop} {K : MMt → Prop} {b ci N : Nat} (h : At cc pc (.invokevirtual idx) 3 pc') (C : Ct sx y' cc' nL' ret' d' (.ref b :: []) nx nx1 rf mem (QQv M K)) (w : MV y' cc' nL' ret' 0) (hl : ML y.cls idx y') (hd : d' + 1 ≤ d) (hn : n0 ≤ nx ∧ nx ≤ nx1 ∧ nx1 ≤ n1) (hst : (st.map fun v => v.category).sum ≤ 8) (hb : b < nx) (hSb : SH b = (ci + 10, N)) (hcb : (vwCl[ci]?).map (fun q => q.1) = some y'.cls) (k : ∀ (rf' : RFt) (mem' : MMt), M rf' → K mem' → G sx y cc nL ret d n0 n1 Q nx1 rf' mem' pc' L st) : G sx y cc nL ret d n0 n1 Q nx rf mem pc L (.ref b :: st) :=
  G_callV0 h C w hl hd hn hst hb hSb hcb (fun v rf' mem' hq hrt => by obtain ⟨hp, rfl, hk⟩ := hq; exact k rf' mem' hp hk)
theorem G_callV1i {M : RFt → Prop} {K : Int32 → MMt → Prop} {a1 : Value} {b ci N : Nat} (h : At cc pc (.invokevirtual idx) 3 pc') (C : Ct sx y' cc' nL' ret' d' (.ref b :: [a1]) nx nx1 rf mem (QQi M K)) (w : MV y' cc' nL' ret' 1) (hl : ML y.cls idx y') (hd : d' + 1 ≤ d) (hn : n0 ≤ nx ∧ nx ≤ nx1 ∧ nx1 ≤ n1) (hst : (st.map fun v => v.category).sum ≤ 8) (hb : b < nx) (hSb : SH b = (ci + 10, N)) (hcb : (vwCl[ci]?).map (fun q => q.1) = some y'.cls) (k : ∀ (r : Int32) (rf' : RFt) (mem' : MMt), M rf' → K r mem' → RT ret' (some (.int r)) → G sx y cc nL ret d n0 n1 Q nx1 rf' mem' pc' L (.int r :: st)) : G sx y cc nL ret d n0 n1 Q nx rf mem pc L (a1 :: .ref b :: st) :=
  G_callV1 h C w hl hd hn hst hb hSb hcb (fun v rf' mem' hq hrt => by obtain ⟨hp, r, rfl, hk⟩ := hq; exact k r rf' mem' hp hk hrt)
theorem G_callV1v {M : RFt → Prop} {K : MMt → Prop} {a1 : Value} {b ci N : Nat} (h : At cc pc (.invokevirtual idx) 3 pc') (C : Ct sx y' cc' nL' ret' d' (.ref b :: [a1]) nx nx1 rf mem (QQv M K)) (w : MV y' cc' nL' ret' 1) (hl : ML y.cls idx y') (hd : d' + 1 ≤ d) (hn : n0 ≤ nx ∧ nx ≤ nx1 ∧ nx1 ≤ n1) (hst : (st.map fun v => v.category).sum ≤ 8) (hb : b < nx) (hSb : SH b = (ci + 10, N)) (hcb : (vwCl[ci]?).map (fun q => q.1) = some y'.cls) (k : ∀ (rf' : RFt) (mem' : MMt), M rf' → K mem' → G sx y cc nL ret d n0 n1 Q nx1 rf' mem' pc' L st) : G sx y cc nL ret d n0 n1 Q nx rf mem pc L (a1 :: .ref b :: st) :=
  G_callV1 h C w hl hd hn hst hb hSb hcb (fun v rf' mem' hq hrt => by obtain ⟨hp, rfl, hk⟩ := hq; exact k rf' mem' hp hk)
theorem G_callV2i {M : RFt → Prop} {K : Int32 → MMt → Prop} {a1 a2 : Value} {b ci N : Nat} (h : At cc pc (.invokevirtual idx) 3 pc') (C : Ct sx y' cc' nL' ret' d' (.ref b :: [a1, a2]) nx nx1 rf mem (QQi M K)) (w : MV y' cc' nL' ret' 2) (hl : ML y.cls idx y') (hd : d' + 1 ≤ d) (hn : n0 ≤ nx ∧ nx ≤ nx1 ∧ nx1 ≤ n1) (hst : (st.map fun v => v.category).sum ≤ 8) (hb : b < nx) (hSb : SH b = (ci + 10, N)) (hcb : (vwCl[ci]?).map (fun q => q.1) = some y'.cls) (k : ∀ (r : Int32) (rf' : RFt) (mem' : MMt), M rf' → K r mem' → RT ret' (some (.int r)) → G sx y cc nL ret d n0 n1 Q nx1 rf' mem' pc' L (.int r :: st)) : G sx y cc nL ret d n0 n1 Q nx rf mem pc L (a2 :: a1 :: .ref b :: st) :=
  G_callV2 h C w hl hd hn hst hb hSb hcb (fun v rf' mem' hq hrt => by obtain ⟨hp, r, rfl, hk⟩ := hq; exact k r rf' mem' hp hk hrt)
theorem G_callV2v {M : RFt → Prop} {K : MMt → Prop} {a1 a2 : Value} {b ci N : Nat} (h : At cc pc (.invokevirtual idx) 3 pc') (C : Ct sx y' cc' nL' ret' d' (.ref b :: [a1, a2]) nx nx1 rf mem (QQv M K)) (w : MV y' cc' nL' ret' 2) (hl : ML y.cls idx y') (hd : d' + 1 ≤ d) (hn : n0 ≤ nx ∧ nx ≤ nx1 ∧ nx1 ≤ n1) (hst : (st.map fun v => v.category).sum ≤ 8) (hb : b < nx) (hSb : SH b = (ci + 10, N)) (hcb : (vwCl[ci]?).map (fun q => q.1) = some y'.cls) (k : ∀ (rf' : RFt) (mem' : MMt), M rf' → K mem' → G sx y cc nL ret d n0 n1 Q nx1 rf' mem' pc' L st) : G sx y cc nL ret d n0 n1 Q nx rf mem pc L (a2 :: a1 :: .ref b :: st) :=
  G_callV2 h C w hl hd hn hst hb hSb hcb (fun v rf' mem' hq hrt => by obtain ⟨hp, rfl, hk⟩ := hq; exact k rf' mem' hp hk)
theorem G_callV3i {M : RFt → Prop} {K : Int32 → MMt → Prop} {a1 a2 a3 : Value} {b ci N : Nat} (h : At cc pc (.invokevirtual idx) 3 pc') (C : Ct sx y' cc' nL' ret' d' (.ref b :: [a1, a2, a3]) nx nx1 rf mem (QQi M K)) (w : MV y' cc' nL' ret' 3) (hl : ML y.cls idx y') (hd : d' + 1 ≤ d) (hn : n0 ≤ nx ∧ nx ≤ nx1 ∧ nx1 ≤ n1) (hst : (st.map fun v => v.category).sum ≤ 8) (hb : b < nx) (hSb : SH b = (ci + 10, N)) (hcb : (vwCl[ci]?).map (fun q => q.1) = some y'.cls) (k : ∀ (r : Int32) (rf' : RFt) (mem' : MMt), M rf' → K r mem' → RT ret' (some (.int r)) → G sx y cc nL ret d n0 n1 Q nx1 rf' mem' pc' L (.int r :: st)) : G sx y cc nL ret d n0 n1 Q nx rf mem pc L (a3 :: a2 :: a1 :: .ref b :: st) :=
  G_callV3 h C w hl hd hn hst hb hSb hcb (fun v rf' mem' hq hrt => by obtain ⟨hp, r, rfl, hk⟩ := hq; exact k r rf' mem' hp hk hrt)
theorem G_callV3v {M : RFt → Prop} {K : MMt → Prop} {a1 a2 a3 : Value} {b ci N : Nat} (h : At cc pc (.invokevirtual idx) 3 pc') (C : Ct sx y' cc' nL' ret' d' (.ref b :: [a1, a2, a3]) nx nx1 rf mem (QQv M K)) (w : MV y' cc' nL' ret' 3) (hl : ML y.cls idx y') (hd : d' + 1 ≤ d) (hn : n0 ≤ nx ∧ nx ≤ nx1 ∧ nx1 ≤ n1) (hst : (st.map fun v => v.category).sum ≤ 8) (hb : b < nx) (hSb : SH b = (ci + 10, N)) (hcb : (vwCl[ci]?).map (fun q => q.1) = some y'.cls) (k : ∀ (rf' : RFt) (mem' : MMt), M rf' → K mem' → G sx y cc nL ret d n0 n1 Q nx1 rf' mem' pc' L st) : G sx y cc nL ret d n0 n1 Q nx rf mem pc L (a3 :: a2 :: a1 :: .ref b :: st) :=
  G_callV3 h C w hl hd hn hst hb hSb hcb (fun v rf' mem' hq hrt => by obtain ⟨hp, rfl, hk⟩ := hq; exact k rf' mem' hp hk)
theorem G_callV4i {M : RFt → Prop} {K : Int32 → MMt → Prop} {a1 a2 a3 a4 : Value} {b ci N : Nat} (h : At cc pc (.invokevirtual idx) 3 pc') (C : Ct sx y' cc' nL' ret' d' (.ref b :: [a1, a2, a3, a4]) nx nx1 rf mem (QQi M K)) (w : MV y' cc' nL' ret' 4) (hl : ML y.cls idx y') (hd : d' + 1 ≤ d) (hn : n0 ≤ nx ∧ nx ≤ nx1 ∧ nx1 ≤ n1) (hst : (st.map fun v => v.category).sum ≤ 8) (hb : b < nx) (hSb : SH b = (ci + 10, N)) (hcb : (vwCl[ci]?).map (fun q => q.1) = some y'.cls) (k : ∀ (r : Int32) (rf' : RFt) (mem' : MMt), M rf' → K r mem' → RT ret' (some (.int r)) → G sx y cc nL ret d n0 n1 Q nx1 rf' mem' pc' L (.int r :: st)) : G sx y cc nL ret d n0 n1 Q nx rf mem pc L (a4 :: a3 :: a2 :: a1 :: .ref b :: st) :=
  G_callV4 h C w hl hd hn hst hb hSb hcb (fun v rf' mem' hq hrt => by obtain ⟨hp, r, rfl, hk⟩ := hq; exact k r rf' mem' hp hk hrt)
theorem G_callV4v {M : RFt → Prop} {K : MMt → Prop} {a1 a2 a3 a4 : Value} {b ci N : Nat} (h : At cc pc (.invokevirtual idx) 3 pc') (C : Ct sx y' cc' nL' ret' d' (.ref b :: [a1, a2, a3, a4]) nx nx1 rf mem (QQv M K)) (w : MV y' cc' nL' ret' 4) (hl : ML y.cls idx y') (hd : d' + 1 ≤ d) (hn : n0 ≤ nx ∧ nx ≤ nx1 ∧ nx1 ≤ n1) (hst : (st.map fun v => v.category).sum ≤ 8) (hb : b < nx) (hSb : SH b = (ci + 10, N)) (hcb : (vwCl[ci]?).map (fun q => q.1) = some y'.cls) (k : ∀ (rf' : RFt) (mem' : MMt), M rf' → K mem' → G sx y cc nL ret d n0 n1 Q nx1 rf' mem' pc' L st) : G sx y cc nL ret d n0 n1 Q nx rf mem pc L (a4 :: a3 :: a2 :: a1 :: .ref b :: st) :=
  G_callV4 h C w hl hd hn hst hb hSb hcb (fun v rf' mem' hq hrt => by obtain ⟨hp, rfl, hk⟩ := hq; exact k rf' mem' hp hk)
theorem G_callV5i {M : RFt → Prop} {K : Int32 → MMt → Prop} {a1 a2 a3 a4 a5 : Value} {b ci N : Nat} (h : At cc pc (.invokevirtual idx) 3 pc') (C : Ct sx y' cc' nL' ret' d' (.ref b :: [a1, a2, a3, a4, a5]) nx nx1 rf mem (QQi M K)) (w : MV y' cc' nL' ret' 5) (hl : ML y.cls idx y') (hd : d' + 1 ≤ d) (hn : n0 ≤ nx ∧ nx ≤ nx1 ∧ nx1 ≤ n1) (hst : (st.map fun v => v.category).sum ≤ 8) (hb : b < nx) (hSb : SH b = (ci + 10, N)) (hcb : (vwCl[ci]?).map (fun q => q.1) = some y'.cls) (k : ∀ (r : Int32) (rf' : RFt) (mem' : MMt), M rf' → K r mem' → RT ret' (some (.int r)) → G sx y cc nL ret d n0 n1 Q nx1 rf' mem' pc' L (.int r :: st)) : G sx y cc nL ret d n0 n1 Q nx rf mem pc L (a5 :: a4 :: a3 :: a2 :: a1 :: .ref b :: st) :=
  G_callV5 h C w hl hd hn hst hb hSb hcb (fun v rf' mem' hq hrt => by obtain ⟨hp, r, rfl, hk⟩ := hq; exact k r rf' mem' hp hk hrt)
theorem G_callV5v {M : RFt → Prop} {K : MMt → Prop} {a1 a2 a3 a4 a5 : Value} {b ci N : Nat} (h : At cc pc (.invokevirtual idx) 3 pc') (C : Ct sx y' cc' nL' ret' d' (.ref b :: [a1, a2, a3, a4, a5]) nx nx1 rf mem (QQv M K)) (w : MV y' cc' nL' ret' 5) (hl : ML y.cls idx y') (hd : d' + 1 ≤ d) (hn : n0 ≤ nx ∧ nx ≤ nx1 ∧ nx1 ≤ n1) (hst : (st.map fun v => v.category).sum ≤ 8) (hb : b < nx) (hSb : SH b = (ci + 10, N)) (hcb : (vwCl[ci]?).map (fun q => q.1) = some y'.cls) (k : ∀ (rf' : RFt) (mem' : MMt), M rf' → K mem' → G sx y cc nL ret d n0 n1 Q nx1 rf' mem' pc' L st) : G sx y cc nL ret d n0 n1 Q nx rf mem pc L (a5 :: a4 :: a3 :: a2 :: a1 :: .ref b :: st) :=
  G_callV5 h C w hl hd hn hst hb hSb hcb (fun v rf' mem' hq hrt => by obtain ⟨hp, rfl, hk⟩ := hq; exact k rf' mem' hp hk)
theorem G_callV1r {M : RFt → Prop} {K : Nat → MMt → Prop} {a1 : Value} {b ci N : Nat} {ci2 : Nat} (h : At cc pc (.invokevirtual idx) 3 pc') (C : Ct sx y' cc' nL' ret' d' (.ref b :: [a1]) nx nx1 rf mem (QQr ci2 M K)) (w : MV y' cc' nL' ret' 1) (hl : ML y.cls idx y') (hd : d' + 1 ≤ d) (hn : n0 ≤ nx ∧ nx ≤ nx1 ∧ nx1 ≤ n1) (hst : (st.map fun v => v.category).sum ≤ 8) (hb : b < nx) (hSb : SH b = (ci + 10, N)) (hcb : (vwCl[ci]?).map (fun q => q.1) = some y'.cls) (k : ∀ (r : Nat) (rf' : RFt) (mem' : MMt), M rf' → IS ci2 r → K r mem' → G sx y cc nL ret d n0 n1 Q nx1 rf' mem' pc' L (.ref r :: st)) : G sx y cc nL ret d n0 n1 Q nx rf mem pc L (a1 :: .ref b :: st) :=
  G_callV1 h C w hl hd hn hst hb hSb hcb (fun v rf' mem' hq hrt => by obtain ⟨hp, r, rfl, hi, hk⟩ := hq; exact k r rf' mem' hp hi hk)
theorem G_callVS0i {M : RFt → Prop} {K : Int32 → MMt → Prop} {b : Nat} (h : At cc pc (.invokevirtual idx) 3 pc') (C : Ct sx y' cc' nL' ret' d' (.ref (1002 + b) :: []) nx nx1 rf mem (QQi M K)) (w : MV y' cc' nL' ret' 0) (hl : ML y.cls idx y') (hd : d' + 1 ≤ d) (hn : n0 ≤ nx ∧ nx ≤ nx1 ∧ nx1 ≤ n1) (hst : (st.map fun v => v.category).sum ≤ 8) (hb : b < 3) (hcb : y'.cls = "java/lang/String") (k : ∀ (r : Int32) (rf' : RFt) (mem' : MMt), M rf' → K r mem' → RT ret' (some (.int r)) → G sx y cc nL ret d n0 n1 Q nx1 rf' mem' pc' L (.int r :: st)) : G sx y cc nL ret d n0 n1 Q nx rf mem pc L (.ref (1002 + b) :: st) :=
  G_callVS0 h C w hl hd hn hst hb hcb (fun v rf' mem' hq hrt => by obtain ⟨hp, r, rfl, hk⟩ := hq; exact k r rf' mem' hp hk hrt)
theorem G_callVS1i {M : RFt → Prop} {K : Int32 → MMt → Prop} {a1 : Value} {b : Nat} (h : At cc pc (.invokevirtual idx) 3 pc') (C : Ct sx y' cc' nL' ret' d' (.ref (1002 + b) :: [a1]) nx nx1 rf mem (QQi M K)) (w : MV y' cc' nL' ret' 1) (hl : ML y.cls idx y') (hd : d' + 1 ≤ d) (hn : n0 ≤ nx ∧ nx ≤ nx1 ∧ nx1 ≤ n1) (hst : (st.map fun v => v.category).sum ≤ 8) (hb : b < 3) (hcb : y'.cls = "java/lang/String") (k : ∀ (r : Int32) (rf' : RFt) (mem' : MMt), M rf' → K r mem' → RT ret' (some (.int r)) → G sx y cc nL ret d n0 n1 Q nx1 rf' mem' pc' L (.int r :: st)) : G sx y cc nL ret d n0 n1 Q nx rf mem pc L (a1 :: .ref (1002 + b) :: st) :=
  G_callVS1 h C w hl hd hn hst hb hcb (fun v rf' mem' hq hrt => by obtain ⟨hp, r, rfl, hk⟩ := hq; exact k r rf' mem' hp hk hrt)
theorem G_callVS2i {M : RFt → Prop} {K : Int32 → MMt → Prop} {a1 a2 : Value} {b : Nat} (h : At cc pc (.invokevirtual idx) 3 pc') (C : Ct sx y' cc' nL' ret' d' (.ref (1002 + b) :: [a1, a2]) nx nx1 rf mem (QQi M K)) (w : MV y' cc' nL' ret' 2) (hl : ML y.cls idx y') (hd : d' + 1 ≤ d) (hn : n0 ≤ nx ∧ nx ≤ nx1 ∧ nx1 ≤ n1) (hst : (st.map fun v => v.category).sum ≤ 8) (hb : b < 3) (hcb : y'.cls = "java/lang/String") (k : ∀ (r : Int32) (rf' : RFt) (mem' : MMt), M rf' → K r mem' → RT ret' (some (.int r)) → G sx y cc nL ret d n0 n1 Q nx1 rf' mem' pc' L (.int r :: st)) : G sx y cc nL ret d n0 n1 Q nx rf mem pc L (a2 :: a1 :: .ref (1002 + b) :: st) :=
  G_callVS2 h C w hl hd hn hst hb hcb (fun v rf' mem' hq hrt => by obtain ⟨hp, r, rfl, hk⟩ := hq; exact k r rf' mem' hp hk hrt)
end WRAP
