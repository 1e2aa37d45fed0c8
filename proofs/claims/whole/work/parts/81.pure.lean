theorem lc_1155 {sx : SXT} {X18 : Int32 × MMt → Prop} {x3 : Int32} {mem : MMt} {Q : Int32 → MMt → Prop} {k : Nat} (hk : k < 1000) (hI : Inv k mem) (v1 : vp_in (x3 + 1) sx.1) (v2 : vp_in (x3 + 2) sx.1) (v3 : vp_in (x3 + 3) sx.1) (v4 : vp_in (x3 + 4) sx.1) (v5 : vp_in (x3 + 5) sx.1) (hB : ∀ m, Inv (k + 1) m → B_L_law_1481 sx X18 x3 m Q) : B_L_law_1155 sx X18 x3 mem Q :=
  ⟨v1, mo_L_X9_trace (fun _ _ h1 => ⟨v1, mo_L_X10_trace (fun _ m' h2 => ⟨fun _ => hB m' (Inv_mono h2.2), fun ne => absurd h2.1 ne⟩) h1⟩) (k_trace hI)⟩
theorem lc_772 {sx : SXT} {X18 : Int32 × MMt → Prop} {x3 : Int32} {mem : MMt} {Q : Int32 → MMt → Prop} {k : Nat} (hk : k < 1000) (hI : Inv k mem) (v1 : vp_in (x3 + 1) sx.1) (v2 : vp_in (x3 + 2) sx.1) (v3 : vp_in (x3 + 3) sx.1) (v4 : vp_in (x3 + 4) sx.1) (v5 : vp_in (x3 + 5) sx.1) (hB : ∀ m, Inv (k + 1) m → B_L_law_1481 sx X18 x3 m Q) : B_L_law_772 sx X18 x3 mem Q :=
  ⟨v1, ⟨v2, mo_L_X9_rests (fun _ _ h1 => ⟨v1, ⟨v2, mo_L_X10_rests (fun _ m' h2 => ⟨fun _ => hB m' (Inv_mono h2.2), fun ne => absurd h2.1 ne⟩) h1⟩⟩) (k_rests hI)⟩⟩
theorem lc_904 {sx : SXT} {X18 : Int32 × MMt → Prop} {x3 : Int32} {mem : MMt} {Q : Int32 → MMt → Prop} {k : Nat} (hk : k < 1000) (hI : Inv k mem) (v1 : vp_in (x3 + 1) sx.1) (v2 : vp_in (x3 + 2) sx.1) (v3 : vp_in (x3 + 3) sx.1) (v4 : vp_in (x3 + 4) sx.1) (v5 : vp_in (x3 + 5) sx.1) (hB : ∀ m, Inv (k + 1) m → B_L_law_1481 sx X18 x3 m Q) : B_L_law_904 sx X18 x3 mem Q :=
  ⟨v1, ⟨v2, mo_L_X9_least (fun _ _ h1 => ⟨v1, ⟨v2, mo_L_X10_least (fun _ m' h2 => ⟨fun _ => hB m' (Inv_mono h2.2), fun ne => absurd h2.1 ne⟩) h1⟩⟩) (k_least hI)⟩⟩
theorem lc_1036 {sx : SXT} {X18 : Int32 × MMt → Prop} {x3 : Int32} {mem : MMt} {Q : Int32 → MMt → Prop} {k : Nat} (hk : k < 1000) (hI : Inv k mem) (v1 : vp_in (x3 + 1) sx.1) (v2 : vp_in (x3 + 2) sx.1) (v3 : vp_in (x3 + 3) sx.1) (v4 : vp_in (x3 + 4) sx.1) (v5 : vp_in (x3 + 5) sx.1) (hB : ∀ m, Inv (k + 1) m → B_L_law_1481 sx X18 x3 m Q) : B_L_law_1036 sx X18 x3 mem Q :=
  ⟨v1, ⟨v2, ⟨v3, ⟨v4, mo_L_X9_odds (fun _ _ h1 => ⟨v1, ⟨v2, ⟨v3, ⟨v4, mo_L_X10_odds (fun _ m' h2 => ⟨fun _ => hB m' (Inv_mono h2.2), fun ne => absurd h2.1 ne⟩) h1⟩⟩⟩⟩) (k_odds hI)⟩⟩⟩⟩
theorem lc_270 {sx : SXT} {X18 : Int32 × MMt → Prop} {x3 : Int32} {mem : MMt} {Q : Int32 → MMt → Prop} {k : Nat} (hk : k < 1000) (hI : Inv k mem) (v1 : vp_in (x3 + 1) sx.1) (v2 : vp_in (x3 + 2) sx.1) (v3 : vp_in (x3 + 3) sx.1) (v4 : vp_in (x3 + 4) sx.1) (v5 : vp_in (x3 + 5) sx.1) (hB : ∀ m, Inv (k + 1) m → B_L_law_1481 sx X18 x3 m Q) : B_L_law_270 sx X18 x3 mem Q :=
  ⟨v1, ⟨v2, mo_L_X9_become (fun _ _ h1 => ⟨v1, ⟨v2, mo_L_X10_become (fun _ m' h2 => ⟨fun _ => hB m' (Inv_mono h2.2), fun ne => absurd h2.1 ne⟩) h1⟩⟩) (k_become hI)⟩⟩
theorem lc_1422 {sx : SXT} {X18 : Int32 × MMt → Prop} {x3 : Int32} {mem : MMt} {Q : Int32 → MMt → Prop} {k : Nat} (hk : k < 1000) (hI : Inv k mem) (v1 : vp_in (x3 + 1) sx.1) (v2 : vp_in (x3 + 2) sx.1) (v3 : vp_in (x3 + 3) sx.1) (v4 : vp_in (x3 + 4) sx.1) (v5 : vp_in (x3 + 5) sx.1) (hB : ∀ m, Inv (k + 1) m → B_L_law_1481 sx X18 x3 m Q) : B_L_law_1422 sx X18 x3 mem Q :=
  mo_L_X9_check (fun _ _ h1 => mo_L_X10_check (fun _ m' h2 => ⟨fun _ => hB m' (Inv_mono h2.2), fun ne => absurd h2.1 ne⟩) h1) (k_check hI)
theorem lc_402 {sx : SXT} {X18 : Int32 × MMt → Prop} {x3 : Int32} {mem : MMt} {Q : Int32 → MMt → Prop} {k : Nat} (hk : k < 1000) (hI : Inv k mem) (v1 : vp_in (x3 + 1) sx.1) (v2 : vp_in (x3 + 2) sx.1) (v3 : vp_in (x3 + 3) sx.1) (v4 : vp_in (x3 + 4) sx.1) (v5 : vp_in (x3 + 5) sx.1) (hB : ∀ m, Inv (k + 1) m → B_L_law_1481 sx X18 x3 m Q) : B_L_law_402 sx X18 x3 mem Q :=
  ⟨v1, ⟨v2, ⟨v3, mo_L_X9_off (fun _ _ h1 => ⟨v1, ⟨v2, ⟨v3, mo_L_X10_off (fun _ m' h2 => ⟨fun _ => hB m' (Inv_mono h2.2), fun ne => absurd h2.1 ne⟩) h1⟩⟩⟩) (k_off hI)⟩⟩⟩
theorem lc_1178 {sx : SXT} {X18 : Int32 × MMt → Prop} {x3 : Int32} {mem : MMt} {Q : Int32 → MMt → Prop} {k : Nat} (hk : k < 1000) (hI : Inv k mem) (v1 : vp_in (x3 + 1) sx.1) (v2 : vp_in (x3 + 2) sx.1) (v3 : vp_in (x3 + 3) sx.1) (v4 : vp_in (x3 + 4) sx.1) (v5 : vp_in (x3 + 5) sx.1) (hB : ∀ m, Inv (k + 1) m → B_L_law_1481 sx X18 x3 m Q) : B_L_law_1178 sx X18 x3 mem Q :=
  ⟨v1, ⟨v2, ⟨v3, mo_L_X9_sheet (fun _ _ h1 => ⟨v1, ⟨v2, ⟨v3, mo_L_X10_sheet (fun _ m' h2 => ⟨fun _ => hB m' (Inv_mono h2.2), fun ne => absurd h2.1 ne⟩) h1⟩⟩⟩) (k_sheet hI)⟩⟩⟩
theorem lc_1435 {sx : SXT} {X18 : Int32 × MMt → Prop} {x3 : Int32} {mem : MMt} {Q : Int32 → MMt → Prop} {k : Nat} (hk : k < 1000) (hI : Inv k mem) (v1 : vp_in (x3 + 1) sx.1) (v2 : vp_in (x3 + 2) sx.1) (v3 : vp_in (x3 + 3) sx.1) (v4 : vp_in (x3 + 4) sx.1) (v5 : vp_in (x3 + 5) sx.1) (hB : ∀ m, Inv (k + 1) m → B_L_law_1481 sx X18 x3 m Q) : B_L_law_1435 sx X18 x3 mem Q :=
  ⟨v1, mo_L_X9_count (fun _ _ h1 => ⟨v1, mo_L_X10_count (fun _ m' h2 => ⟨fun _ => hB m' (Inv_mono h2.2), fun ne => absurd h2.1 ne⟩) h1⟩) (k_count hI)⟩
theorem lc_544 {sx : SXT} {X18 : Int32 × MMt → Prop} {x3 : Int32} {mem : MMt} {Q : Int32 → MMt → Prop} {k : Nat} (hk : k < 1000) (hI : Inv k mem) (v1 : vp_in (x3 + 1) sx.1) (v2 : vp_in (x3 + 2) sx.1) (v3 : vp_in (x3 + 3) sx.1) (v4 : vp_in (x3 + 4) sx.1) (v5 : vp_in (x3 + 5) sx.1) (hB : ∀ m, Inv (k + 1) m → B_L_law_1481 sx X18 x3 m Q) : B_L_law_544 sx X18 x3 mem Q :=
  ⟨v1, ⟨v2, ⟨v3, mo_L_X9_feed (fun _ _ h1 => ⟨v1, ⟨v2, ⟨v3, mo_L_X10_feed (fun _ m' h2 => ⟨fun _ => hB m' (Inv_mono h2.2), fun ne => absurd h2.1 ne⟩) h1⟩⟩⟩) (k_feed hI)⟩⟩⟩
theorem lc_805 {sx : SXT} {X18 : Int32 × MMt → Prop} {x3 : Int32} {mem : MMt} {Q : Int32 → MMt → Prop} {k : Nat} (hk : k < 1000) (hI : Inv k mem) (v1 : vp_in (x3 + 1) sx.1) (v2 : vp_in (x3 + 2) sx.1) (v3 : vp_in (x3 + 3) sx.1) (v4 : vp_in (x3 + 4) sx.1) (v5 : vp_in (x3 + 5) sx.1) (hB : ∀ m, Inv (k + 1) m → B_L_law_1481 sx X18 x3 m Q) : B_L_law_805 sx X18 x3 mem Q :=
  mo_L_X9_first (fun _ _ h1 => mo_L_X10_first (fun _ m' h2 => ⟨fun _ => hB m' (Inv_mono h2.2), fun ne => absurd h2.1 ne⟩) h1) (k_first hI)
theorem lc_937 {sx : SXT} {X18 : Int32 × MMt → Prop} {x3 : Int32} {mem : MMt} {Q : Int32 → MMt → Prop} {k : Nat} (hk : k < 1000) (hI : Inv k mem) (v1 : vp_in (x3 + 1) sx.1) (v2 : vp_in (x3 + 2) sx.1) (v3 : vp_in (x3 + 3) sx.1) (v4 : vp_in (x3 + 4) sx.1) (v5 : vp_in (x3 + 5) sx.1) (hB : ∀ m, Inv (k + 1) m → B_L_law_1481 sx X18 x3 m Q) : B_L_law_937 sx X18 x3 mem Q :=
  ⟨v1, mo_L_X9_lifts (fun _ _ h1 => ⟨v1, mo_L_X10_lifts (fun _ m' h2 => ⟨fun _ => hB m' (Inv_mono h2.2), fun ne => absurd h2.1 ne⟩) h1⟩) (k_lifts hI)⟩
theorem lc_683 {sx : SXT} {X18 : Int32 × MMt → Prop} {x3 : Int32} {mem : MMt} {Q : Int32 → MMt → Prop} {k : Nat} (hk : k < 1000) (hI : Inv k mem) (v1 : vp_in (x3 + 1) sx.1) (v2 : vp_in (x3 + 2) sx.1) (v3 : vp_in (x3 + 3) sx.1) (v4 : vp_in (x3 + 4) sx.1) (v5 : vp_in (x3 + 5) sx.1) (hB : ∀ m, Inv (k + 1) m → B_L_law_1481 sx X18 x3 m Q) : B_L_law_683 sx X18 x3 mem Q :=
  ⟨v1, mo_L_X9_steps (fun _ _ h1 => ⟨v1, mo_L_X10_steps (fun _ m' h2 => ⟨fun _ => hB m' (Inv_mono h2.2), fun ne => absurd h2.1 ne⟩) h1⟩) (k_steps hI)⟩
theorem lc_303 {sx : SXT} {X18 : Int32 × MMt → Prop} {x3 : Int32} {mem : MMt} {Q : Int32 → MMt → Prop} {k : Nat} (hk : k < 1000) (hI : Inv k mem) (v1 : vp_in (x3 + 1) sx.1) (v2 : vp_in (x3 + 2) sx.1) (v3 : vp_in (x3 + 3) sx.1) (v4 : vp_in (x3 + 4) sx.1) (v5 : vp_in (x3 + 5) sx.1) (hB : ∀ m, Inv (k + 1) m → B_L_law_1481 sx X18 x3 m Q) : B_L_law_303 sx X18 x3 mem Q :=
  ⟨v1, ⟨v2, mo_L_X9_as (fun _ _ h1 => ⟨v1, ⟨v2, mo_L_X10_as (fun _ m' h2 => ⟨fun _ => hB m' (Inv_mono h2.2), fun ne => absurd h2.1 ne⟩) h1⟩⟩) (k_as hI)⟩⟩
theorem lc_1327 {sx : SXT} {X18 : Int32 × MMt → Prop} {x3 : Int32} {mem : MMt} {Q : Int32 → MMt → Prop} {k : Nat} (hk : k < 1000) (hI : Inv k mem) (v1 : vp_in (x3 + 1) sx.1) (v2 : vp_in (x3 + 2) sx.1) (v3 : vp_in (x3 + 3) sx.1) (v4 : vp_in (x3 + 4) sx.1) (v5 : vp_in (x3 + 5) sx.1) (hB : ∀ m, Inv (k + 1) m → B_L_law_1481 sx X18 x3 m Q) : B_L_law_1327 sx X18 x3 mem Q :=
  ⟨v1, mo_L_X9_pushes (fun _ _ h1 => ⟨v1, mo_L_X10_pushes (fun _ m' h2 => ⟨fun _ => hB m' (Inv_mono h2.2), fun ne => absurd h2.1 ne⟩) h1⟩) (k_pushes hI)⟩
theorem lc_818 {sx : SXT} {X18 : Int32 × MMt → Prop} {x3 : Int32} {mem : MMt} {Q : Int32 → MMt → Prop} {k : Nat} (hk : k < 1000) (hI : Inv k mem) (v1 : vp_in (x3 + 1) sx.1) (v2 : vp_in (x3 + 2) sx.1) (v3 : vp_in (x3 + 3) sx.1) (v4 : vp_in (x3 + 4) sx.1) (v5 : vp_in (x3 + 5) sx.1) (hB : ∀ m, Inv (k + 1) m → B_L_law_1481 sx X18 x3 m Q) : B_L_law_818 sx X18 x3 mem Q :=
  ⟨v1, ⟨v2, ⟨v3, mo_L_X9_over (fun _ _ h1 => ⟨v1, ⟨v2, ⟨v3, mo_L_X10_over (fun _ m' h2 => ⟨fun _ => hB m' (Inv_mono h2.2), fun ne => absurd h2.1 ne⟩) h1⟩⟩⟩) (k_over hI)⟩⟩⟩
theorem lc_1458 {sx : SXT} {X18 : Int32 × MMt → Prop} {x3 : Int32} {mem : MMt} {Q : Int32 → MMt → Prop} {k : Nat} (hk : k < 1000) (hI : Inv k mem) (v1 : vp_in (x3 + 1) sx.1) (v2 : vp_in (x3 + 2) sx.1) (v3 : vp_in (x3 + 3) sx.1) (v4 : vp_in (x3 + 4) sx.1) (v5 : vp_in (x3 + 5) sx.1) (hB : ∀ m, Inv (k + 1) m → B_L_law_1481 sx X18 x3 m Q) : B_L_law_1458 sx X18 x3 mem Q :=
  ⟨v1, mo_L_X9_told (fun _ _ h1 => ⟨v1, mo_L_X10_told (fun _ m' h2 => ⟨fun _ => hB m' (Inv_mono h2.2), fun ne => absurd h2.1 ne⟩) h1⟩) (k_told hI)⟩
theorem lc_445 {sx : SXT} {X18 : Int32 × MMt → Prop} {x3 : Int32} {mem : MMt} {Q : Int32 → MMt → Prop} {k : Nat} (hk : k < 1000) (hI : Inv k mem) (v1 : vp_in (x3 + 1) sx.1) (v2 : vp_in (x3 + 2) sx.1) (v3 : vp_in (x3 + 3) sx.1) (v4 : vp_in (x3 + 4) sx.1) (v5 : vp_in (x3 + 5) sx.1) (hB : ∀ m, Inv (k + 1) m → B_L_law_1481 sx X18 x3 m Q) : B_L_law_445 sx X18 x3 mem Q :=
  ⟨v1, ⟨v2, mo_L_X9_set (fun _ _ h1 => ⟨v1, ⟨v2, mo_L_X10_set (fun _ m' h2 => ⟨fun _ => hB m' (Inv_mono h2.2), fun ne => absurd h2.1 ne⟩) h1⟩⟩) (k_set hI)⟩⟩
theorem lc_960 {sx : SXT} {X18 : Int32 × MMt → Prop} {x3 : Int32} {mem : MMt} {Q : Int32 → MMt → Prop} {k : Nat} (hk : k < 1000) (hI : Inv k mem) (v1 : vp_in (x3 + 1) sx.1) (v2 : vp_in (x3 + 2) sx.1) (v3 : vp_in (x3 + 3) sx.1) (v4 : vp_in (x3 + 4) sx.1) (v5 : vp_in (x3 + 5) sx.1) (hB : ∀ m, Inv (k + 1) m → B_L_law_1481 sx X18 x3 m Q) : B_L_law_960 sx X18 x3 mem Q :=
  ⟨v1, ⟨v2, ⟨v3, mo_L_X9_rolled (fun _ _ h1 => ⟨v1, ⟨v2, ⟨v3, mo_L_X10_rolled (fun _ m' h2 => ⟨fun _ => hB m' (Inv_mono h2.2), fun ne => absurd h2.1 ne⟩) h1⟩⟩⟩) (k_rolled hI)⟩⟩⟩
theorem lc_1089 {sx : SXT} {X18 : Int32 × MMt → Prop} {x3 : Int32} {mem : MMt} {Q : Int32 → MMt → Prop} {k : Nat} (hk : k < 1000) (hI : Inv k mem) (v1 : vp_in (x3 + 1) sx.1) (v2 : vp_in (x3 + 2) sx.1) (v3 : vp_in (x3 + 3) sx.1) (v4 : vp_in (x3 + 4) sx.1) (v5 : vp_in (x3 + 5) sx.1) (hB : ∀ m, Inv (k + 1) m → B_L_law_1481 sx X18 x3 m Q) : B_L_law_1089 sx X18 x3 mem Q :=
  ⟨v1, mo_L_X9_seed (fun _ _ h1 => ⟨v1, mo_L_X10_seed (fun _ m' h2 => ⟨fun _ => hB m' (Inv_mono h2.2), fun ne => absurd h2.1 ne⟩) h1⟩) (k_seed hI)⟩
theorem lc_706 {sx : SXT} {X18 : Int32 × MMt → Prop} {x3 : Int32} {mem : MMt} {Q : Int32 → MMt → Prop} {k : Nat} (hk : k < 1000) (hI : Inv k mem) (v1 : vp_in (x3 + 1) sx.1) (v2 : vp_in (x3 + 2) sx.1) (v3 : vp_in (x3 + 3) sx.1) (v4 : vp_in (x3 + 4) sx.1) (v5 : vp_in (x3 + 5) sx.1) (hB : ∀ m, Inv (k + 1) m → B_L_law_1481 sx X18 x3 m Q) : B_L_law_706 sx X18 x3 mem Q :=
  ⟨v1, mo_L_X9_loose (fun _ _ h1 => ⟨v1, mo_L_X10_loose (fun _ m' h2 => ⟨fun _ => hB m' (Inv_mono h2.2), fun ne => absurd h2.1 ne⟩) h1⟩) (k_loose hI)⟩
theorem lc_1221 {sx : SXT} {X18 : Int32 × MMt → Prop} {x3 : Int32} {mem : MMt} {Q : Int32 → MMt → Prop} {k : Nat} (hk : k < 1000) (hI : Inv k mem) (v1 : vp_in (x3 + 1) sx.1) (v2 : vp_in (x3 + 2) sx.1) (v3 : vp_in (x3 + 3) sx.1) (v4 : vp_in (x3 + 4) sx.1) (v5 : vp_in (x3 + 5) sx.1) (hB : ∀ m, Inv (k + 1) m → B_L_law_1481 sx X18 x3 m Q) : B_L_law_1221 sx X18 x3 mem Q :=
  ⟨v1, ⟨v2, ⟨v3, mo_L_X9_put (fun _ _ h1 => ⟨v1, ⟨v2, ⟨v3, mo_L_X10_put (fun _ m' h2 => ⟨fun _ => hB m' (Inv_mono h2.2), fun ne => absurd h2.1 ne⟩) h1⟩⟩⟩) (k_put hI)⟩⟩⟩
theorem lc_1350 {sx : SXT} {X18 : Int32 × MMt → Prop} {x3 : Int32} {mem : MMt} {Q : Int32 → MMt → Prop} {k : Nat} (hk : k < 1000) (hI : Inv k mem) (v1 : vp_in (x3 + 1) sx.1) (v2 : vp_in (x3 + 2) sx.1) (v3 : vp_in (x3 + 3) sx.1) (v4 : vp_in (x3 + 4) sx.1) (v5 : vp_in (x3 + 5) sx.1) (hB : ∀ m, Inv (k + 1) m → B_L_law_1481 sx X18 x3 m Q) : B_L_law_1350 sx X18 x3 mem Q :=
  ⟨v1, mo_L_X9_judge (fun _ _ h1 => ⟨v1, mo_L_X10_judge (fun _ m' h2 => ⟨fun _ => hB m' (Inv_mono h2.2), fun ne => absurd h2.1 ne⟩) h1⟩) (k_judge hI)⟩
theorem lc_204 {sx : SXT} {X18 : Int32 × MMt → Prop} {x3 : Int32} {mem : MMt} {Q : Int32 → MMt → Prop} {k : Nat} (hk : k < 1000) (hI : Inv k mem) (v1 : vp_in (x3 + 1) sx.1) (v2 : vp_in (x3 + 2) sx.1) (v3 : vp_in (x3 + 3) sx.1) (v4 : vp_in (x3 + 4) sx.1) (v5 : vp_in (x3 + 5) sx.1) (hB : ∀ m, Inv (k + 1) m → B_L_law_1481 sx X18 x3 m Q) : B_L_law_204 sx X18 x3 mem Q :=
  ⟨v1, ⟨v2, mo_L_X9_good (fun _ _ h1 => ⟨v1, ⟨v2, mo_L_X10_good (fun _ m' h2 => ⟨fun _ => hB m' (Inv_mono h2.2), fun ne => absurd h2.1 ne⟩) h1⟩⟩) (k_good hI)⟩⟩
theorem lc_336 {sx : SXT} {X18 : Int32 × MMt → Prop} {x3 : Int32} {mem : MMt} {Q : Int32 → MMt → Prop} {k : Nat} (hk : k < 1000) (hI : Inv k mem) (v1 : vp_in (x3 + 1) sx.1) (v2 : vp_in (x3 + 2) sx.1) (v3 : vp_in (x3 + 3) sx.1) (v4 : vp_in (x3 + 4) sx.1) (v5 : vp_in (x3 + 5) sx.1) (hB : ∀ m, Inv (k + 1) m → B_L_law_1481 sx X18 x3 m Q) : B_L_law_336 sx X18 x3 mem Q :=
  ⟨v1, ⟨v2, mo_L_X9_place (fun _ _ h1 => ⟨v1, ⟨v2, mo_L_X10_place (fun _ m' h2 => ⟨fun _ => hB m' (Inv_mono h2.2), fun ne => absurd h2.1 ne⟩) h1⟩⟩) (k_place hI)⟩⟩
theorem lc_1112 {sx : SXT} {X18 : Int32 × MMt → Prop} {x3 : Int32} {mem : MMt} {Q : Int32 → MMt → Prop} {k : Nat} (hk : k < 1000) (hI : Inv k mem) (v1 : vp_in (x3 + 1) sx.1) (v2 : vp_in (x3 + 2) sx.1) (v3 : vp_in (x3 + 3) sx.1) (v4 : vp_in (x3 + 4) sx.1) (v5 : vp_in (x3 + 5) sx.1) (hB : ∀ m, Inv (k + 1) m → B_L_law_1481 sx X18 x3 m Q) : B_L_law_1112 sx X18 x3 mem Q :=
  ⟨v1, ⟨v2, ⟨v3, mo_L_X9_voice (fun _ _ h1 => ⟨v1, ⟨v2, ⟨v3, mo_L_X10_voice (fun _ m' h2 => ⟨fun _ => hB m' (Inv_mono h2.2), fun ne => absurd h2.1 ne⟩) h1⟩⟩⟩) (k_voice hI)⟩⟩⟩
theorem lc_729 {sx : SXT} {X18 : Int32 × MMt → Prop} {x3 : Int32} {mem : MMt} {Q : Int32 → MMt → Prop} {k : Nat} (hk : k < 1000) (hI : Inv k mem) (v1 : vp_in (x3 + 1) sx.1) (v2 : vp_in (x3 + 2) sx.1) (v3 : vp_in (x3 + 3) sx.1) (v4 : vp_in (x3 + 4) sx.1) (v5 : vp_in (x3 + 5) sx.1) (hB : ∀ m, Inv (k + 1) m → B_L_law_1481 sx X18 x3 m Q) : B_L_law_729 sx X18 x3 mem Q :=
  ⟨v1, ⟨v2, ⟨v3, mo_L_X9_then (fun _ _ h1 => ⟨v1, ⟨v2, ⟨v3, mo_L_X10_then (fun _ m' h2 => ⟨fun _ => hB m' (Inv_mono h2.2), fun ne => absurd h2.1 ne⟩) h1⟩⟩⟩) (k_then hI)⟩⟩⟩
theorem lc_861 {sx : SXT} {X18 : Int32 × MMt → Prop} {x3 : Int32} {mem : MMt} {Q : Int32 → MMt → Prop} {k : Nat} (hk : k < 1000) (hI : Inv k mem) (v1 : vp_in (x3 + 1) sx.1) (v2 : vp_in (x3 + 2) sx.1) (v3 : vp_in (x3 + 3) sx.1) (v4 : vp_in (x3 + 4) sx.1) (v5 : vp_in (x3 + 5) sx.1) (hB : ∀ m, Inv (k + 1) m → B_L_law_1481 sx X18 x3 m Q) : B_L_law_861 sx X18 x3 mem Q :=
  ⟨v1, ⟨v2, ⟨v3, mo_L_X9_soonest (fun _ _ h1 => ⟨v1, ⟨v2, ⟨v3, mo_L_X10_soonest (fun _ m' h2 => ⟨fun _ => hB m' (Inv_mono h2.2), fun ne => absurd h2.1 ne⟩) h1⟩⟩⟩) (k_soonest hI)⟩⟩⟩
theorem lc_478 {sx : SXT} {X18 : Int32 × MMt → Prop} {x3 : Int32} {mem : MMt} {Q : Int32 → MMt → Prop} {k : Nat} (hk : k < 1000) (hI : Inv k mem) (v1 : vp_in (x3 + 1) sx.1) (v2 : vp_in (x3 + 2) sx.1) (v3 : vp_in (x3 + 3) sx.1) (v4 : vp_in (x3 + 4) sx.1) (v5 : vp_in (x3 + 5) sx.1) (hB : ∀ m, Inv (k + 1) m → B_L_law_1481 sx X18 x3 m Q) : B_L_law_478 sx X18 x3 mem Q :=
  ⟨v1, ⟨v2, mo_L_X9_door (fun _ _ h1 => ⟨v1, ⟨v2, mo_L_X10_door (fun _ m' h2 => ⟨fun _ => hB m' (Inv_mono h2.2), fun ne => absurd h2.1 ne⟩) h1⟩⟩) (k_door hI)⟩⟩
theorem lc_607 {sx : SXT} {X18 : Int32 × MMt → Prop} {x3 : Int32} {mem : MMt} {Q : Int32 → MMt → Prop} {k : Nat} (hk : k < 1000) (hI : Inv k mem) (v1 : vp_in (x3 + 1) sx.1) (v2 : vp_in (x3 + 2) sx.1) (v3 : vp_in (x3 + 3) sx.1) (v4 : vp_in (x3 + 4) sx.1) (v5 : vp_in (x3 + 5) sx.1) (hB : ∀ m, Inv (k + 1) m → B_L_law_1481 sx X18 x3 m Q) : B_L_law_607 sx X18 x3 mem Q :=
  ⟨v1, mo_L_X9_text (fun _ _ h1 => ⟨v1, mo_L_X10_text (fun _ m' h2 => ⟨fun _ => hB m' (Inv_mono h2.2), fun ne => absurd h2.1 ne⟩) h1⟩) (k_text hI)⟩
theorem lc_1373 {sx : SXT} {X18 : Int32 × MMt → Prop} {x3 : Int32} {mem : MMt} {Q : Int32 → MMt → Prop} {k : Nat} (hk : k < 1000) (hI : Inv k mem) (v1 : vp_in (x3 + 1) sx.1) (v2 : vp_in (x3 + 2) sx.1) (v3 : vp_in (x3 + 3) sx.1) (v4 : vp_in (x3 + 4) sx.1) (v5 : vp_in (x3 + 5) sx.1) (hB : ∀ m, Inv (k + 1) m → B_L_law_1481 sx X18 x3 m Q) : B_L_law_1373 sx X18 x3 mem Q :=
  mo_L_X9_image (fun _ _ h1 => mo_L_X10_image (fun _ m' h2 => ⟨fun _ => hB m' (h2.2), fun ne => absurd h2.1 ne⟩) h1) (k_image (by omega) hI)
theorem lc_1386 {sx : SXT} {X18 : Int32 × MMt → Prop} {x3 : Int32} {mem : MMt} {Q : Int32 → MMt → Prop} {k : Nat} (hk : k < 1000) (hI : Inv k mem) (v1 : vp_in (x3 + 1) sx.1) (v2 : vp_in (x3 + 2) sx.1) (v3 : vp_in (x3 + 3) sx.1) (v4 : vp_in (x3 + 4) sx.1) (v5 : vp_in (x3 + 5) sx.1) (hB : ∀ m, Inv (k + 1) m → B_L_law_1481 sx X18 x3 m Q) : B_L_law_1386 sx X18 x3 mem Q :=
  mo_L_X9_restore (fun _ _ h1 => mo_L_X10_restore (fun _ m' h2 => ⟨fun _ => hB m' (Inv_mono h2.2), fun ne => absurd h2.1 ne⟩) h1) (k_restore hI)
theorem lc_1003 {sx : SXT} {X18 : Int32 × MMt → Prop} {x3 : Int32} {mem : MMt} {Q : Int32 → MMt → Prop} {k : Nat} (hk : k < 1000) (hI : Inv k mem) (v1 : vp_in (x3 + 1) sx.1) (v2 : vp_in (x3 + 2) sx.1) (v3 : vp_in (x3 + 3) sx.1) (v4 : vp_in (x3 + 4) sx.1) (v5 : vp_in (x3 + 5) sx.1) (hB : ∀ m, Inv (k + 1) m → B_L_law_1481 sx X18 x3 m Q) : B_L_law_1003 sx X18 x3 mem Q :=
  ⟨v1, ⟨v2, mo_L_X9_whose (fun _ _ h1 => ⟨v1, ⟨v2, mo_L_X10_whose (fun _ m' h2 => ⟨fun _ => hB m' (Inv_mono h2.2), fun ne => absurd h2.1 ne⟩) h1⟩⟩) (k_whose hI)⟩⟩
theorem lc_237 {sx : SXT} {X18 : Int32 × MMt → Prop} {x3 : Int32} {mem : MMt} {Q : Int32 → MMt → Prop} {k : Nat} (hk : k < 1000) (hI : Inv k mem) (v1 : vp_in (x3 + 1) sx.1) (v2 : vp_in (x3 + 2) sx.1) (v3 : vp_in (x3 + 3) sx.1) (v4 : vp_in (x3 + 4) sx.1) (v5 : vp_in (x3 + 5) sx.1) (hB : ∀ m, Inv (k + 1) m → B_L_law_1481 sx X18 x3 m Q) : B_L_law_237 sx X18 x3 mem Q :=
  ⟨v1, ⟨v2, mo_L_X9_ofGood (fun _ _ h1 => ⟨v1, ⟨v2, mo_L_X10_ofGood (fun _ m' h2 => ⟨fun _ => hB m' (Inv_mono h2.2), fun ne => absurd h2.1 ne⟩) h1⟩⟩) (k_ofGood hI)⟩⟩
theorem lc_1264 {sx : SXT} {X18 : Int32 × MMt → Prop} {x3 : Int32} {mem : MMt} {Q : Int32 → MMt → Prop} {k : Nat} (hk : k < 1000) (hI : Inv k mem) (v1 : vp_in (x3 + 1) sx.1) (v2 : vp_in (x3 + 2) sx.1) (v3 : vp_in (x3 + 3) sx.1) (v4 : vp_in (x3 + 4) sx.1) (v5 : vp_in (x3 + 5) sx.1) (hB : ∀ m, Inv (k + 1) m → B_L_law_1481 sx X18 x3 m Q) : B_L_law_1264 sx X18 x3 mem Q :=
  ⟨v1, ⟨v2, ⟨v3, ⟨v4, ⟨v5, mo_L_X9_move (fun _ _ h1 => ⟨v1, ⟨v2, ⟨v3, ⟨v4, ⟨v5, mo_L_X10_move (fun _ m' h2 => ⟨fun _ => hB m' (Inv_mono h2.2), fun ne => absurd h2.1 ne⟩) h1⟩⟩⟩⟩⟩) (k_move hI)⟩⟩⟩⟩⟩
theorem lc_369 {sx : SXT} {X18 : Int32 × MMt → Prop} {x3 : Int32} {mem : MMt} {Q : Int32 → MMt → Prop} {k : Nat} (hk : k < 1000) (hI : Inv k mem) (v1 : vp_in (x3 + 1) sx.1) (v2 : vp_in (x3 + 2) sx.1) (v3 : vp_in (x3 + 3) sx.1) (v4 : vp_in (x3 + 4) sx.1) (v5 : vp_in (x3 + 5) sx.1) (hB : ∀ m, Inv (k + 1) m → B_L_law_1481 sx X18 x3 m Q) : B_L_law_369 sx X18 x3 mem Q :=
  ⟨v1, ⟨v2, mo_L_X9_push (fun _ _ h1 => ⟨v1, ⟨v2, mo_L_X10_push (fun _ m' h2 => ⟨fun _ => hB m' (Inv_mono h2.2), fun ne => absurd h2.1 ne⟩) h1⟩⟩) (k_push hI)⟩⟩
theorem lc_630 {sx : SXT} {X18 : Int32 × MMt → Prop} {x3 : Int32} {mem : MMt} {Q : Int32 → MMt → Prop} {k : Nat} (hk : k < 1000) (hI : Inv k mem) (v1 : vp_in (x3 + 1) sx.1) (v2 : vp_in (x3 + 2) sx.1) (v3 : vp_in (x3 + 3) sx.1) (v4 : vp_in (x3 + 4) sx.1) (v5 : vp_in (x3 + 5) sx.1) (hB : ∀ m, Inv (k + 1) m → B_L_law_1481 sx X18 x3 m Q) : B_L_law_630 sx X18 x3 mem Q :=
  ⟨v1, ⟨v2, ⟨v3, ⟨v4, mo_L_X9_law (fun _ _ h1 => ⟨v1, ⟨v2, ⟨v3, ⟨v4, mo_L_X10_law (fun _ m' h2 => ⟨fun _ => hB m' (Inv_mono h2.2), fun ne => absurd h2.1 ne⟩) h1⟩⟩⟩⟩) (k_law hI)⟩⟩⟩⟩
theorem lc_1399 {sx : SXT} {X18 : Int32 × MMt → Prop} {x3 : Int32} {mem : MMt} {Q : Int32 → MMt → Prop} {k : Nat} (hk : k < 1000) (hI : Inv k mem) (v1 : vp_in (x3 + 1) sx.1) (v2 : vp_in (x3 + 2) sx.1) (v3 : vp_in (x3 + 3) sx.1) (v4 : vp_in (x3 + 4) sx.1) (v5 : vp_in (x3 + 5) sx.1) (hB : ∀ m, Inv (k + 1) m → B_L_law_1481 sx X18 x3 m Q) : B_L_law_1399 sx X18 x3 mem Q :=
  ⟨v1, mo_L_X9_tell (fun _ _ h1 => ⟨v1, mo_L_X10_tell (fun _ m' h2 => ⟨fun _ => hB m' (Inv_mono h2.2), fun ne => absurd h2.1 ne⟩) h1⟩) (k_tell hI)⟩
theorem lc_511 {sx : SXT} {X18 : Int32 × MMt → Prop} {x3 : Int32} {mem : MMt} {Q : Int32 → MMt → Prop} {k : Nat} (hk : k < 1000) (hI : Inv k mem) (v1 : vp_in (x3 + 1) sx.1) (v2 : vp_in (x3 + 2) sx.1) (v3 : vp_in (x3 + 3) sx.1) (v4 : vp_in (x3 + 4) sx.1) (v5 : vp_in (x3 + 5) sx.1) (hB : ∀ m, Inv (k + 1) m → B_L_law_1481 sx X18 x3 m Q) : B_L_law_511 sx X18 x3 mem Q :=
  ⟨v1, ⟨v2, mo_L_X9_lineUp (fun _ _ h1 => ⟨v1, ⟨v2, mo_L_X10_lineUp (fun _ m' h2 => ⟨fun _ => hB m' (Inv_mono h2.2), fun ne => absurd h2.1 ne⟩) h1⟩⟩) (k_lineUp hI)⟩⟩
theorem law_all {sx : SXT} (hsx : sx.1 ≤ 3072) {mem : MMt} (h0 : Inv 0 mem) : L_L_law sx mem (fun r _ => r = 1) := by
  unfold L_L_law B_L_law_18
  refine LOOP_dn (fun d z => ∃ k : Nat, d = 600 - k ∧ k ≤ 512 ∧ z.1.toInt = (6 * k : Nat) ∧ Inv k z.2) (n0 := 600) ⟨0, rfl, by omega, rfl, h0⟩ ?_
  rintro d ⟨x3, m⟩ X ⟨k, rfl, hk512, hx, hI⟩ hX
  dsimp only at hx hI ⊢
  have e0 : (Int32.ofNat sx.1 - 6).toInt = (sx.1 : Int) - 6 := by
    rw [sb_s (by rw [on_ti (by omega)]; simp only [Int32.reduceToInt]; omega), on_ti (by omega)]; simp only [Int32.reduceToInt]
  refine ⟨fun _ => rfl, fun d => ?_⟩
  rw [Int32.lt_iff_toInt_lt, e0, hx] at d
  have hk : k < 1000 := by omega
  have hle : 6 * k + 6 ≤ sx.1 := by omega
  have hx' : TI x3 (6 * k) := hx
  have v1 : vp_in (x3 + 1) sx.1 := (TI.add hx' (rfl : TI 1 1) (by omega) : TI (x3 + 1) (6 * k + 1)).vp (by omega)
  have v2 : vp_in (x3 + 2) sx.1 := (TI.add hx' (rfl : TI 2 2) (by omega) : TI (x3 + 2) (6 * k + 2)).vp (by omega)
  have v3 : vp_in (x3 + 3) sx.1 := (TI.add hx' (rfl : TI 3 3) (by omega) : TI (x3 + 3) (6 * k + 3)).vp (by omega)
  have v4 : vp_in (x3 + 4) sx.1 := (TI.add hx' (rfl : TI 4 4) (by omega) : TI (x3 + 4) (6 * k + 4)).vp (by omega)
  have v5 : vp_in (x3 + 5) sx.1 := (TI.add hx' (rfl : TI 5 5) (by omega) : TI (x3 + 5) (6 * k + 5)).vp (by omega)
  have hB : ∀ m', Inv (k + 1) m' → B_L_law_1481 sx X x3 m' (fun r _ => r = 1) := by
    rintro m' h' v rfl
    exact hX (600 - (k + 1)) _ (by omega) ⟨k + 1, rfl, by omega, (TI.add hx' (rfl : TI 6 6) (by omega) : TI (x3 + 6) (6 * k + 6)), h'⟩
  have hD := hB m (Inv_mono hI)
  refine ⟨hx'.vp (by omega), fun w _ => ?_⟩
  refine ⟨fun _ => hD, fun _ => hD, fun _ => lc_204 hk hI v1 v2 v3 v4 v5 hB, fun _ => lc_237 hk hI v1 v2 v3 v4 v5 hB, fun _ => lc_270 hk hI v1 v2 v3 v4 v5 hB, fun _ => lc_303 hk hI v1 v2 v3 v4 v5 hB, fun _ => lc_336 hk hI v1 v2 v3 v4 v5 hB, fun _ => lc_369 hk hI v1 v2 v3 v4 v5 hB, fun _ => lc_402 hk hI v1 v2 v3 v4 v5 hB, fun _ => lc_445 hk hI v1 v2 v3 v4 v5 hB, fun _ => lc_478 hk hI v1 v2 v3 v4 v5 hB, fun _ => lc_511 hk hI v1 v2 v3 v4 v5 hB, fun _ => lc_544 hk hI v1 v2 v3 v4 v5 hB, fun _ => lc_607 hk hI v1 v2 v3 v4 v5 hB, fun _ => lc_630 hk hI v1 v2 v3 v4 v5 hB, fun _ => lc_683 hk hI v1 v2 v3 v4 v5 hB, fun _ => lc_706 hk hI v1 v2 v3 v4 v5 hB, fun _ => lc_729 hk hI v1 v2 v3 v4 v5 hB, fun _ => lc_772 hk hI v1 v2 v3 v4 v5 hB, fun _ => lc_805 hk hI v1 v2 v3 v4 v5 hB, fun _ => lc_818 hk hI v1 v2 v3 v4 v5 hB, fun _ => lc_861 hk hI v1 v2 v3 v4 v5 hB, fun _ => lc_904 hk hI v1 v2 v3 v4 v5 hB, fun _ => lc_937 hk hI v1 v2 v3 v4 v5 hB, fun _ => lc_960 hk hI v1 v2 v3 v4 v5 hB, fun _ => lc_1003 hk hI v1 v2 v3 v4 v5 hB, fun _ => lc_1036 hk hI v1 v2 v3 v4 v5 hB, fun _ => lc_1089 hk hI v1 v2 v3 v4 v5 hB, fun _ => lc_1112 hk hI v1 v2 v3 v4 v5 hB, fun _ => lc_1155 hk hI v1 v2 v3 v4 v5 hB, fun _ => lc_1178 hk hI v1 v2 v3 v4 v5 hB, fun _ => lc_1221 hk hI v1 v2 v3 v4 v5 hB, fun _ => lc_1264 hk hI v1 v2 v3 v4 v5 hB, fun _ => lc_1327 hk hI v1 v2 v3 v4 v5 hB, fun _ => lc_1350 hk hI v1 v2 v3 v4 v5 hB, fun _ => lc_1373 hk hI v1 v2 v3 v4 v5 hB, fun _ => lc_1386 hk hI v1 v2 v3 v4 v5 hB, fun _ => lc_1399 hk hI v1 v2 v3 v4 v5 hB, fun _ => lc_1422 hk hI v1 v2 v3 v4 v5 hB, fun _ => lc_1435 hk hI v1 v2 v3 v4 v5 hB, fun _ => lc_1458 hk hI v1 v2 v3 v4 v5 hB⟩

theorem Inv_0 {mem : MMt} (h : ∀ a j, a < NX → mem a j = M0 a j) : Inv 0 mem := by
  have r : ∀ a, a < NX → mem a = M0 a := fun a ha => funext fun j => h a j ha
  have r1 := r 1 (by decide)
  have r11 := r 11 (by decide)
  have r77 := r 77 (by decide)
  have r76 := r 76 (by decide)
  have z : ∀ a, M0l.getD a [] = [] → ∀ j, M0 a j = 0 := fun a ha j => by unfold M0; rw [ha]; rfl
  have s2 : mem 77 2 = 12 := by rw [r77]; decide +kernel
  have s6 : mem 77 6 = 0 := by rw [r77]; decide +kernel
  have s7 : mem 77 7 = 0 := by rw [r77]; decide +kernel
  have s8 : mem 77 8 = 0 := by rw [r77]; decide +kernel
  have s120 : mem 77 120 = -1 := by rw [r77]; decide +kernel
  have s221 : mem 77 221 = -1 := by rw [r77]; decide +kernel
  have z13 : ∀ i, mem 13 i = 0 := fun i => by rw [r 13 (by decide)]; exact z 13 rfl i
  have z76 : ∀ i, mem 76 i = 0 := fun i => by rw [r76]; exact z 76 rfl i
  refine ⟨⟨⟨?_, ?_, ?_, ?_⟩, ?_, ?_⟩, ⟨⟨⟨?_, ?_, ?_, ?_, ?_, ?_⟩, ?_, ?_, ?_, ?_, ?_⟩, ?_, ?_, ?_, ?_, ?_⟩, ⟨?_, ?_, ?_⟩, ⟨?_, ?_, ?_, ?_⟩, ?_, ⟨?_, ?_, ?_⟩, ?_⟩
  · rw [s6, r1]; exact z 1 rfl 1
  · rw [r1, r77]; decide +kernel
  · rw [r1, r77]; decide +kernel
  · intro g hg; rw [s6] at hg; exact absurd hg (by simp only [Int32.reduceToInt]; omega)
  · rw [s6]; decide
  · intro g hg; rw [s6] at hg; exact absurd hg (by simp only [Int32.reduceToInt]; omega)
  · rw [s2, r11]; decide +kernel
  · rw [r 12 (by decide), r77]; decide +kernel
  · rw [r 12 (by decide), r77]; decide +kernel
  · rw [r11, r77]; decide +kernel
  · rw [r11, s7]; decide +kernel
  · rw [r11, s8]; decide +kernel
  · intro i hi; rw [s7] at hi; exact absurd hi (by simp only [Int32.reduceToInt]; omega)
  · intro i hi; rw [z13]; decide
  · intro i hi; rw [s8] at hi; exact absurd hi (by simp only [Int32.reduceToInt]; omega)
  · exact Or.inl ⟨s120, by rw [r 15 (by decide)]; exact z 15 rfl 2⟩
  · exact Or.inl ⟨s221, by rw [r 18 (by decide)]; decide +kernel⟩
  · rw [s2]; decide
  · rw [s7]; decide
  · rw [s8]; decide
  · exact Or.inl s120
  · exact Or.inl s221
  · rw [r 15 (by decide)]; exact z 15 rfl 0
  · rw [r 18 (by decide)]; decide +kernel
  · intro i hi
    left
    rw [r 21 (by decide)]
    have e : M0l.getD 21 [] = List.replicate 410 100 := rfl
    unfold M0
    rw [e, List.getD_eq_getElem?_getD, List.getElem?_replicate, if_pos hi]; rfl
  · rw [z76, r 0 (by decide)]; exact z 0 rfl 11
  · rw [z76]; decide
  · rw [z76, z76]
  · intro q; exact absurd (z76 2) q
  · intro j _; rw [r 67 (by decide), r 79 (by decide), z 67 rfl, z 79 rfl]
  · rw [z76, r 64 (by decide)]; exact z 64 rfl 1
  · rw [z76]; decide
  · intro i hi; rw [z76] at hi; exact absurd hi (by simp only [Int32.reduceToInt]; omega)
  · have zz : ∀ a, 68 ≤ a → a < 76 ∨ (86 ≤ a ∧ a ≤ 88) → ∀ j, mem a j = 0 := by
      intro a ha hb j
      have ha2 : a < 91 := by omega
      rw [r a ha2]
      refine z a ?_ j
      have : a = 68 ∨ a = 69 ∨ a = 70 ∨ a = 71 ∨ a = 72 ∨ a = 73 ∨ a = 74 ∨ a = 75 ∨ a = 86 ∨ a = 87 ∨ a = 88 := by omega
      rcases this with rfl | rfl | rfl | rfl | rfl | rfl | rfl | rfl | rfl | rfl | rfl <;> rfl
    intro k hk
    refine ⟨?_, ?_, ?_, ?_, fun i hi => ?_⟩
    · rw [zz _ (by omega) (by omega), zz 86 (by omega) (by omega)]
    · rw [zz 86 (by omega) (by omega)]; exact Or.inl rfl
    · rw [zz _ (by omega) (by omega), zz 87 (by omega) (by omega)]
    · rw [zz 87 (by omega) (by omega)]; decide
    · rw [zz _ (by omega) (by omega), zz 88 (by omega) (by omega)]
theorem pure_all : ∀ sx : SXT, sx.1 ≤ 3072 → ∀ mem : MMt, (∀ a j, a < NX → mem a j = M0 a j) → L_L_law sx mem (fun r _ => r = 1) := fun _ hs _ hm => law_all hs (Inv_0 hm)
