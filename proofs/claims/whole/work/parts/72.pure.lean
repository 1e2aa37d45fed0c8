theorem all_imp.{v} {α : Sort v} {P P' : α → Prop} (h : ∀ x, P x → P' x) : (∀ x, P x) → ∀ x, P' x := fun q x => h x (q x)
theorem LOOP_imp {σ : Type} {b b' : (σ → Prop) → σ → Prop} {s : σ} (h : ∀ X z, b X z → b' X z) : LOOP b s → LOOP b' s := fun ⟨I, h1, h2⟩ => ⟨I, h1, fun n z hI => h _ _ (h2 n z hI)⟩
theorem mo_L_X9_within {a1 : Int32} {a2 : Int32} {a3 : Int32} {mem : MMt} {Q Q' : Int32 → MMt → Prop} (hq : ∀ r0 r1, Q r0 r1 → Q' r0 r1) : L_X9_within a1 a2 a3 mem Q → L_X9_within a1 a2 a3 mem Q' := by
  unfold L_X9_within
  repeat' first
    | with_reducible exact id
    | with_reducible exact hq _ _
    | with_reducible refine And.imp ?_ ?_
    | with_reducible refine all_imp fun _ => ?_
theorem mo_L_X9_isKm {a1 : Int32} {mem : MMt} {Q Q' : Int32 → MMt → Prop} (hq : ∀ r0 r1, Q r0 r1 → Q' r0 r1) : L_X9_isKm a1 mem Q → L_X9_isKm a1 mem Q' := by
  unfold L_X9_isKm
  repeat' first
    | with_reducible exact id
    | with_reducible exact hq _ _
    | with_reducible refine mo_L_X9_within  fun _ _ => ?_
    | with_reducible refine And.imp ?_ ?_
    | with_reducible refine all_imp fun _ => ?_
theorem mo_L_X9_isFloor {a1 : Int32} {mem : MMt} {Q Q' : Int32 → MMt → Prop} (hq : ∀ r0 r1, Q r0 r1 → Q' r0 r1) : L_X9_isFloor a1 mem Q → L_X9_isFloor a1 mem Q' := by
  unfold L_X9_isFloor
  repeat' first
    | with_reducible exact id
    | with_reducible exact hq _ _
    | with_reducible refine mo_L_X9_within  fun _ _ => ?_
    | with_reducible refine And.imp ?_ ?_
    | with_reducible refine all_imp fun _ => ?_
theorem mo_L_X9_error {a1 : Int32} {mem : MMt} {Q Q' : Int32 → MMt → Prop} (hq : ∀ r0 r1, Q r0 r1 → Q' r0 r1) : L_X9_error a1 mem Q → L_X9_error a1 mem Q' := by
  unfold L_X9_error
  repeat' first
    | with_reducible exact id
    | with_reducible exact hq _ _
    | with_reducible refine And.imp ?_ ?_
    | with_reducible refine all_imp fun _ => ?_
theorem mo_L_X1_turnInto {q0 : Nat} {a1 : Int32} {mem : MMt} {Q Q' : MMt → Prop} (hq : ∀ r0, Q r0 → Q' r0) : L_X1_turnInto q0 a1 mem Q → L_X1_turnInto q0 a1 mem Q' := by
  unfold L_X1_turnInto
  repeat' first
    | with_reducible exact id
    | with_reducible exact hq _
    | with_reducible refine And.imp ?_ ?_
    | with_reducible refine all_imp fun _ => ?_
theorem mo_L_X1_standAt {q0 : Nat} {a1 : Int32} {mem : MMt} {Q Q' : MMt → Prop} (hq : ∀ r0, Q r0 → Q' r0) : L_X1_standAt q0 a1 mem Q → L_X1_standAt q0 a1 mem Q' := by
  unfold L_X1_standAt
  repeat' first
    | with_reducible exact id
    | with_reducible exact hq _
    | with_reducible refine And.imp ?_ ?_
    | with_reducible refine all_imp fun _ => ?_
theorem mo_L_X9_good {a1 : Int32} {a2 : Int32} {mem : MMt} {Q Q' : Int32 → MMt → Prop} (hq : ∀ r0 r1, Q r0 r1 → Q' r0 r1) : L_X9_good a1 a2 mem Q → L_X9_good a1 a2 mem Q' := by
  unfold L_X9_good
  repeat' first
    | with_reducible exact id
    | with_reducible exact hq _ _
    | with_reducible refine mo_L_X9_isKm  fun _ _ => ?_
    | with_reducible refine mo_L_X9_error  fun _ _ => ?_
    | with_reducible refine mo_L_X9_isFloor  fun _ _ => ?_
    | with_reducible refine mo_L_X1_turnInto  fun _ => ?_
    | with_reducible refine mo_L_X1_standAt  fun _ => ?_
    | with_reducible refine And.imp ?_ ?_
    | with_reducible refine all_imp fun _ => ?_
theorem mo_L_X9_isGood {a1 : Int32} {mem : MMt} {Q Q' : Int32 → MMt → Prop} (hq : ∀ r0 r1, Q r0 r1 → Q' r0 r1) : L_X9_isGood a1 mem Q → L_X9_isGood a1 mem Q' := by
  unfold L_X9_isGood
  repeat' first
    | with_reducible exact id
    | with_reducible exact hq _ _
    | with_reducible refine mo_L_X9_within  fun _ _ => ?_
    | with_reducible refine And.imp ?_ ?_
    | with_reducible refine all_imp fun _ => ?_
theorem mo_L_X1_load {q0 : Nat} {mem : MMt} {Q Q' : Int32 → MMt → Prop} (hq : ∀ r0 r1, Q r0 r1 → Q' r0 r1) : L_X1_load q0 mem Q → L_X1_load q0 mem Q' := by
  unfold L_X1_load
  repeat' first
    | with_reducible exact id
    | with_reducible exact hq _ _
    | with_reducible refine And.imp ?_ ?_
    | with_reducible refine all_imp fun _ => ?_
theorem mo_L_X2_leaf {a1 : Int32} {a2 : Int32} {a3 : Int32} {a4 : Int32} {mem : MMt} {Q Q' : Int32 → MMt → Prop} (hq : ∀ r0 r1, Q r0 r1 → Q' r0 r1) : L_X2_leaf a1 a2 a3 a4 mem Q → L_X2_leaf a1 a2 a3 a4 mem Q' := by
  unfold L_X2_leaf
  repeat' first
    | with_reducible exact id
    | with_reducible exact hq _ _
    | with_reducible refine And.imp ?_ ?_
    | with_reducible refine all_imp fun _ => ?_
theorem mo_L_X2_joined {a1 : Int32} {a2 : Int32} {a3 : Int32} {mem : MMt} {Q Q' : Int32 → MMt → Prop} (hq : ∀ r0 r1, Q r0 r1 → Q' r0 r1) : L_X2_joined a1 a2 a3 mem Q → L_X2_joined a1 a2 a3 mem Q' := by
  unfold L_X2_joined
  repeat' first
    | with_reducible exact id
    | with_reducible exact hq _ _
    | with_reducible refine And.imp ?_ ?_
    | with_reducible refine all_imp fun _ => ?_
theorem mo_B_X2_worked_98 {q0 : Nat} {X6 : Int32 × Int32 × MMt → Prop} {x0 : Nat} {x1 : Int32} {x2 : Int32} {x3 : Int32} {x4 : Int32} {x5 : Int32} {s0 : Int32} {s1 : Int32} {mem : MMt} {Q Q' : Int32 → MMt → Prop} (hq : ∀ r0 r1, Q r0 r1 → Q' r0 r1) : B_X2_worked_98 q0 X6 x0 x1 x2 x3 x4 x5 s0 s1 mem Q → B_X2_worked_98 q0 X6 x0 x1 x2 x3 x4 x5 s0 s1 mem Q' := by
  unfold B_X2_worked_98
  repeat' first
    | with_reducible exact id
    | with_reducible exact hq _ _
    | with_reducible refine And.imp ?_ ?_
    | with_reducible refine all_imp fun _ => ?_
theorem mo_B_X2_worked_102 {q0 : Nat} {X6 : Int32 × Int32 × MMt → Prop} {x0 : Nat} {x1 : Int32} {x2 : Int32} {x3 : Int32} {x4 : Int32} {x5 : Int32} {x6 : Int32} {mem : MMt} {Q Q' : Int32 → MMt → Prop} (hq : ∀ r0 r1, Q r0 r1 → Q' r0 r1) : B_X2_worked_102 q0 X6 x0 x1 x2 x3 x4 x5 x6 mem Q → B_X2_worked_102 q0 X6 x0 x1 x2 x3 x4 x5 x6 mem Q' := by
  unfold B_X2_worked_102
  repeat' first
    | with_reducible exact id
    | with_reducible exact hq _ _
    | with_reducible refine mo_L_X2_joined  fun _ _ => ?_
    | with_reducible refine And.imp ?_ ?_
    | with_reducible refine all_imp fun _ => ?_
theorem mo_B_X2_worked_60 {q0 : Nat} {X6 : Int32 × Int32 × MMt → Prop} {x0 : Nat} {x1 : Int32} {x2 : Int32} {x3 : Int32} {x4 : Int32} {x5 : Int32} {x6 : Int32} {mem : MMt} {Q Q' : Int32 → MMt → Prop} (hq : ∀ r0 r1, Q r0 r1 → Q' r0 r1) : B_X2_worked_60 q0 X6 x0 x1 x2 x3 x4 x5 x6 mem Q → B_X2_worked_60 q0 X6 x0 x1 x2 x3 x4 x5 x6 mem Q' := by
  unfold B_X2_worked_60
  repeat' first
    | with_reducible exact id
    | with_reducible exact hq _ _
    | with_reducible refine mo_B_X2_worked_102  fun _ _ => ?_
    | with_reducible refine mo_B_X2_worked_98  fun _ _ => ?_
    | with_reducible refine And.imp ?_ ?_
    | with_reducible refine all_imp fun _ => ?_
theorem mo_B_X2_worked_6 {q0 : Nat} {x0 : Nat} {x1 : Int32} {x2 : Int32} {x3 : Int32} {x4 : Int32} {x5 : Int32} {mem : MMt} {Q Q' : Int32 → MMt → Prop} (hq : ∀ r0 r1, Q r0 r1 → Q' r0 r1) : B_X2_worked_6 q0 x0 x1 x2 x3 x4 x5 mem Q → B_X2_worked_6 q0 x0 x1 x2 x3 x4 x5 mem Q' := by
  unfold B_X2_worked_6
  repeat' first
    | with_reducible exact id
    | with_reducible exact hq _ _
    | with_reducible refine mo_B_X2_worked_60  fun _ _ => ?_
    | with_reducible refine mo_L_X2_leaf  fun _ _ => ?_
    | with_reducible refine LOOP_imp fun _ _ => ?_
    | with_reducible refine And.imp ?_ ?_
    | with_reducible refine all_imp fun _ => ?_
theorem mo_L_X2_worked {q0 : Nat} {a1 : Int32} {a2 : Int32} {a3 : Int32} {mem : MMt} {Q Q' : Int32 → MMt → Prop} (hq : ∀ r0 r1, Q r0 r1 → Q' r0 r1) : L_X2_worked q0 a1 a2 a3 mem Q → L_X2_worked q0 a1 a2 a3 mem Q' := by
  unfold L_X2_worked
  repeat' first
    | with_reducible exact id
    | with_reducible exact hq _ _
    | with_reducible refine mo_B_X2_worked_6  fun _ _ => ?_
    | with_reducible refine And.imp ?_ ?_
    | with_reducible refine all_imp fun _ => ?_
theorem mo_L_J9_min_7cf53 {a1 : Int32} {a2 : Int32} {mem : MMt} {Q Q' : Int32 → MMt → Prop} (hq : ∀ r0 r1, Q r0 r1 → Q' r0 r1) : L_J9_min_7cf53 a1 a2 mem Q → L_J9_min_7cf53 a1 a2 mem Q' := by
  unfold L_J9_min_7cf53
  repeat' first
    | with_reducible exact id
    | with_reducible exact hq _ _
    | with_reducible refine And.imp ?_ ?_
    | with_reducible refine all_imp fun _ => ?_
theorem mo_L_J9_max_7cf53 {a1 : Int32} {a2 : Int32} {mem : MMt} {Q Q' : Int32 → MMt → Prop} (hq : ∀ r0 r1, Q r0 r1 → Q' r0 r1) : L_J9_max_7cf53 a1 a2 mem Q → L_J9_max_7cf53 a1 a2 mem Q' := by
  unfold L_J9_max_7cf53
  repeat' first
    | with_reducible exact id
    | with_reducible exact hq _ _
    | with_reducible refine And.imp ?_ ?_
    | with_reducible refine all_imp fun _ => ?_
theorem mo_L_X9_held {a1 : Int32} {a2 : Int32} {a3 : Int32} {mem : MMt} {Q Q' : Int32 → MMt → Prop} (hq : ∀ r0 r1, Q r0 r1 → Q' r0 r1) : L_X9_held a1 a2 a3 mem Q → L_X9_held a1 a2 a3 mem Q' := by
  unfold L_X9_held
  repeat' first
    | with_reducible exact id
    | with_reducible exact hq _ _
    | with_reducible refine mo_L_J9_min_7cf53  fun _ _ => ?_
    | with_reducible refine mo_L_J9_max_7cf53  fun _ _ => ?_
    | with_reducible refine And.imp ?_ ?_
    | with_reducible refine all_imp fun _ => ?_
theorem mo_L_X2_give {q0 : Nat} {a1 : Int32} {a2 : Int32} {a3 : Int32} {mem : MMt} {Q Q' : Int32 → MMt → Prop} (hq : ∀ r0 r1, Q r0 r1 → Q' r0 r1) : L_X2_give q0 a1 a2 a3 mem Q → L_X2_give q0 a1 a2 a3 mem Q' := by
  unfold L_X2_give
  repeat' first
    | with_reducible exact id
    | with_reducible exact hq _ _
    | with_reducible refine mo_L_X2_worked  fun _ _ => ?_
    | with_reducible refine mo_L_X9_held  fun _ _ => ?_
    | with_reducible refine And.imp ?_ ?_
    | with_reducible refine all_imp fun _ => ?_
theorem mo_L_X5_pullOf {a1 : Nat} {mem : MMt} {Q Q' : Int32 → MMt → Prop} (hq : ∀ r0 r1, Q r0 r1 → Q' r0 r1) : L_X5_pullOf a1 mem Q → L_X5_pullOf a1 mem Q' := by
  unfold L_X5_pullOf
  repeat' first
    | with_reducible exact id
    | with_reducible exact hq _ _
    | with_reducible refine mo_L_X9_within  fun _ _ => ?_
    | with_reducible refine mo_L_X2_give  fun _ _ => ?_
    | with_reducible refine And.imp ?_ ?_
    | with_reducible refine all_imp fun _ => ?_
theorem mo_L_X1_pulled {q0 : Nat} {a1 : Int32} {mem : MMt} {Q Q' : Int32 → MMt → Prop} (hq : ∀ r0 r1, Q r0 r1 → Q' r0 r1) : L_X1_pulled q0 a1 mem Q → L_X1_pulled q0 a1 mem Q' := by
  unfold L_X1_pulled
  repeat' first
    | with_reducible exact id
    | with_reducible exact hq _ _
    | with_reducible refine And.imp ?_ ?_
    | with_reducible refine all_imp fun _ => ?_
theorem mo_L_X1_drag {q0 : Nat} {mem : MMt} {Q Q' : Int32 → MMt → Prop} (hq : ∀ r0 r1, Q r0 r1 → Q' r0 r1) : L_X1_drag q0 mem Q → L_X1_drag q0 mem Q' := by
  unfold L_X1_drag
  repeat' first
    | with_reducible exact id
    | with_reducible exact hq _ _
    | with_reducible refine And.imp ?_ ?_
    | with_reducible refine all_imp fun _ => ?_
theorem mo_L_X1_reach {q0 : Nat} {mem : MMt} {Q Q' : Int32 → MMt → Prop} (hq : ∀ r0 r1, Q r0 r1 → Q' r0 r1) : L_X1_reach q0 mem Q → L_X1_reach q0 mem Q' := by
  unfold L_X1_reach
  repeat' first
    | with_reducible exact id
    | with_reducible exact hq _ _
    | with_reducible refine And.imp ?_ ?_
    | with_reducible refine all_imp fun _ => ?_
theorem mo_L_X1_copyFrom {q0 : Nat} {a1 : Nat} {mem : MMt} {Q Q' : MMt → Prop} (hq : ∀ r0, Q r0 → Q' r0) : L_X1_copyFrom q0 a1 mem Q → L_X1_copyFrom q0 a1 mem Q' := by
  unfold L_X1_copyFrom
  repeat' first
    | with_reducible exact id
    | with_reducible exact hq _
    | with_reducible refine And.imp ?_ ?_
    | with_reducible refine all_imp fun _ => ?_
theorem mo_B_X1_stride_128 {q0 : Nat} {x0 : Nat} {x2 : Int32} {x3 : Int32} {mem : MMt} {Q Q' : Int32 → MMt → Prop} (hq : ∀ r0 r1, Q r0 r1 → Q' r0 r1) : B_X1_stride_128 q0 x0 x2 x3 mem Q → B_X1_stride_128 q0 x0 x2 x3 mem Q' := by
  unfold B_X1_stride_128
  repeat' first
    | with_reducible exact id
    | with_reducible exact hq _ _
    | with_reducible refine And.imp ?_ ?_
    | with_reducible refine all_imp fun _ => ?_
theorem mo_B_X1_stride_52 {q0 : Nat} {x0 : Nat} {x2 : Int32} {x3 : Int32} {s0 : Int32} {mem : MMt} {Q Q' : Int32 → MMt → Prop} (hq : ∀ r0 r1, Q r0 r1 → Q' r0 r1) : B_X1_stride_52 q0 x0 x2 x3 s0 mem Q → B_X1_stride_52 q0 x0 x2 x3 s0 mem Q' := by
  unfold B_X1_stride_52
  repeat' first
    | with_reducible exact id
    | with_reducible exact hq _ _
    | with_reducible refine mo_L_X9_held  fun _ _ => ?_
    | with_reducible refine mo_L_X1_reach  fun _ _ => ?_
    | with_reducible refine mo_L_J9_max_7cf53  fun _ _ => ?_
    | with_reducible refine mo_L_J9_min_7cf53  fun _ _ => ?_
    | with_reducible refine mo_B_X1_stride_128  fun _ _ => ?_
    | with_reducible refine And.imp ?_ ?_
    | with_reducible refine all_imp fun _ => ?_
theorem mo_L_X1_stride {q0 : Nat} {a1 : Int32} {mem : MMt} {Q Q' : Int32 → MMt → Prop} (hq : ∀ r0 r1, Q r0 r1 → Q' r0 r1) : L_X1_stride q0 a1 mem Q → L_X1_stride q0 a1 mem Q' := by
  unfold L_X1_stride
  repeat' first
    | with_reducible exact id
    | with_reducible exact hq _ _
    | with_reducible refine mo_L_X1_pulled  fun _ _ => ?_
    | with_reducible refine mo_L_X1_drag  fun _ _ => ?_
    | with_reducible refine mo_L_J9_min_7cf53  fun _ _ => ?_
    | with_reducible refine mo_B_X1_stride_52  fun _ _ => ?_
    | with_reducible refine mo_L_J9_max_7cf53  fun _ _ => ?_
    | with_reducible refine And.imp ?_ ?_
    | with_reducible refine all_imp fun _ => ?_
theorem mo_L_X7_goesOn {mem : MMt} {Q Q' : Int32 → MMt → Prop} (hq : ∀ r0 r1, Q r0 r1 → Q' r0 r1) : L_X7_goesOn mem Q → L_X7_goesOn mem Q' := by
  unfold L_X7_goesOn
  repeat' first
    | with_reducible exact id
    | with_reducible exact hq _ _
    | with_reducible refine mo_L_X5_pullOf  fun _ _ => ?_
    | with_reducible refine mo_L_X1_stride  fun _ _ => ?_
    | with_reducible refine And.imp ?_ ?_
    | with_reducible refine all_imp fun _ => ?_
theorem mo_L_X7_stays {a1 : Nat} {mem : MMt} {Q Q' : Int32 → MMt → Prop} (hq : ∀ r0 r1, Q r0 r1 → Q' r0 r1) : L_X7_stays a1 mem Q → L_X7_stays a1 mem Q' := by
  unfold L_X7_stays
  repeat' first
    | with_reducible exact id
    | with_reducible exact hq _ _
    | with_reducible refine mo_L_X1_copyFrom  fun _ => ?_
    | with_reducible refine mo_L_X7_goesOn  fun _ _ => ?_
    | with_reducible refine And.imp ?_ ?_
    | with_reducible refine all_imp fun _ => ?_
theorem mo_L_X9_ofGood {a1 : Int32} {a2 : Int32} {mem : MMt} {Q Q' : Int32 → MMt → Prop} (hq : ∀ r0 r1, Q r0 r1 → Q' r0 r1) : L_X9_ofGood a1 a2 mem Q → L_X9_ofGood a1 a2 mem Q' := by
  unfold L_X9_ofGood
  repeat' first
    | with_reducible exact id
    | with_reducible exact hq _ _
    | with_reducible refine mo_L_X9_isGood  fun _ _ => ?_
    | with_reducible refine mo_L_X9_error  fun _ _ => ?_
    | with_reducible refine mo_L_X9_within  fun _ _ => ?_
    | with_reducible refine mo_L_X7_stays  fun _ _ => ?_
    | with_reducible refine mo_L_X1_load  fun _ _ => ?_
    | with_reducible refine mo_L_X5_pullOf  fun _ _ => ?_
    | with_reducible refine mo_L_X1_pulled  fun _ _ => ?_
    | with_reducible refine mo_L_X1_drag  fun _ _ => ?_
    | with_reducible refine mo_L_X1_reach  fun _ _ => ?_
    | with_reducible refine And.imp ?_ ?_
    | with_reducible refine all_imp fun _ => ?_
theorem mo_L_X9_become {a1 : Int32} {a2 : Int32} {mem : MMt} {Q Q' : Int32 → MMt → Prop} (hq : ∀ r0 r1, Q r0 r1 → Q' r0 r1) : L_X9_become a1 a2 mem Q → L_X9_become a1 a2 mem Q' := by
  unfold L_X9_become
  repeat' first
    | with_reducible exact id
    | with_reducible exact hq _ _
    | with_reducible refine mo_L_X9_isGood  fun _ _ => ?_
    | with_reducible refine mo_L_X9_error  fun _ _ => ?_
    | with_reducible refine mo_L_X9_isKm  fun _ _ => ?_
    | with_reducible refine mo_L_X1_turnInto  fun _ => ?_
    | with_reducible refine And.imp ?_ ?_
    | with_reducible refine all_imp fun _ => ?_
theorem mo_B_X9_isUnder_4 {x1 : Int32} {x2 : Int32} {x3 : Int32} {mem : MMt} {Q Q' : Int32 → MMt → Prop} (hq : ∀ r0 r1, Q r0 r1 → Q' r0 r1) : B_X9_isUnder_4 x1 x2 x3 mem Q → B_X9_isUnder_4 x1 x2 x3 mem Q' := by
  unfold B_X9_isUnder_4
  repeat' first
    | with_reducible exact id
    | with_reducible exact hq _ _
    | with_reducible refine LOOP_imp fun _ _ => ?_
    | with_reducible refine And.imp ?_ ?_
    | with_reducible refine all_imp fun _ => ?_
theorem mo_L_X9_isUnder {a1 : Int32} {a2 : Int32} {mem : MMt} {Q Q' : Int32 → MMt → Prop} (hq : ∀ r0 r1, Q r0 r1 → Q' r0 r1) : L_X9_isUnder a1 a2 mem Q → L_X9_isUnder a1 a2 mem Q' := by
  unfold L_X9_isUnder
  repeat' first
    | with_reducible exact id
    | with_reducible exact hq _ _
    | with_reducible refine mo_B_X9_isUnder_4  fun _ _ => ?_
    | with_reducible refine And.imp ?_ ?_
    | with_reducible refine all_imp fun _ => ?_
theorem mo_L_X9_as {a1 : Int32} {a2 : Int32} {mem : MMt} {Q Q' : Int32 → MMt → Prop} (hq : ∀ r0 r1, Q r0 r1 → Q' r0 r1) : L_X9_as a1 a2 mem Q → L_X9_as a1 a2 mem Q' := by
  unfold L_X9_as
  repeat' first
    | with_reducible exact id
    | with_reducible exact hq _ _
    | with_reducible refine mo_L_X9_isGood  fun _ _ => ?_
    | with_reducible refine mo_L_X9_error  fun _ _ => ?_
    | with_reducible refine mo_L_X9_within  fun _ _ => ?_
    | with_reducible refine mo_L_X9_isUnder  fun _ _ => ?_
    | with_reducible refine And.imp ?_ ?_
    | with_reducible refine all_imp fun _ => ?_
theorem mo_L_X9_place {a1 : Int32} {a2 : Int32} {mem : MMt} {Q Q' : Int32 → MMt → Prop} (hq : ∀ r0 r1, Q r0 r1 → Q' r0 r1) : L_X9_place a1 a2 mem Q → L_X9_place a1 a2 mem Q' := by
  unfold L_X9_place
  repeat' first
    | with_reducible exact id
    | with_reducible exact hq _ _
    | with_reducible refine mo_L_X9_isGood  fun _ _ => ?_
    | with_reducible refine mo_L_X9_error  fun _ _ => ?_
    | with_reducible refine mo_L_X9_isFloor  fun _ _ => ?_
    | with_reducible refine mo_L_X1_standAt  fun _ => ?_
    | with_reducible refine And.imp ?_ ?_
    | with_reducible refine all_imp fun _ => ?_
theorem mo_L_X9_isPush {a1 : Int32} {mem : MMt} {Q Q' : Int32 → MMt → Prop} (hq : ∀ r0 r1, Q r0 r1 → Q' r0 r1) : L_X9_isPush a1 mem Q → L_X9_isPush a1 mem Q' := by
  unfold L_X9_isPush
  repeat' first
    | with_reducible exact id
    | with_reducible exact hq _ _
    | with_reducible refine mo_L_X9_within  fun _ _ => ?_
    | with_reducible refine And.imp ?_ ?_
    | with_reducible refine all_imp fun _ => ?_
theorem mo_L_X1_shove {q0 : Nat} {a1 : Int32} {mem : MMt} {Q Q' : MMt → Prop} (hq : ∀ r0, Q r0 → Q' r0) : L_X1_shove q0 a1 mem Q → L_X1_shove q0 a1 mem Q' := by
  unfold L_X1_shove
  repeat' first
    | with_reducible exact id
    | with_reducible exact hq _
    | with_reducible refine mo_L_X9_held  fun _ _ => ?_
    | with_reducible refine And.imp ?_ ?_
    | with_reducible refine all_imp fun _ => ?_
theorem mo_L_X9_push {a1 : Int32} {a2 : Int32} {mem : MMt} {Q Q' : Int32 → MMt → Prop} (hq : ∀ r0 r1, Q r0 r1 → Q' r0 r1) : L_X9_push a1 a2 mem Q → L_X9_push a1 a2 mem Q' := by
  unfold L_X9_push
  repeat' first
    | with_reducible exact id
    | with_reducible exact hq _ _
    | with_reducible refine mo_L_X9_isGood  fun _ _ => ?_
    | with_reducible refine mo_L_X9_error  fun _ _ => ?_
    | with_reducible refine mo_L_X9_isPush  fun _ _ => ?_
    | with_reducible refine mo_L_X1_shove  fun _ => ?_
    | with_reducible refine And.imp ?_ ?_
    | with_reducible refine all_imp fun _ => ?_
theorem mo_L_X9_off {a1 : Int32} {a2 : Int32} {a3 : Int32} {mem : MMt} {Q Q' : Int32 → MMt → Prop} (hq : ∀ r0 r1, Q r0 r1 → Q' r0 r1) : L_X9_off a1 a2 a3 mem Q → L_X9_off a1 a2 a3 mem Q' := by
  unfold L_X9_off
  repeat' first
    | with_reducible exact id
    | with_reducible exact hq _ _
    | with_reducible refine mo_L_X9_isGood  fun _ _ => ?_
    | with_reducible refine mo_L_X9_error  fun _ _ => ?_
    | with_reducible refine mo_L_X9_isPush  fun _ _ => ?_
    | with_reducible refine mo_L_X1_shove  fun _ => ?_
    | with_reducible refine And.imp ?_ ?_
    | with_reducible refine all_imp fun _ => ?_
theorem mo_B_X9_set_49 {x1 : Int32} {x2 : Int32} {mem : MMt} {Q Q' : Int32 → MMt → Prop} (hq : ∀ r0 r1, Q r0 r1 → Q' r0 r1) : B_X9_set_49 x1 x2 mem Q → B_X9_set_49 x1 x2 mem Q' := by
  unfold B_X9_set_49
  repeat' first
    | with_reducible exact id
    | with_reducible exact hq _ _
    | with_reducible refine And.imp ?_ ?_
    | with_reducible refine all_imp fun _ => ?_
theorem mo_L_X9_set {a1 : Int32} {a2 : Int32} {mem : MMt} {Q Q' : Int32 → MMt → Prop} (hq : ∀ r0 r1, Q r0 r1 → Q' r0 r1) : L_X9_set a1 a2 mem Q → L_X9_set a1 a2 mem Q' := by
  unfold L_X9_set
  repeat' first
    | with_reducible exact id
    | with_reducible exact hq _ _
    | with_reducible refine mo_L_X9_within  fun _ _ => ?_
    | with_reducible refine mo_B_X9_set_49  fun _ _ => ?_
    | with_reducible refine mo_L_X9_error  fun _ _ => ?_
    | with_reducible refine And.imp ?_ ?_
    | with_reducible refine all_imp fun _ => ?_
theorem mo_L_X9_isSide {a1 : Int32} {mem : MMt} {Q Q' : Int32 → MMt → Prop} (hq : ∀ r0 r1, Q r0 r1 → Q' r0 r1) : L_X9_isSide a1 mem Q → L_X9_isSide a1 mem Q' := by
  unfold L_X9_isSide
  repeat' first
    | with_reducible exact id
    | with_reducible exact hq _ _
    | with_reducible refine mo_L_X9_within  fun _ _ => ?_
    | with_reducible refine And.imp ?_ ?_
    | with_reducible refine all_imp fun _ => ?_
theorem mo_L_X9_isDoor {a1 : Int32} {mem : MMt} {Q Q' : Int32 → MMt → Prop} (hq : ∀ r0 r1, Q r0 r1 → Q' r0 r1) : L_X9_isDoor a1 mem Q → L_X9_isDoor a1 mem Q' := by
  unfold L_X9_isDoor
  repeat' first
    | with_reducible exact id
    | with_reducible exact hq _ _
    | with_reducible refine mo_L_X9_within  fun _ _ => ?_
    | with_reducible refine And.imp ?_ ?_
    | with_reducible refine all_imp fun _ => ?_
theorem mo_L_J9_floorMod_7cf53 {a1 : Int32} {a2 : Int32} {mem : MMt} {Q Q' : Int32 → MMt → Prop} (hq : ∀ r0 r1, Q r0 r1 → Q' r0 r1) : L_J9_floorMod_7cf53 a1 a2 mem Q → L_J9_floorMod_7cf53 a1 a2 mem Q' := by
  unfold L_J9_floorMod_7cf53
  repeat' first
    | with_reducible exact id
    | with_reducible exact hq _ _
    | with_reducible refine And.imp ?_ ?_
    | with_reducible refine all_imp fun _ => ?_
theorem mo_L_X5_doorPlace {a1 : Int32} {a2 : Int32} {a3 : Int32} {mem : MMt} {Q Q' : Int32 → MMt → Prop} (hq : ∀ r0 r1, Q r0 r1 → Q' r0 r1) : L_X5_doorPlace a1 a2 a3 mem Q → L_X5_doorPlace a1 a2 a3 mem Q' := by
  unfold L_X5_doorPlace
  repeat' first
    | with_reducible exact id
    | with_reducible exact hq _ _
    | with_reducible refine mo_L_J9_floorMod_7cf53  fun _ _ => ?_
    | with_reducible refine And.imp ?_ ?_
    | with_reducible refine all_imp fun _ => ?_
theorem mo_L_X9_door {a1 : Int32} {a2 : Int32} {mem : MMt} {Q Q' : Int32 → MMt → Prop} (hq : ∀ r0 r1, Q r0 r1 → Q' r0 r1) : L_X9_door a1 a2 mem Q → L_X9_door a1 a2 mem Q' := by
  unfold L_X9_door
  repeat' first
    | with_reducible exact id
    | with_reducible exact hq _ _
    | with_reducible refine mo_L_X9_isSide  fun _ _ => ?_
    | with_reducible refine mo_L_X9_error  fun _ _ => ?_
    | with_reducible refine mo_L_X9_isDoor  fun _ _ => ?_
    | with_reducible refine mo_L_X5_doorPlace  fun _ _ => ?_
    | with_reducible refine And.imp ?_ ?_
    | with_reducible refine all_imp fun _ => ?_
theorem mo_B_X9_lineUp_24 {x1 : Int32} {x2 : Int32} {x3 : Int32} {mem : MMt} {Q Q' : Int32 → MMt → Prop} (hq : ∀ r0 r1, Q r0 r1 → Q' r0 r1) : B_X9_lineUp_24 x1 x2 x3 mem Q → B_X9_lineUp_24 x1 x2 x3 mem Q' := by
  unfold B_X9_lineUp_24
  repeat' first
    | with_reducible exact id
    | with_reducible exact hq _ _
    | with_reducible refine mo_L_X9_error  fun _ _ => ?_
    | with_reducible refine mo_L_X5_doorPlace  fun _ _ => ?_
    | with_reducible refine LOOP_imp fun _ _ => ?_
    | with_reducible refine And.imp ?_ ?_
    | with_reducible refine all_imp fun _ => ?_
theorem mo_L_X9_lineUp {a1 : Int32} {a2 : Int32} {mem : MMt} {Q Q' : Int32 → MMt → Prop} (hq : ∀ r0 r1, Q r0 r1 → Q' r0 r1) : L_X9_lineUp a1 a2 mem Q → L_X9_lineUp a1 a2 mem Q' := by
  unfold L_X9_lineUp
  repeat' first
    | with_reducible exact id
    | with_reducible exact hq _ _
    | with_reducible refine mo_L_X9_isDoor  fun _ _ => ?_
    | with_reducible refine mo_L_X9_error  fun _ _ => ?_
    | with_reducible refine mo_B_X9_lineUp_24  fun _ _ => ?_
    | with_reducible refine And.imp ?_ ?_
    | with_reducible refine all_imp fun _ => ?_
theorem mo_B_X9_feed_39 {x1 : Int64} {x3 : Int32} {x4 : Int32} {mem : MMt} {Q Q' : Int32 → MMt → Prop} (hq : ∀ r0 r1, Q r0 r1 → Q' r0 r1) : B_X9_feed_39 x1 x3 x4 mem Q → B_X9_feed_39 x1 x3 x4 mem Q' := by
  unfold B_X9_feed_39
  repeat' first
    | with_reducible exact id
    | with_reducible exact hq _ _
    | with_reducible refine LOOP_imp fun _ _ => ?_
    | with_reducible refine And.imp ?_ ?_
    | with_reducible refine all_imp fun _ => ?_
theorem mo_L_X9_feed {a1 : Int64} {a2 : Int32} {mem : MMt} {Q Q' : Int32 → MMt → Prop} (hq : ∀ r0 r1, Q r0 r1 → Q' r0 r1) : L_X9_feed a1 a2 mem Q → L_X9_feed a1 a2 mem Q' := by
  unfold L_X9_feed
  repeat' first
    | with_reducible exact id
    | with_reducible exact hq _ _
    | with_reducible refine mo_L_X9_within  fun _ _ => ?_
    | with_reducible refine mo_B_X9_feed_39  fun _ _ => ?_
    | with_reducible refine mo_L_X9_error  fun _ _ => ?_
    | with_reducible refine And.imp ?_ ?_
    | with_reducible refine all_imp fun _ => ?_
theorem mo_L_X9_isUse {a1 : Int32} {mem : MMt} {Q Q' : Int32 → MMt → Prop} (hq : ∀ r0 r1, Q r0 r1 → Q' r0 r1) : L_X9_isUse a1 mem Q → L_X9_isUse a1 mem Q' := by
  unfold L_X9_isUse
  repeat' first
    | with_reducible exact id
    | with_reducible exact hq _ _
    | with_reducible refine mo_L_X9_within  fun _ _ => ?_
    | with_reducible refine And.imp ?_ ?_
    | with_reducible refine all_imp fun _ => ?_
theorem mo_L_X4_isDigit {a1 : Int32} {mem : MMt} {Q Q' : Int32 → MMt → Prop} (hq : ∀ r0 r1, Q r0 r1 → Q' r0 r1) : L_X4_isDigit a1 mem Q → L_X4_isDigit a1 mem Q' := by
  unfold L_X4_isDigit
  repeat' first
    | with_reducible exact id
    | with_reducible exact hq _ _
    | with_reducible refine mo_L_X9_within  fun _ _ => ?_
    | with_reducible refine And.imp ?_ ?_
    | with_reducible refine all_imp fun _ => ?_
theorem mo_L_X4_keep {b : Nat} {a1 : Int32} {mem : MMt} {Q Q' : MMt → Prop} (hq : ∀ r0, Q r0 → Q' r0) : L_X4_keep b a1 mem Q → L_X4_keep b a1 mem Q' := by
  unfold L_X4_keep
  repeat' first
    | with_reducible exact id
    | with_reducible exact hq _
    | with_reducible refine And.imp ?_ ?_
    | with_reducible refine all_imp fun _ => ?_
theorem mo_B_X4_readNumber_16 {b : Nat} {x1 : Int32} {x2 : Int32} {mem : MMt} {Q Q' : Int32 → MMt → Prop} (hq : ∀ r0 r1, Q r0 r1 → Q' r0 r1) : B_X4_readNumber_16 b x1 x2 mem Q → B_X4_readNumber_16 b x1 x2 mem Q' := by
  unfold B_X4_readNumber_16
  repeat' first
    | with_reducible exact id
    | with_reducible exact hq _ _
    | with_reducible refine mo_L_X4_keep  fun _ => ?_
    | with_reducible refine mo_L_X4_isDigit  fun _ _ => ?_
    | with_reducible refine LOOP_imp fun _ _ => ?_
    | with_reducible refine And.imp ?_ ?_
    | with_reducible refine all_imp fun _ => ?_
theorem mo_L_X4_readNumber {b : Nat} {mem : MMt} {Q Q' : Int32 → MMt → Prop} (hq : ∀ r0 r1, Q r0 r1 → Q' r0 r1) : L_X4_readNumber b mem Q → L_X4_readNumber b mem Q' := by
  unfold L_X4_readNumber
  repeat' first
    | with_reducible exact id
    | with_reducible exact hq _ _
    | with_reducible refine mo_L_J9_min_7cf53  fun _ _ => ?_
    | with_reducible refine mo_B_X4_readNumber_16  fun _ _ => ?_
    | with_reducible refine And.imp ?_ ?_
    | with_reducible refine all_imp fun _ => ?_
theorem mo_L_J0_isLatin1_aae02 {b : Nat} {mem : MMt} {Q Q' : Int32 → MMt → Prop} (hq : ∀ r0 r1, Q r0 r1 → Q' r0 r1) : L_J0_isLatin1_aae02 b mem Q → L_J0_isLatin1_aae02 b mem Q' := by
  unfold L_J0_isLatin1_aae02
  repeat' first
    | with_reducible exact id
    | with_reducible exact hq _ _
    | with_reducible refine And.imp ?_ ?_
    | with_reducible refine all_imp fun _ => ?_
theorem mo_L_J0_coder_7d493 {b : Nat} {mem : MMt} {Q Q' : Int32 → MMt → Prop} (hq : ∀ r0 r1, Q r0 r1 → Q' r0 r1) : L_J0_coder_7d493 b mem Q → L_J0_coder_7d493 b mem Q' := by
  unfold L_J0_coder_7d493
  repeat' first
    | with_reducible exact id
    | with_reducible exact hq _ _
    | with_reducible refine And.imp ?_ ?_
    | with_reducible refine all_imp fun _ => ?_
theorem mo_L_J0_length_8abf5 {b : Nat} {mem : MMt} {Q Q' : Int32 → MMt → Prop} (hq : ∀ r0 r1, Q r0 r1 → Q' r0 r1) : L_J0_length_8abf5 b mem Q → L_J0_length_8abf5 b mem Q' := by
  unfold L_J0_length_8abf5
  repeat' first
    | with_reducible exact id
    | with_reducible exact hq _ _
    | with_reducible refine mo_L_J0_coder_7d493  fun _ _ => ?_
    | with_reducible refine And.imp ?_ ?_
    | with_reducible refine all_imp fun _ => ?_
theorem mo_L_J1_canEncode_9a6ad {a1 : Int32} {mem : MMt} {Q Q' : Int32 → MMt → Prop} (hq : ∀ r0 r1, Q r0 r1 → Q' r0 r1) : L_J1_canEncode_9a6ad a1 mem Q → L_J1_canEncode_9a6ad a1 mem Q' := by
  unfold L_J1_canEncode_9a6ad
  repeat' first
    | with_reducible exact id
    | with_reducible exact hq _ _
    | with_reducible refine And.imp ?_ ?_
    | with_reducible refine all_imp fun _ => ?_
theorem mo_B_J1_indexOfChar_4cfef_7 {b : Nat} {x3 : Int32} {x4 : Int32} {x5 : Int32} {mem : MMt} {Q Q' : Int32 → MMt → Prop} (hq : ∀ r0 r1, Q r0 r1 → Q' r0 r1) : B_J1_indexOfChar_4cfef_7 b x3 x4 x5 mem Q → B_J1_indexOfChar_4cfef_7 b x3 x4 x5 mem Q' := by
  unfold B_J1_indexOfChar_4cfef_7
  repeat' first
    | with_reducible exact id
    | with_reducible exact hq _ _
    | with_reducible refine LOOP_imp fun _ _ => ?_
    | with_reducible refine And.imp ?_ ?_
    | with_reducible refine all_imp fun _ => ?_
theorem mo_L_J1_indexOfChar_4cfef {b : Nat} {a2 : Int32} {a3 : Int32} {a4 : Int32} {mem : MMt} {Q Q' : Int32 → MMt → Prop} (hq : ∀ r0 r1, Q r0 r1 → Q' r0 r1) : L_J1_indexOfChar_4cfef b a2 a3 a4 mem Q → L_J1_indexOfChar_4cfef b a2 a3 a4 mem Q' := by
  unfold L_J1_indexOfChar_4cfef
  repeat' first
    | with_reducible exact id
    | with_reducible exact hq _ _
    | with_reducible refine mo_B_J1_indexOfChar_4cfef_7  fun _ _ => ?_
    | with_reducible refine And.imp ?_ ?_
    | with_reducible refine all_imp fun _ => ?_
theorem mo_L_J1_indexOf_4cfef {b : Nat} {a2 : Int32} {a3 : Int32} {a4 : Int32} {mem : MMt} {Q Q' : Int32 → MMt → Prop} (hq : ∀ r0 r1, Q r0 r1 → Q' r0 r1) : L_J1_indexOf_4cfef b a2 a3 a4 mem Q → L_J1_indexOf_4cfef b a2 a3 a4 mem Q' := by
  unfold L_J1_indexOf_4cfef
  repeat' first
    | with_reducible exact id
    | with_reducible exact hq _ _
    | with_reducible refine mo_L_J1_canEncode_9a6ad  fun _ _ => ?_
    | with_reducible refine mo_L_J9_max_7cf53  fun _ _ => ?_
    | with_reducible refine mo_L_J9_min_7cf53  fun _ _ => ?_
    | with_reducible refine mo_L_J1_indexOfChar_4cfef  fun _ _ => ?_
    | with_reducible refine And.imp ?_ ?_
    | with_reducible refine all_imp fun _ => ?_
theorem mo_L_J0_indexOf_7cf53 {b : Nat} {a1 : Int32} {a2 : Int32} {mem : MMt} {Q Q' : Int32 → MMt → Prop} (hq : ∀ r0 r1, Q r0 r1 → Q' r0 r1) : L_J0_indexOf_7cf53 b a1 a2 mem Q → L_J0_indexOf_7cf53 b a1 a2 mem Q' := by
  unfold L_J0_indexOf_7cf53
  repeat' first
    | with_reducible exact id
    | with_reducible exact hq _ _
    | with_reducible refine mo_L_J0_isLatin1_aae02  fun _ _ => ?_
    | with_reducible refine mo_L_J0_length_8abf5  fun _ _ => ?_
    | with_reducible refine mo_L_J1_indexOf_4cfef  fun _ _ => ?_
    | with_reducible refine And.imp ?_ ?_
    | with_reducible refine all_imp fun _ => ?_
theorem mo_L_J0_indexOf_0f7a4 {b : Nat} {a1 : Int32} {mem : MMt} {Q Q' : Int32 → MMt → Prop} (hq : ∀ r0 r1, Q r0 r1 → Q' r0 r1) : L_J0_indexOf_0f7a4 b a1 mem Q → L_J0_indexOf_0f7a4 b a1 mem Q' := by
  unfold L_J0_indexOf_0f7a4
  repeat' first
    | with_reducible exact id
    | with_reducible exact hq _ _
    | with_reducible refine mo_L_J0_indexOf_7cf53  fun _ _ => ?_
    | with_reducible refine And.imp ?_ ?_
    | with_reducible refine all_imp fun _ => ?_
theorem mo_L_X4_levelOf {a1 : Int32} {mem : MMt} {Q Q' : Int32 → MMt → Prop} (hq : ∀ r0 r1, Q r0 r1 → Q' r0 r1) : L_X4_levelOf a1 mem Q → L_X4_levelOf a1 mem Q' := by
  unfold L_X4_levelOf
  repeat' first
    | with_reducible exact id
    | with_reducible exact hq _ _
    | with_reducible refine And.imp ?_ ?_
    | with_reducible refine all_imp fun _ => ?_
theorem mo_B_X4_readJoined_24 {R_X4_readJoined : Nat → Int32 → Int32 → MMt → (Int32 → MMt → Prop) → Prop} {R_X4_readPart : Nat → Int32 → MMt → (Int32 → MMt → Prop) → Prop} {R_X4_readNegated : Nat → Int32 → MMt → (Int32 → MMt → Prop) → Prop} {R_X4_readEnclosed : Nat → Int32 → MMt → (Int32 → MMt → Prop) → Prop} {b : Nat} {x1 : Int32} {x2 : Int32} {mem : MMt} {Q Q' : Int32 → MMt → Prop} (hR_X4_readJoined : ∀ (v0 : Nat) (v1 : Int32) (v2 : Int32) (m : MMt) (Q Q' : Int32 → MMt → Prop), (∀ r0 r1, Q r0 r1 → Q' r0 r1) → R_X4_readJoined v0 v1 v2 m Q → R_X4_readJoined v0 v1 v2 m Q') (hR_X4_readPart : ∀ (v0 : Nat) (v1 : Int32) (m : MMt) (Q Q' : Int32 → MMt → Prop), (∀ r0 r1, Q r0 r1 → Q' r0 r1) → R_X4_readPart v0 v1 m Q → R_X4_readPart v0 v1 m Q') (hR_X4_readNegated : ∀ (v0 : Nat) (v1 : Int32) (m : MMt) (Q Q' : Int32 → MMt → Prop), (∀ r0 r1, Q r0 r1 → Q' r0 r1) → R_X4_readNegated v0 v1 m Q → R_X4_readNegated v0 v1 m Q') (hR_X4_readEnclosed : ∀ (v0 : Nat) (v1 : Int32) (m : MMt) (Q Q' : Int32 → MMt → Prop), (∀ r0 r1, Q r0 r1 → Q' r0 r1) → R_X4_readEnclosed v0 v1 m Q → R_X4_readEnclosed v0 v1 m Q') (hq : ∀ r0 r1, Q r0 r1 → Q' r0 r1) : B_X4_readJoined_24 R_X4_readJoined R_X4_readPart R_X4_readNegated R_X4_readEnclosed b x1 x2 mem Q → B_X4_readJoined_24 R_X4_readJoined R_X4_readPart R_X4_readNegated R_X4_readEnclosed b x1 x2 mem Q' := by
  unfold B_X4_readJoined_24
  repeat' first
    | with_reducible exact id
    | with_reducible exact hq _ _
    | with_reducible refine hR_X4_readJoined _ _ _ _ _ _ fun _ _ => ?_
    | with_reducible refine hR_X4_readPart _ _ _ _ _ fun _ _ => ?_
    | with_reducible refine hR_X4_readNegated _ _ _ _ _ fun _ _ => ?_
    | with_reducible refine hR_X4_readEnclosed _ _ _ _ _ fun _ _ => ?_
    | with_reducible refine mo_L_X4_levelOf  fun _ _ => ?_
    | with_reducible refine mo_L_X4_keep  fun _ => ?_
    | with_reducible refine LOOP_imp fun _ _ => ?_
    | with_reducible refine And.imp ?_ ?_
    | with_reducible refine all_imp fun _ => ?_
theorem mo_L_X4_readJoined {R_X4_readJoined : Nat → Int32 → Int32 → MMt → (Int32 → MMt → Prop) → Prop} {R_X4_readPart : Nat → Int32 → MMt → (Int32 → MMt → Prop) → Prop} {R_X4_readNegated : Nat → Int32 → MMt → (Int32 → MMt → Prop) → Prop} {R_X4_readEnclosed : Nat → Int32 → MMt → (Int32 → MMt → Prop) → Prop} {b : Nat} {a1 : Int32} {a2 : Int32} {mem : MMt} {Q Q' : Int32 → MMt → Prop} (hR_X4_readJoined : ∀ (v0 : Nat) (v1 : Int32) (v2 : Int32) (m : MMt) (Q Q' : Int32 → MMt → Prop), (∀ r0 r1, Q r0 r1 → Q' r0 r1) → R_X4_readJoined v0 v1 v2 m Q → R_X4_readJoined v0 v1 v2 m Q') (hR_X4_readPart : ∀ (v0 : Nat) (v1 : Int32) (m : MMt) (Q Q' : Int32 → MMt → Prop), (∀ r0 r1, Q r0 r1 → Q' r0 r1) → R_X4_readPart v0 v1 m Q → R_X4_readPart v0 v1 m Q') (hR_X4_readNegated : ∀ (v0 : Nat) (v1 : Int32) (m : MMt) (Q Q' : Int32 → MMt → Prop), (∀ r0 r1, Q r0 r1 → Q' r0 r1) → R_X4_readNegated v0 v1 m Q → R_X4_readNegated v0 v1 m Q') (hR_X4_readEnclosed : ∀ (v0 : Nat) (v1 : Int32) (m : MMt) (Q Q' : Int32 → MMt → Prop), (∀ r0 r1, Q r0 r1 → Q' r0 r1) → R_X4_readEnclosed v0 v1 m Q → R_X4_readEnclosed v0 v1 m Q') (hq : ∀ r0 r1, Q r0 r1 → Q' r0 r1) : L_X4_readJoined R_X4_readJoined R_X4_readPart R_X4_readNegated R_X4_readEnclosed b a1 a2 mem Q → L_X4_readJoined R_X4_readJoined R_X4_readPart R_X4_readNegated R_X4_readEnclosed b a1 a2 mem Q' := by
  unfold L_X4_readJoined
  repeat' first
    | with_reducible exact id
    | with_reducible exact hq _ _
    | with_reducible refine hR_X4_readJoined _ _ _ _ _ _ fun _ _ => ?_
    | with_reducible refine hR_X4_readPart _ _ _ _ _ fun _ _ => ?_
    | with_reducible refine hR_X4_readNegated _ _ _ _ _ fun _ _ => ?_
    | with_reducible refine hR_X4_readEnclosed _ _ _ _ _ fun _ _ => ?_
    | with_reducible refine mo_B_X4_readJoined_24 hR_X4_readJoined hR_X4_readPart hR_X4_readNegated hR_X4_readEnclosed fun _ _ => ?_
    | with_reducible refine And.imp ?_ ?_
    | with_reducible refine all_imp fun _ => ?_
theorem mo_B_X4_readPart_93 {R_X4_readJoined : Nat → Int32 → Int32 → MMt → (Int32 → MMt → Prop) → Prop} {R_X4_readPart : Nat → Int32 → MMt → (Int32 → MMt → Prop) → Prop} {R_X4_readNegated : Nat → Int32 → MMt → (Int32 → MMt → Prop) → Prop} {R_X4_readEnclosed : Nat → Int32 → MMt → (Int32 → MMt → Prop) → Prop} {b : Nat} {x1 : Int32} {x2 : Int32} {mem : MMt} {Q Q' : Int32 → MMt → Prop} (hR_X4_readJoined : ∀ (v0 : Nat) (v1 : Int32) (v2 : Int32) (m : MMt) (Q Q' : Int32 → MMt → Prop), (∀ r0 r1, Q r0 r1 → Q' r0 r1) → R_X4_readJoined v0 v1 v2 m Q → R_X4_readJoined v0 v1 v2 m Q') (hR_X4_readPart : ∀ (v0 : Nat) (v1 : Int32) (m : MMt) (Q Q' : Int32 → MMt → Prop), (∀ r0 r1, Q r0 r1 → Q' r0 r1) → R_X4_readPart v0 v1 m Q → R_X4_readPart v0 v1 m Q') (hR_X4_readNegated : ∀ (v0 : Nat) (v1 : Int32) (m : MMt) (Q Q' : Int32 → MMt → Prop), (∀ r0 r1, Q r0 r1 → Q' r0 r1) → R_X4_readNegated v0 v1 m Q → R_X4_readNegated v0 v1 m Q') (hR_X4_readEnclosed : ∀ (v0 : Nat) (v1 : Int32) (m : MMt) (Q Q' : Int32 → MMt → Prop), (∀ r0 r1, Q r0 r1 → Q' r0 r1) → R_X4_readEnclosed v0 v1 m Q → R_X4_readEnclosed v0 v1 m Q') (hq : ∀ r0 r1, Q r0 r1 → Q' r0 r1) : B_X4_readPart_93 R_X4_readJoined R_X4_readPart R_X4_readNegated R_X4_readEnclosed b x1 x2 mem Q → B_X4_readPart_93 R_X4_readJoined R_X4_readPart R_X4_readNegated R_X4_readEnclosed b x1 x2 mem Q' := by
  unfold B_X4_readPart_93
  repeat' first
    | with_reducible exact id
    | with_reducible exact hq _ _
    | with_reducible refine hR_X4_readJoined _ _ _ _ _ _ fun _ _ => ?_
    | with_reducible refine hR_X4_readPart _ _ _ _ _ fun _ _ => ?_
    | with_reducible refine hR_X4_readNegated _ _ _ _ _ fun _ _ => ?_
    | with_reducible refine hR_X4_readEnclosed _ _ _ _ _ fun _ _ => ?_
    | with_reducible refine And.imp ?_ ?_
    | with_reducible refine all_imp fun _ => ?_
theorem mo_L_X4_readPart {R_X4_readJoined : Nat → Int32 → Int32 → MMt → (Int32 → MMt → Prop) → Prop} {R_X4_readPart : Nat → Int32 → MMt → (Int32 → MMt → Prop) → Prop} {R_X4_readNegated : Nat → Int32 → MMt → (Int32 → MMt → Prop) → Prop} {R_X4_readEnclosed : Nat → Int32 → MMt → (Int32 → MMt → Prop) → Prop} {b : Nat} {a1 : Int32} {mem : MMt} {Q Q' : Int32 → MMt → Prop} (hR_X4_readJoined : ∀ (v0 : Nat) (v1 : Int32) (v2 : Int32) (m : MMt) (Q Q' : Int32 → MMt → Prop), (∀ r0 r1, Q r0 r1 → Q' r0 r1) → R_X4_readJoined v0 v1 v2 m Q → R_X4_readJoined v0 v1 v2 m Q') (hR_X4_readPart : ∀ (v0 : Nat) (v1 : Int32) (m : MMt) (Q Q' : Int32 → MMt → Prop), (∀ r0 r1, Q r0 r1 → Q' r0 r1) → R_X4_readPart v0 v1 m Q → R_X4_readPart v0 v1 m Q') (hR_X4_readNegated : ∀ (v0 : Nat) (v1 : Int32) (m : MMt) (Q Q' : Int32 → MMt → Prop), (∀ r0 r1, Q r0 r1 → Q' r0 r1) → R_X4_readNegated v0 v1 m Q → R_X4_readNegated v0 v1 m Q') (hR_X4_readEnclosed : ∀ (v0 : Nat) (v1 : Int32) (m : MMt) (Q Q' : Int32 → MMt → Prop), (∀ r0 r1, Q r0 r1 → Q' r0 r1) → R_X4_readEnclosed v0 v1 m Q → R_X4_readEnclosed v0 v1 m Q') (hq : ∀ r0 r1, Q r0 r1 → Q' r0 r1) : L_X4_readPart R_X4_readJoined R_X4_readPart R_X4_readNegated R_X4_readEnclosed b a1 mem Q → L_X4_readPart R_X4_readJoined R_X4_readPart R_X4_readNegated R_X4_readEnclosed b a1 mem Q' := by
  unfold L_X4_readPart
  repeat' first
    | with_reducible exact id
    | with_reducible exact hq _ _
    | with_reducible refine hR_X4_readJoined _ _ _ _ _ _ fun _ _ => ?_
    | with_reducible refine hR_X4_readPart _ _ _ _ _ fun _ _ => ?_
    | with_reducible refine hR_X4_readNegated _ _ _ _ _ fun _ _ => ?_
    | with_reducible refine hR_X4_readEnclosed _ _ _ _ _ fun _ _ => ?_
    | with_reducible refine mo_L_X4_isDigit  fun _ _ => ?_
    | with_reducible refine mo_L_J0_indexOf_0f7a4  fun _ _ => ?_
    | with_reducible refine mo_B_X4_readPart_93 hR_X4_readJoined hR_X4_readPart hR_X4_readNegated hR_X4_readEnclosed fun _ _ => ?_
    | with_reducible refine mo_L_X4_keep  fun _ => ?_
    | with_reducible refine mo_L_X4_readNumber  fun _ _ => ?_
    | with_reducible refine And.imp ?_ ?_
    | with_reducible refine all_imp fun _ => ?_
theorem mo_L_X4_readNegated {R_X4_readJoined : Nat → Int32 → Int32 → MMt → (Int32 → MMt → Prop) → Prop} {R_X4_readPart : Nat → Int32 → MMt → (Int32 → MMt → Prop) → Prop} {R_X4_readNegated : Nat → Int32 → MMt → (Int32 → MMt → Prop) → Prop} {R_X4_readEnclosed : Nat → Int32 → MMt → (Int32 → MMt → Prop) → Prop} {b : Nat} {a1 : Int32} {mem : MMt} {Q Q' : Int32 → MMt → Prop} (hR_X4_readJoined : ∀ (v0 : Nat) (v1 : Int32) (v2 : Int32) (m : MMt) (Q Q' : Int32 → MMt → Prop), (∀ r0 r1, Q r0 r1 → Q' r0 r1) → R_X4_readJoined v0 v1 v2 m Q → R_X4_readJoined v0 v1 v2 m Q') (hR_X4_readPart : ∀ (v0 : Nat) (v1 : Int32) (m : MMt) (Q Q' : Int32 → MMt → Prop), (∀ r0 r1, Q r0 r1 → Q' r0 r1) → R_X4_readPart v0 v1 m Q → R_X4_readPart v0 v1 m Q') (hR_X4_readNegated : ∀ (v0 : Nat) (v1 : Int32) (m : MMt) (Q Q' : Int32 → MMt → Prop), (∀ r0 r1, Q r0 r1 → Q' r0 r1) → R_X4_readNegated v0 v1 m Q → R_X4_readNegated v0 v1 m Q') (hR_X4_readEnclosed : ∀ (v0 : Nat) (v1 : Int32) (m : MMt) (Q Q' : Int32 → MMt → Prop), (∀ r0 r1, Q r0 r1 → Q' r0 r1) → R_X4_readEnclosed v0 v1 m Q → R_X4_readEnclosed v0 v1 m Q') (hq : ∀ r0 r1, Q r0 r1 → Q' r0 r1) : L_X4_readNegated R_X4_readJoined R_X4_readPart R_X4_readNegated R_X4_readEnclosed b a1 mem Q → L_X4_readNegated R_X4_readJoined R_X4_readPart R_X4_readNegated R_X4_readEnclosed b a1 mem Q' := by
  unfold L_X4_readNegated
  repeat' first
    | with_reducible exact id
    | with_reducible exact hq _ _
    | with_reducible refine hR_X4_readJoined _ _ _ _ _ _ fun _ _ => ?_
    | with_reducible refine hR_X4_readPart _ _ _ _ _ fun _ _ => ?_
    | with_reducible refine hR_X4_readNegated _ _ _ _ _ fun _ _ => ?_
    | with_reducible refine hR_X4_readEnclosed _ _ _ _ _ fun _ _ => ?_
    | with_reducible refine mo_L_X4_keep  fun _ => ?_
    | with_reducible refine And.imp ?_ ?_
    | with_reducible refine all_imp fun _ => ?_
theorem mo_L_X4_readEnclosed {R_X4_readJoined : Nat → Int32 → Int32 → MMt → (Int32 → MMt → Prop) → Prop} {R_X4_readPart : Nat → Int32 → MMt → (Int32 → MMt → Prop) → Prop} {R_X4_readNegated : Nat → Int32 → MMt → (Int32 → MMt → Prop) → Prop} {R_X4_readEnclosed : Nat → Int32 → MMt → (Int32 → MMt → Prop) → Prop} {b : Nat} {a1 : Int32} {mem : MMt} {Q Q' : Int32 → MMt → Prop} (hR_X4_readJoined : ∀ (v0 : Nat) (v1 : Int32) (v2 : Int32) (m : MMt) (Q Q' : Int32 → MMt → Prop), (∀ r0 r1, Q r0 r1 → Q' r0 r1) → R_X4_readJoined v0 v1 v2 m Q → R_X4_readJoined v0 v1 v2 m Q') (hR_X4_readPart : ∀ (v0 : Nat) (v1 : Int32) (m : MMt) (Q Q' : Int32 → MMt → Prop), (∀ r0 r1, Q r0 r1 → Q' r0 r1) → R_X4_readPart v0 v1 m Q → R_X4_readPart v0 v1 m Q') (hR_X4_readNegated : ∀ (v0 : Nat) (v1 : Int32) (m : MMt) (Q Q' : Int32 → MMt → Prop), (∀ r0 r1, Q r0 r1 → Q' r0 r1) → R_X4_readNegated v0 v1 m Q → R_X4_readNegated v0 v1 m Q') (hR_X4_readEnclosed : ∀ (v0 : Nat) (v1 : Int32) (m : MMt) (Q Q' : Int32 → MMt → Prop), (∀ r0 r1, Q r0 r1 → Q' r0 r1) → R_X4_readEnclosed v0 v1 m Q → R_X4_readEnclosed v0 v1 m Q') (hq : ∀ r0 r1, Q r0 r1 → Q' r0 r1) : L_X4_readEnclosed R_X4_readJoined R_X4_readPart R_X4_readNegated R_X4_readEnclosed b a1 mem Q → L_X4_readEnclosed R_X4_readJoined R_X4_readPart R_X4_readNegated R_X4_readEnclosed b a1 mem Q' := by
  unfold L_X4_readEnclosed
  repeat' first
    | with_reducible exact id
    | with_reducible exact hq _ _
    | with_reducible refine hR_X4_readJoined _ _ _ _ _ _ fun _ _ => ?_
    | with_reducible refine hR_X4_readPart _ _ _ _ _ fun _ _ => ?_
    | with_reducible refine hR_X4_readNegated _ _ _ _ _ fun _ _ => ?_
    | with_reducible refine hR_X4_readEnclosed _ _ _ _ _ fun _ _ => ?_
    | with_reducible refine And.imp ?_ ?_
    | with_reducible refine all_imp fun _ => ?_
theorem mo_WW_X4_readJoined : ∀ n : Nat, (∀ (b : Nat) (a1 : Int32) (a2 : Int32) (m : MMt) (Q Q' : Int32 → MMt → Prop), (∀ r0 r1, Q r0 r1 → Q' r0 r1) → (WW_X4_readJoined n).1 b a1 a2 m Q → (WW_X4_readJoined n).1 b a1 a2 m Q') ∧ (∀ (b : Nat) (a1 : Int32) (m : MMt) (Q Q' : Int32 → MMt → Prop), (∀ r0 r1, Q r0 r1 → Q' r0 r1) → (WW_X4_readJoined n).2.1 b a1 m Q → (WW_X4_readJoined n).2.1 b a1 m Q') ∧ (∀ (b : Nat) (a1 : Int32) (m : MMt) (Q Q' : Int32 → MMt → Prop), (∀ r0 r1, Q r0 r1 → Q' r0 r1) → (WW_X4_readJoined n).2.2.1 b a1 m Q → (WW_X4_readJoined n).2.2.1 b a1 m Q') ∧ (∀ (b : Nat) (a1 : Int32) (m : MMt) (Q Q' : Int32 → MMt → Prop), (∀ r0 r1, Q r0 r1 → Q' r0 r1) → (WW_X4_readJoined n).2.2.2 b a1 m Q → (WW_X4_readJoined n).2.2.2 b a1 m Q')
  | 0 => ⟨fun _ _ _ _ _ _ _ h => h.elim, fun _ _ _ _ _ _ h => h.elim, fun _ _ _ _ _ _ h => h.elim, fun _ _ _ _ _ _ h => h.elim⟩
  | n + 1 => ⟨fun _ _ _ _ _ _ hq h => mo_L_X4_readJoined (mo_WW_X4_readJoined n).1 (mo_WW_X4_readJoined n).2.1 (mo_WW_X4_readJoined n).2.2.1 (mo_WW_X4_readJoined n).2.2.2 hq h, fun _ _ _ _ _ hq h => mo_L_X4_readPart (mo_WW_X4_readJoined n).1 (mo_WW_X4_readJoined n).2.1 (mo_WW_X4_readJoined n).2.2.1 (mo_WW_X4_readJoined n).2.2.2 hq h, fun _ _ _ _ _ hq h => mo_L_X4_readNegated (mo_WW_X4_readJoined n).1 (mo_WW_X4_readJoined n).2.1 (mo_WW_X4_readJoined n).2.2.1 (mo_WW_X4_readJoined n).2.2.2 hq h, fun _ _ _ _ _ hq h => mo_L_X4_readEnclosed (mo_WW_X4_readJoined n).1 (mo_WW_X4_readJoined n).2.1 (mo_WW_X4_readJoined n).2.2.1 (mo_WW_X4_readJoined n).2.2.2 hq h⟩
theorem mo_W_X4_readJoined {n : Nat} {b : Nat} {a1 : Int32} {a2 : Int32} {mem : MMt} {Q Q' : Int32 → MMt → Prop} (hq : ∀ r0 r1, Q r0 r1 → Q' r0 r1) : W_X4_readJoined n b a1 a2 mem Q → W_X4_readJoined n b a1 a2 mem Q' := fun h => (mo_WW_X4_readJoined n).1 _ _ _ _ _ _ hq h
theorem mo_W_X4_readPart {n : Nat} {b : Nat} {a1 : Int32} {mem : MMt} {Q Q' : Int32 → MMt → Prop} (hq : ∀ r0 r1, Q r0 r1 → Q' r0 r1) : W_X4_readPart n b a1 mem Q → W_X4_readPart n b a1 mem Q' := fun h => (mo_WW_X4_readJoined n).2.1 _ _ _ _ _ hq h
theorem mo_W_X4_readNegated {n : Nat} {b : Nat} {a1 : Int32} {mem : MMt} {Q Q' : Int32 → MMt → Prop} (hq : ∀ r0 r1, Q r0 r1 → Q' r0 r1) : W_X4_readNegated n b a1 mem Q → W_X4_readNegated n b a1 mem Q' := fun h => (mo_WW_X4_readJoined n).2.2.1 _ _ _ _ _ hq h
theorem mo_W_X4_readEnclosed {n : Nat} {b : Nat} {a1 : Int32} {mem : MMt} {Q Q' : Int32 → MMt → Prop} (hq : ∀ r0 r1, Q r0 r1 → Q' r0 r1) : W_X4_readEnclosed n b a1 mem Q → W_X4_readEnclosed n b a1 mem Q' := fun h => (mo_WW_X4_readJoined n).2.2.2 _ _ _ _ _ hq h
theorem mo_B_X4_fault_27 {b : Nat} {mem : MMt} {Q Q' : Int32 → MMt → Prop} (hq : ∀ r0 r1, Q r0 r1 → Q' r0 r1) : B_X4_fault_27 b mem Q → B_X4_fault_27 b mem Q' := by
  unfold B_X4_fault_27
  repeat' first
    | with_reducible exact id
    | with_reducible exact hq _ _
    | with_reducible refine mo_W_X4_readJoined fun _ _ => ?_
    | with_reducible refine And.imp ?_ ?_
    | with_reducible refine all_imp fun _ => ?_
theorem mo_L_X4_fault {a2 : Int32} {a3 : Int32} {mem : MMt} {Q Q' : Int32 → MMt → Prop} (hq : ∀ r0 r1, Q r0 r1 → Q' r0 r1) : L_X4_fault a2 a3 mem Q → L_X4_fault a2 a3 mem Q' := by
  unfold L_X4_fault
  repeat' first
    | with_reducible exact id
    | with_reducible exact hq _ _
    | with_reducible refine mo_L_J9_min_7cf53  fun _ _ => ?_
    | with_reducible refine mo_B_X4_fault_27  fun _ _ => ?_
    | with_reducible refine And.imp ?_ ?_
    | with_reducible refine all_imp fun _ => ?_
theorem mo_L_X5_lawOf {a1 : Int32} {mem : MMt} {Q Q' : Nat → MMt → Prop} (hq : ∀ r0 r1, Q r0 r1 → Q' r0 r1) : L_X5_lawOf a1 mem Q → L_X5_lawOf a1 mem Q' := by
  unfold L_X5_lawOf
  repeat' first
    | with_reducible exact id
    | with_reducible exact hq _ _
    | with_reducible refine And.imp ?_ ?_
    | with_reducible refine all_imp fun _ => ?_
theorem mo_L_X2_hold {q0 : Nat} {a1 : Nat} {a2 : Int32} {mem : MMt} {Q Q' : MMt → Prop} (hq : ∀ r0, Q r0 → Q' r0) : L_X2_hold q0 a1 a2 mem Q → L_X2_hold q0 a1 a2 mem Q' := by
  unfold L_X2_hold
  repeat' first
    | with_reducible exact id
    | with_reducible exact hq _
    | with_reducible refine mo_L_X9_held  fun _ _ => ?_
    | with_reducible refine And.imp ?_ ?_
    | with_reducible refine all_imp fun _ => ?_
theorem mo_B_J7_fill_031fb_5 {a1 : Nat} {n0 : Nat} {x1 : Int32} {x2 : Int32} {x3 : Int32} {mem : MMt} {Q Q' : MMt → Prop} (hq : ∀ r0, Q r0 → Q' r0) : B_J7_fill_031fb_5 a1 n0 x1 x2 x3 mem Q → B_J7_fill_031fb_5 a1 n0 x1 x2 x3 mem Q' := by
  unfold B_J7_fill_031fb_5
  repeat' first
    | with_reducible exact id
    | with_reducible exact hq _
    | with_reducible refine LOOP_imp fun _ _ => ?_
    | with_reducible refine And.imp ?_ ?_
    | with_reducible refine all_imp fun _ => ?_
theorem mo_L_J7_fill_031fb {a1 : Nat} {n0 : Nat} {a2 : Int32} {mem : MMt} {Q Q' : MMt → Prop} (hq : ∀ r0, Q r0 → Q' r0) : L_J7_fill_031fb a1 n0 a2 mem Q → L_J7_fill_031fb a1 n0 a2 mem Q' := by
  unfold L_J7_fill_031fb
  repeat' first
    | with_reducible exact id
    | with_reducible exact hq _
    | with_reducible refine mo_B_J7_fill_031fb_5  fun _ => ?_
    | with_reducible refine And.imp ?_ ?_
    | with_reducible refine all_imp fun _ => ?_
theorem mo_L_X5_forgetPulls {q0 : Nat} {mem : MMt} {Q Q' : MMt → Prop} (hq : ∀ r0, Q r0 → Q' r0) : L_X5_forgetPulls q0 mem Q → L_X5_forgetPulls q0 mem Q' := by
  unfold L_X5_forgetPulls
  repeat' first
    | with_reducible exact id
    | with_reducible exact hq _
    | with_reducible refine mo_L_J7_fill_031fb  fun _ => ?_
    | with_reducible refine And.imp ?_ ?_
    | with_reducible refine all_imp fun _ => ?_
theorem mo_L_X9_text {a1 : Int32} {mem : MMt} {Q Q' : Int32 → MMt → Prop} (hq : ∀ r0 r1, Q r0 r1 → Q' r0 r1) : L_X9_text a1 mem Q → L_X9_text a1 mem Q' := by
  unfold L_X9_text
  repeat' first
    | with_reducible exact id
    | with_reducible exact hq _ _
    | with_reducible refine mo_L_X9_isUse  fun _ _ => ?_
    | with_reducible refine mo_L_X4_fault  fun _ _ => ?_
    | with_reducible refine mo_L_X5_lawOf  fun _ _ => ?_
    | with_reducible refine mo_L_X2_hold  fun _ => ?_
    | with_reducible refine mo_L_X5_forgetPulls  fun _ => ?_
    | with_reducible refine mo_L_X9_error  fun _ _ => ?_
    | with_reducible refine And.imp ?_ ?_
    | with_reducible refine all_imp fun _ => ?_
theorem mo_L_X9_law {a1 : Int32} {a2 : Int32} {a3 : Int32} {a4 : Int32} {mem : MMt} {Q Q' : Int32 → MMt → Prop} (hq : ∀ r0 r1, Q r0 r1 → Q' r0 r1) : L_X9_law a1 a2 a3 a4 mem Q → L_X9_law a1 a2 a3 a4 mem Q' := by
  unfold L_X9_law
  repeat' first
    | with_reducible exact id
    | with_reducible exact hq _ _
    | with_reducible refine mo_L_X9_isUse  fun _ _ => ?_
    | with_reducible refine mo_L_X5_lawOf  fun _ _ => ?_
    | with_reducible refine mo_L_X2_give  fun _ _ => ?_
    | with_reducible refine mo_L_X9_error  fun _ _ => ?_
    | with_reducible refine And.imp ?_ ?_
    | with_reducible refine all_imp fun _ => ?_
theorem mo_B_X0_goOn_74 {q0 : Nat} {X2 : Int32 × MMt → Prop} {x0 : Nat} {x2 : Int32} {x3 : Nat} {s0 : Int32} {mem : MMt} {Q Q' : MMt → Prop} (hq : ∀ r0, Q r0 → Q' r0) : B_X0_goOn_74 q0 X2 x0 x2 x3 s0 mem Q → B_X0_goOn_74 q0 X2 x0 x2 x3 s0 mem Q' := by
  unfold B_X0_goOn_74
  repeat' first
    | with_reducible exact id
    | with_reducible exact hq _
    | with_reducible refine mo_L_X1_load  fun _ _ => ?_
    | with_reducible refine mo_L_X2_give  fun _ _ => ?_
    | with_reducible refine mo_L_X9_held  fun _ _ => ?_
    | with_reducible refine And.imp ?_ ?_
    | with_reducible refine all_imp fun _ => ?_
theorem mo_B_X0_goOn_58 {q0 : Nat} {X2 : Int32 × MMt → Prop} {x0 : Nat} {x2 : Int32} {x3 : Nat} {mem : MMt} {Q Q' : MMt → Prop} (hq : ∀ r0, Q r0 → Q' r0) : B_X0_goOn_58 q0 X2 x0 x2 x3 mem Q → B_X0_goOn_58 q0 X2 x0 x2 x3 mem Q' := by
  unfold B_X0_goOn_58
  repeat' first
    | with_reducible exact id
    | with_reducible exact hq _
    | with_reducible refine mo_B_X0_goOn_74  fun _ => ?_
    | with_reducible refine And.imp ?_ ?_
    | with_reducible refine all_imp fun _ => ?_
theorem mo_B_X0_goOn_2 {q0 : Nat} {x0 : Nat} {x2 : Int32} {mem : MMt} {Q Q' : MMt → Prop} (hq : ∀ r0, Q r0 → Q' r0) : B_X0_goOn_2 q0 x0 x2 mem Q → B_X0_goOn_2 q0 x0 x2 mem Q' := by
  unfold B_X0_goOn_2
  repeat' first
    | with_reducible exact id
    | with_reducible exact hq _
    | with_reducible refine mo_L_X5_pullOf  fun _ _ => ?_
    | with_reducible refine mo_L_X1_stride  fun _ _ => ?_
    | with_reducible refine mo_B_X0_goOn_58  fun _ => ?_
    | with_reducible refine LOOP_imp fun _ _ => ?_
    | with_reducible refine And.imp ?_ ?_
    | with_reducible refine all_imp fun _ => ?_
theorem mo_L_X0_goOn {q0 : Nat} {mem : MMt} {Q Q' : MMt → Prop} (hq : ∀ r0, Q r0 → Q' r0) : L_X0_goOn q0 mem Q → L_X0_goOn q0 mem Q' := by
  unfold L_X0_goOn
  repeat' first
    | with_reducible exact id
    | with_reducible exact hq _
    | with_reducible refine mo_B_X0_goOn_2  fun _ => ?_
    | with_reducible refine And.imp ?_ ?_
    | with_reducible refine all_imp fun _ => ?_
theorem mo_B_X9_howManyRest_40 {X4 : Int32 × Int32 × MMt → Prop} {x2 : Int32} {s0 : Int32} {s1 : Int32} {mem : MMt} {Q Q' : Int32 → MMt → Prop} (hq : ∀ r0 r1, Q r0 r1 → Q' r0 r1) : B_X9_howManyRest_40 X4 x2 s0 s1 mem Q → B_X9_howManyRest_40 X4 x2 s0 s1 mem Q' := by
  unfold B_X9_howManyRest_40
  repeat' first
    | with_reducible exact id
    | with_reducible exact hq _ _
    | with_reducible refine And.imp ?_ ?_
    | with_reducible refine all_imp fun _ => ?_
theorem mo_B_X9_howManyRest_4 {x1 : Int32} {x2 : Int32} {mem : MMt} {Q Q' : Int32 → MMt → Prop} (hq : ∀ r0 r1, Q r0 r1 → Q' r0 r1) : B_X9_howManyRest_4 x1 x2 mem Q → B_X9_howManyRest_4 x1 x2 mem Q' := by
  unfold B_X9_howManyRest_4
  repeat' first
    | with_reducible exact id
    | with_reducible exact hq _ _
    | with_reducible refine mo_L_X7_stays  fun _ _ => ?_
    | with_reducible refine mo_B_X9_howManyRest_40  fun _ _ => ?_
    | with_reducible refine LOOP_imp fun _ _ => ?_
    | with_reducible refine And.imp ?_ ?_
    | with_reducible refine all_imp fun _ => ?_
theorem mo_L_X9_howManyRest {mem : MMt} {Q Q' : Int32 → MMt → Prop} (hq : ∀ r0 r1, Q r0 r1 → Q' r0 r1) : L_X9_howManyRest mem Q → L_X9_howManyRest mem Q' := by
  unfold L_X9_howManyRest
  repeat' first
    | with_reducible exact id
    | with_reducible exact hq _ _
    | with_reducible refine mo_B_X9_howManyRest_4  fun _ _ => ?_
    | with_reducible refine And.imp ?_ ?_
    | with_reducible refine all_imp fun _ => ?_
theorem mo_B_X9_steps_40 {x1 : Int32} {x2 : Int32} {mem : MMt} {Q Q' : Int32 → MMt → Prop} (hq : ∀ r0 r1, Q r0 r1 → Q' r0 r1) : B_X9_steps_40 x1 x2 mem Q → B_X9_steps_40 x1 x2 mem Q' := by
  unfold B_X9_steps_40
  repeat' first
    | with_reducible exact id
    | with_reducible exact hq _ _
    | with_reducible refine mo_L_X9_howManyRest  fun _ _ => ?_
    | with_reducible refine mo_L_X0_goOn  fun _ => ?_
    | with_reducible refine LOOP_imp fun _ _ => ?_
    | with_reducible refine And.imp ?_ ?_
    | with_reducible refine all_imp fun _ => ?_
theorem mo_L_X9_steps {a1 : Int32} {mem : MMt} {Q Q' : Int32 → MMt → Prop} (hq : ∀ r0 r1, Q r0 r1 → Q' r0 r1) : L_X9_steps a1 mem Q → L_X9_steps a1 mem Q' := by
  unfold L_X9_steps
  repeat' first
    | with_reducible exact id
    | with_reducible exact hq _ _
    | with_reducible refine mo_L_X9_within  fun _ _ => ?_
    | with_reducible refine mo_B_X9_steps_40  fun _ _ => ?_
    | with_reducible refine mo_L_X9_error  fun _ _ => ?_
    | with_reducible refine And.imp ?_ ?_
    | with_reducible refine all_imp fun _ => ?_
theorem mo_L_X5_nextDraw {mem : MMt} {Q Q' : Int32 → MMt → Prop} (hq : ∀ r0 r1, Q r0 r1 → Q' r0 r1) : L_X5_nextDraw mem Q → L_X5_nextDraw mem Q' := by
  unfold L_X5_nextDraw
  repeat' first
    | with_reducible exact id
    | with_reducible exact hq _ _
    | with_reducible refine And.imp ?_ ?_
    | with_reducible refine all_imp fun _ => ?_
theorem mo_B_X0_quake_2 {q0 : Nat} {x0 : Nat} {x2 : Int32} {mem : MMt} {Q Q' : MMt → Prop} (hq : ∀ r0, Q r0 → Q' r0) : B_X0_quake_2 q0 x0 x2 mem Q → B_X0_quake_2 q0 x0 x2 mem Q' := by
  unfold B_X0_quake_2
  repeat' first
    | with_reducible exact id
    | with_reducible exact hq _
    | with_reducible refine mo_L_X5_nextDraw  fun _ _ => ?_
    | with_reducible refine mo_L_X1_shove  fun _ => ?_
    | with_reducible refine LOOP_imp fun _ _ => ?_
    | with_reducible refine And.imp ?_ ?_
    | with_reducible refine all_imp fun _ => ?_
theorem mo_L_X0_quake {q0 : Nat} {mem : MMt} {Q Q' : MMt → Prop} (hq : ∀ r0, Q r0 → Q' r0) : L_X0_quake q0 mem Q → L_X0_quake q0 mem Q' := by
  unfold L_X0_quake
  repeat' first
    | with_reducible exact id
    | with_reducible exact hq _
    | with_reducible refine mo_B_X0_quake_2  fun _ => ?_
    | with_reducible refine And.imp ?_ ?_
    | with_reducible refine all_imp fun _ => ?_
theorem mo_B_X9_loose_40 {x1 : Int32} {x2 : Int32} {mem : MMt} {Q Q' : Int32 → MMt → Prop} (hq : ∀ r0 r1, Q r0 r1 → Q' r0 r1) : B_X9_loose_40 x1 x2 mem Q → B_X9_loose_40 x1 x2 mem Q' := by
  unfold B_X9_loose_40
  repeat' first
    | with_reducible exact id
    | with_reducible exact hq _ _
    | with_reducible refine mo_L_X9_howManyRest  fun _ _ => ?_
    | with_reducible refine mo_L_X0_quake  fun _ => ?_
    | with_reducible refine mo_L_X0_goOn  fun _ => ?_
    | with_reducible refine LOOP_imp fun _ _ => ?_
    | with_reducible refine And.imp ?_ ?_
    | with_reducible refine all_imp fun _ => ?_
theorem mo_L_X9_loose {a1 : Int32} {mem : MMt} {Q Q' : Int32 → MMt → Prop} (hq : ∀ r0 r1, Q r0 r1 → Q' r0 r1) : L_X9_loose a1 mem Q → L_X9_loose a1 mem Q' := by
  unfold L_X9_loose
  repeat' first
    | with_reducible exact id
    | with_reducible exact hq _ _
    | with_reducible refine mo_L_X9_within  fun _ _ => ?_
    | with_reducible refine mo_B_X9_loose_40  fun _ _ => ?_
    | with_reducible refine mo_L_X9_error  fun _ _ => ?_
    | with_reducible refine And.imp ?_ ?_
    | with_reducible refine all_imp fun _ => ?_
theorem mo_B_X0_copyFrom_26 {q0 : Nat} {a1 : Nat} {x0 : Nat} {x1 : Nat} {x2 : Int32} {mem : MMt} {Q Q' : MMt → Prop} (hq : ∀ r0, Q r0 → Q' r0) : B_X0_copyFrom_26 q0 a1 x0 x1 x2 mem Q → B_X0_copyFrom_26 q0 a1 x0 x1 x2 mem Q' := by
  unfold B_X0_copyFrom_26
  repeat' first
    | with_reducible exact id
    | with_reducible exact hq _
    | with_reducible refine mo_L_X1_copyFrom  fun _ => ?_
    | with_reducible refine LOOP_imp fun _ _ => ?_
    | with_reducible refine And.imp ?_ ?_
    | with_reducible refine all_imp fun _ => ?_
theorem mo_L_X0_copyFrom {q0 : Nat} {a1 : Nat} {mem : MMt} {Q Q' : MMt → Prop} (hq : ∀ r0, Q r0 → Q' r0) : L_X0_copyFrom q0 a1 mem Q → L_X0_copyFrom q0 a1 mem Q' := by
  unfold L_X0_copyFrom
  repeat' first
    | with_reducible exact id
    | with_reducible exact hq _
    | with_reducible refine mo_B_X0_copyFrom_26  fun _ => ?_
    | with_reducible refine And.imp ?_ ?_
    | with_reducible refine all_imp fun _ => ?_
theorem mo_B_X9_then_48 {x1 : Int32} {x2 : Int32} {x3 : Int32} {x4 : Int32} {mem : MMt} {Q Q' : Int32 → MMt → Prop} (hq : ∀ r0 r1, Q r0 r1 → Q' r0 r1) : B_X9_then_48 x1 x2 x3 x4 mem Q → B_X9_then_48 x1 x2 x3 x4 mem Q' := by
  unfold B_X9_then_48
  repeat' first
    | with_reducible exact id
    | with_reducible exact hq _ _
    | with_reducible refine mo_L_X0_goOn  fun _ => ?_
    | with_reducible refine LOOP_imp fun _ _ => ?_
    | with_reducible refine And.imp ?_ ?_
    | with_reducible refine all_imp fun _ => ?_
theorem mo_L_X9_then {a1 : Int32} {a2 : Int32} {a3 : Int32} {mem : MMt} {Q Q' : Int32 → MMt → Prop} (hq : ∀ r0 r1, Q r0 r1 → Q' r0 r1) : L_X9_then a1 a2 a3 mem Q → L_X9_then a1 a2 a3 mem Q' := by
  unfold L_X9_then
  repeat' first
    | with_reducible exact id
    | with_reducible exact hq _ _
    | with_reducible refine mo_L_X9_within  fun _ _ => ?_
    | with_reducible refine mo_L_X9_error  fun _ _ => ?_
    | with_reducible refine mo_L_X9_isGood  fun _ _ => ?_
    | with_reducible refine mo_L_X0_copyFrom  fun _ => ?_
    | with_reducible refine mo_B_X9_then_48  fun _ _ => ?_
    | with_reducible refine And.imp ?_ ?_
    | with_reducible refine all_imp fun _ => ?_
theorem mo_B_X7_restsBehind_10 {a1 : Nat} {x2 : Int32} {mem : MMt} {Q Q' : Int32 → MMt → Prop} (hq : ∀ r0 r1, Q r0 r1 → Q' r0 r1) : B_X7_restsBehind_10 a1 x2 mem Q → B_X7_restsBehind_10 a1 x2 mem Q' := by
  unfold B_X7_restsBehind_10
  repeat' first
    | with_reducible exact id
    | with_reducible exact hq _ _
    | with_reducible refine mo_L_X7_goesOn  fun _ _ => ?_
    | with_reducible refine LOOP_imp fun _ _ => ?_
    | with_reducible refine And.imp ?_ ?_
    | with_reducible refine all_imp fun _ => ?_
theorem mo_L_X7_restsBehind {a1 : Nat} {mem : MMt} {Q Q' : Int32 → MMt → Prop} (hq : ∀ r0 r1, Q r0 r1 → Q' r0 r1) : L_X7_restsBehind a1 mem Q → L_X7_restsBehind a1 mem Q' := by
  unfold L_X7_restsBehind
  repeat' first
    | with_reducible exact id
    | with_reducible exact hq _ _
    | with_reducible refine mo_L_X1_copyFrom  fun _ => ?_
    | with_reducible refine mo_B_X7_restsBehind_10  fun _ _ => ?_
    | with_reducible refine And.imp ?_ ?_
    | with_reducible refine all_imp fun _ => ?_
theorem mo_L_X9_rests {a1 : Int32} {a2 : Int32} {mem : MMt} {Q Q' : Int32 → MMt → Prop} (hq : ∀ r0 r1, Q r0 r1 → Q' r0 r1) : L_X9_rests a1 a2 mem Q → L_X9_rests a1 a2 mem Q' := by
  unfold L_X9_rests
  repeat' first
    | with_reducible exact id
    | with_reducible exact hq _ _
    | with_reducible refine mo_L_X9_isGood  fun _ _ => ?_
    | with_reducible refine mo_L_X9_error  fun _ _ => ?_
    | with_reducible refine mo_L_X9_within  fun _ _ => ?_
    | with_reducible refine mo_L_X7_restsBehind  fun _ _ => ?_
    | with_reducible refine And.imp ?_ ?_
    | with_reducible refine all_imp fun _ => ?_
theorem mo_L_X9_isMiddle {a1 : Int32} {mem : MMt} {Q Q' : Int32 → MMt → Prop} (hq : ∀ r0 r1, Q r0 r1 → Q' r0 r1) : L_X9_isMiddle a1 mem Q → L_X9_isMiddle a1 mem Q' := by
  unfold L_X9_isMiddle
  repeat' first
    | with_reducible exact id
    | with_reducible exact hq _ _
    | with_reducible refine mo_L_X9_within  fun _ _ => ?_
    | with_reducible refine And.imp ?_ ?_
    | with_reducible refine all_imp fun _ => ?_
theorem mo_B_X9_first_8 {x1 : Int32} {x2 : Int32} {x3 : Int32} {mem : MMt} {Q Q' : Int32 → MMt → Prop} (hq : ∀ r0 r1, Q r0 r1 → Q' r0 r1) : B_X9_first_8 x1 x2 x3 mem Q → B_X9_first_8 x1 x2 x3 mem Q' := by
  unfold B_X9_first_8
  repeat' first
    | with_reducible exact id
    | with_reducible exact hq _ _
    | with_reducible refine mo_L_X9_error  fun _ _ => ?_
    | with_reducible refine mo_L_X7_restsBehind  fun _ _ => ?_
    | with_reducible refine mo_L_X9_isMiddle  fun _ _ => ?_
    | with_reducible refine LOOP_imp fun _ _ => ?_
    | with_reducible refine And.imp ?_ ?_
    | with_reducible refine all_imp fun _ => ?_
theorem mo_L_X9_first {mem : MMt} {Q Q' : Int32 → MMt → Prop} (hq : ∀ r0 r1, Q r0 r1 → Q' r0 r1) : L_X9_first mem Q → L_X9_first mem Q' := by
  unfold L_X9_first
  repeat' first
    | with_reducible exact id
    | with_reducible exact hq _ _
    | with_reducible refine mo_B_X9_first_8  fun _ _ => ?_
    | with_reducible refine And.imp ?_ ?_
    | with_reducible refine all_imp fun _ => ?_
theorem mo_B_X7_overBehind_19 {a1 : Nat} {x2 : Int32} {x4 : Int32} {mem : MMt} {Q Q' : Int32 → MMt → Prop} (hq : ∀ r0 r1, Q r0 r1 → Q' r0 r1) : B_X7_overBehind_19 a1 x2 x4 mem Q → B_X7_overBehind_19 a1 x2 x4 mem Q' := by
  unfold B_X7_overBehind_19
  repeat' first
    | with_reducible exact id
    | with_reducible exact hq _ _
    | with_reducible refine mo_L_X7_goesOn  fun _ _ => ?_
    | with_reducible refine LOOP_imp fun _ _ => ?_
    | with_reducible refine And.imp ?_ ?_
    | with_reducible refine all_imp fun _ => ?_
theorem mo_L_X7_overBehind {a1 : Nat} {a2 : Int32} {a3 : Int32} {mem : MMt} {Q Q' : Int32 → MMt → Prop} (hq : ∀ r0 r1, Q r0 r1 → Q' r0 r1) : L_X7_overBehind a1 a2 a3 mem Q → L_X7_overBehind a1 a2 a3 mem Q' := by
  unfold L_X7_overBehind
  repeat' first
    | with_reducible exact id
    | with_reducible exact hq _ _
    | with_reducible refine mo_L_X1_copyFrom  fun _ => ?_
    | with_reducible refine mo_L_X1_shove  fun _ => ?_
    | with_reducible refine mo_B_X7_overBehind_19  fun _ _ => ?_
    | with_reducible refine And.imp ?_ ?_
    | with_reducible refine all_imp fun _ => ?_
theorem mo_L_X9_over {a1 : Int32} {a2 : Int32} {a3 : Int32} {mem : MMt} {Q Q' : Int32 → MMt → Prop} (hq : ∀ r0 r1, Q r0 r1 → Q' r0 r1) : L_X9_over a1 a2 a3 mem Q → L_X9_over a1 a2 a3 mem Q' := by
  unfold L_X9_over
  repeat' first
    | with_reducible exact id
    | with_reducible exact hq _ _
    | with_reducible refine mo_L_X9_isGood  fun _ _ => ?_
    | with_reducible refine mo_L_X9_error  fun _ _ => ?_
    | with_reducible refine mo_L_X9_isSide  fun _ _ => ?_
    | with_reducible refine mo_L_X9_isPush  fun _ _ => ?_
    | with_reducible refine mo_L_X7_overBehind  fun _ _ => ?_
    | with_reducible refine And.imp ?_ ?_
    | with_reducible refine all_imp fun _ => ?_
theorem mo_L_X9_pushBySize {a1 : Int32} {mem : MMt} {Q Q' : Int32 → MMt → Prop} (hq : ∀ r0 r1, Q r0 r1 → Q' r0 r1) : L_X9_pushBySize a1 mem Q → L_X9_pushBySize a1 mem Q' := by
  unfold L_X9_pushBySize
  repeat' first
    | with_reducible exact id
    | with_reducible exact hq _ _
    | with_reducible refine And.imp ?_ ?_
    | with_reducible refine all_imp fun _ => ?_
theorem mo_B_X9_soonest_87 {X39 : Int32 × Int32 × Int32 × MMt → Prop} {x1 : Int32} {x2 : Int32} {x3 : Int32} {x6 : Int32} {x7 : Int32} {mem : MMt} {Q Q' : Int32 → MMt → Prop} (hq : ∀ r0 r1, Q r0 r1 → Q' r0 r1) : B_X9_soonest_87 X39 x1 x2 x3 x6 x7 mem Q → B_X9_soonest_87 X39 x1 x2 x3 x6 x7 mem Q' := by
  unfold B_X9_soonest_87
  repeat' first
    | with_reducible exact id
    | with_reducible exact hq _ _
    | with_reducible refine mo_L_X9_pushBySize  fun _ _ => ?_
    | with_reducible refine And.imp ?_ ?_
    | with_reducible refine all_imp fun _ => ?_
theorem mo_B_X9_soonest_39 {x1 : Int32} {x2 : Int32} {x3 : Int32} {x4 : Int32} {x5 : Int32} {x6 : Int32} {mem : MMt} {Q Q' : Int32 → MMt → Prop} (hq : ∀ r0 r1, Q r0 r1 → Q' r0 r1) : B_X9_soonest_39 x1 x2 x3 x4 x5 x6 mem Q → B_X9_soonest_39 x1 x2 x3 x4 x5 x6 mem Q' := by
  unfold B_X9_soonest_39
  repeat' first
    | with_reducible exact id
    | with_reducible exact hq _ _
    | with_reducible refine mo_L_X9_error  fun _ _ => ?_
    | with_reducible refine mo_L_X9_pushBySize  fun _ _ => ?_
    | with_reducible refine mo_L_X7_overBehind  fun _ _ => ?_
    | with_reducible refine mo_B_X9_soonest_87  fun _ _ => ?_
    | with_reducible refine LOOP_imp fun _ _ => ?_
    | with_reducible refine And.imp ?_ ?_
    | with_reducible refine all_imp fun _ => ?_
theorem mo_L_X9_soonest {a1 : Int32} {a2 : Int32} {a3 : Int32} {mem : MMt} {Q Q' : Int32 → MMt → Prop} (hq : ∀ r0 r1, Q r0 r1 → Q' r0 r1) : L_X9_soonest a1 a2 a3 mem Q → L_X9_soonest a1 a2 a3 mem Q' := by
  unfold L_X9_soonest
  repeat' first
    | with_reducible exact id
    | with_reducible exact hq _ _
    | with_reducible refine mo_L_X9_isGood  fun _ _ => ?_
    | with_reducible refine mo_L_X9_error  fun _ _ => ?_
    | with_reducible refine mo_L_X9_isSide  fun _ _ => ?_
    | with_reducible refine mo_L_X9_within  fun _ _ => ?_
    | with_reducible refine mo_B_X9_soonest_39  fun _ _ => ?_
    | with_reducible refine And.imp ?_ ?_
    | with_reducible refine all_imp fun _ => ?_
theorem mo_B_X9_least_23 {x1 : Int32} {x2 : Int32} {x3 : Int32} {mem : MMt} {Q Q' : Int32 → MMt → Prop} (hq : ∀ r0 r1, Q r0 r1 → Q' r0 r1) : B_X9_least_23 x1 x2 x3 mem Q → B_X9_least_23 x1 x2 x3 mem Q' := by
  unfold B_X9_least_23
  repeat' first
    | with_reducible exact id
    | with_reducible exact hq _ _
    | with_reducible refine mo_L_X9_error  fun _ _ => ?_
    | with_reducible refine mo_L_X9_pushBySize  fun _ _ => ?_
    | with_reducible refine mo_L_X7_overBehind  fun _ _ => ?_
    | with_reducible refine LOOP_imp fun _ _ => ?_
    | with_reducible refine And.imp ?_ ?_
    | with_reducible refine all_imp fun _ => ?_
theorem mo_L_X9_least {a1 : Int32} {a2 : Int32} {mem : MMt} {Q Q' : Int32 → MMt → Prop} (hq : ∀ r0 r1, Q r0 r1 → Q' r0 r1) : L_X9_least a1 a2 mem Q → L_X9_least a1 a2 mem Q' := by
  unfold L_X9_least
  repeat' first
    | with_reducible exact id
    | with_reducible exact hq _ _
    | with_reducible refine mo_L_X9_isGood  fun _ _ => ?_
    | with_reducible refine mo_L_X9_error  fun _ _ => ?_
    | with_reducible refine mo_L_X9_isSide  fun _ _ => ?_
    | with_reducible refine mo_B_X9_least_23  fun _ _ => ?_
    | with_reducible refine And.imp ?_ ?_
    | with_reducible refine all_imp fun _ => ?_
theorem mo_B_J7_fill_53178_5 {a1 : Nat} {n0 : Nat} {x1 : Int32} {x2 : Int32} {x3 : Int32} {mem : MMt} {Q Q' : MMt → Prop} (hq : ∀ r0, Q r0 → Q' r0) : B_J7_fill_53178_5 a1 n0 x1 x2 x3 mem Q → B_J7_fill_53178_5 a1 n0 x1 x2 x3 mem Q' := by
  unfold B_J7_fill_53178_5
  repeat' first
    | with_reducible exact id
    | with_reducible exact hq _
    | with_reducible refine LOOP_imp fun _ _ => ?_
    | with_reducible refine And.imp ?_ ?_
    | with_reducible refine all_imp fun _ => ?_
theorem mo_L_J7_fill_53178 {a1 : Nat} {n0 : Nat} {a2 : Int32} {mem : MMt} {Q Q' : MMt → Prop} (hq : ∀ r0, Q r0 → Q' r0) : L_J7_fill_53178 a1 n0 a2 mem Q → L_J7_fill_53178 a1 n0 a2 mem Q' := by
  unfold L_J7_fill_53178
  repeat' first
    | with_reducible exact id
    | with_reducible exact hq _
    | with_reducible refine mo_B_J7_fill_53178_5  fun _ => ?_
    | with_reducible refine And.imp ?_ ?_
    | with_reducible refine all_imp fun _ => ?_
theorem mo_B_X3_keepIfBetter_31 {x2 : Int32} {mem : MMt} {Q Q' : MMt → Prop} (hq : ∀ r0, Q r0 → Q' r0) : B_X3_keepIfBetter_31 x2 mem Q → B_X3_keepIfBetter_31 x2 mem Q' := by
  unfold B_X3_keepIfBetter_31
  repeat' first
    | with_reducible exact id
    | with_reducible exact hq _
    | with_reducible refine LOOP_imp fun _ _ => ?_
    | with_reducible refine And.imp ?_ ?_
    | with_reducible refine all_imp fun _ => ?_
theorem mo_B_X3_keepIfBetter_16 {x1 : Int32} {mem : MMt} {Q Q' : MMt → Prop} (hq : ∀ r0, Q r0 → Q' r0) : B_X3_keepIfBetter_16 x1 mem Q → B_X3_keepIfBetter_16 x1 mem Q' := by
  unfold B_X3_keepIfBetter_16
  repeat' first
    | with_reducible exact id
    | with_reducible exact hq _
    | with_reducible refine mo_L_J7_fill_53178  fun _ => ?_
    | with_reducible refine mo_B_X3_keepIfBetter_31  fun _ => ?_
    | with_reducible refine And.imp ?_ ?_
    | with_reducible refine all_imp fun _ => ?_
theorem mo_L_X3_keepIfBetter {a1 : Int32} {mem : MMt} {Q Q' : MMt → Prop} (hq : ∀ r0, Q r0 → Q' r0) : L_X3_keepIfBetter a1 mem Q → L_X3_keepIfBetter a1 mem Q' := by
  unfold L_X3_keepIfBetter
  repeat' first
    | with_reducible exact id
    | with_reducible exact hq _
    | with_reducible refine mo_B_X3_keepIfBetter_16  fun _ => ?_
    | with_reducible refine And.imp ?_ ?_
    | with_reducible refine all_imp fun _ => ?_
theorem mo_L_J9_abs_0f7a4 {a1 : Int32} {mem : MMt} {Q Q' : Int32 → MMt → Prop} (hq : ∀ r0 r1, Q r0 r1 → Q' r0 r1) : L_J9_abs_0f7a4 a1 mem Q → L_J9_abs_0f7a4 a1 mem Q' := by
  unfold L_J9_abs_0f7a4
  repeat' first
    | with_reducible exact id
    | with_reducible exact hq _ _
    | with_reducible refine And.imp ?_ ?_
    | with_reducible refine all_imp fun _ => ?_
theorem mo_L_J6_bitCount_0f7a4 {a1 : Int32} {mem : MMt} {Q Q' : Int32 → MMt → Prop} (hq : ∀ r0 r1, Q r0 r1 → Q' r0 r1) : L_J6_bitCount_0f7a4 a1 mem Q → L_J6_bitCount_0f7a4 a1 mem Q' := by
  unfold L_J6_bitCount_0f7a4
  repeat' first
    | with_reducible exact id
    | with_reducible exact hq _ _
    | with_reducible refine And.imp ?_ ?_
    | with_reducible refine all_imp fun _ => ?_
theorem mo_B_X3_pairFrom_17 {R_X3_pairFrom : Int32 → Int32 → Int32 → MMt → (MMt → Prop) → Prop} {x1 : Int32} {x2 : Int32} {x3 : Int32} {x4 : Int32} {mem : MMt} {Q Q' : MMt → Prop} (hR_X3_pairFrom : ∀ (v0 : Int32) (v1 : Int32) (v2 : Int32) (m : MMt) (Q Q' : MMt → Prop), (∀ r0, Q r0 → Q' r0) → R_X3_pairFrom v0 v1 v2 m Q → R_X3_pairFrom v0 v1 v2 m Q') (hq : ∀ r0, Q r0 → Q' r0) : B_X3_pairFrom_17 R_X3_pairFrom x1 x2 x3 x4 mem Q → B_X3_pairFrom_17 R_X3_pairFrom x1 x2 x3 x4 mem Q' := by
  unfold B_X3_pairFrom_17
  repeat' first
    | with_reducible exact id
    | with_reducible exact hq _
    | with_reducible refine hR_X3_pairFrom _ _ _ _ _ _ fun _ => ?_
    | with_reducible refine mo_L_J6_bitCount_0f7a4  fun _ _ => ?_
    | with_reducible refine mo_L_J9_abs_0f7a4  fun _ _ => ?_
    | with_reducible refine LOOP_imp fun _ _ => ?_
    | with_reducible refine And.imp ?_ ?_
    | with_reducible refine all_imp fun _ => ?_
theorem mo_L_X3_pairFrom {R_X3_pairFrom : Int32 → Int32 → Int32 → MMt → (MMt → Prop) → Prop} {a1 : Int32} {a2 : Int32} {a3 : Int32} {mem : MMt} {Q Q' : MMt → Prop} (hR_X3_pairFrom : ∀ (v0 : Int32) (v1 : Int32) (v2 : Int32) (m : MMt) (Q Q' : MMt → Prop), (∀ r0, Q r0 → Q' r0) → R_X3_pairFrom v0 v1 v2 m Q → R_X3_pairFrom v0 v1 v2 m Q') (hq : ∀ r0, Q r0 → Q' r0) : L_X3_pairFrom R_X3_pairFrom a1 a2 a3 mem Q → L_X3_pairFrom R_X3_pairFrom a1 a2 a3 mem Q' := by
  unfold L_X3_pairFrom
  repeat' first
    | with_reducible exact id
    | with_reducible exact hq _
    | with_reducible refine hR_X3_pairFrom _ _ _ _ _ _ fun _ => ?_
    | with_reducible refine mo_B_X3_pairFrom_17 hR_X3_pairFrom fun _ => ?_
    | with_reducible refine mo_L_X3_keepIfBetter  fun _ => ?_
    | with_reducible refine And.imp ?_ ?_
    | with_reducible refine all_imp fun _ => ?_
theorem mo_WW_X3_pairFrom : ∀ n : Nat, (∀ (a1 : Int32) (a2 : Int32) (a3 : Int32) (m : MMt) (Q Q' : MMt → Prop), (∀ r0, Q r0 → Q' r0) → (WW_X3_pairFrom n) a1 a2 a3 m Q → (WW_X3_pairFrom n) a1 a2 a3 m Q')
  | 0 => fun _ _ _ _ _ _ _ h => h.elim
  | n + 1 => fun _ _ _ _ _ _ hq h => mo_L_X3_pairFrom (mo_WW_X3_pairFrom n) hq h
theorem mo_W_X3_pairFrom {n : Nat} {a1 : Int32} {a2 : Int32} {a3 : Int32} {mem : MMt} {Q Q' : MMt → Prop} (hq : ∀ r0, Q r0 → Q' r0) : W_X3_pairFrom n a1 a2 a3 mem Q → W_X3_pairFrom n a1 a2 a3 mem Q' := fun h => (mo_WW_X3_pairFrom n) _ _ _ _ _ _ hq h
theorem mo_B_X3_balance_12 {a1 : Nat} {x1 : Nat} {x2 : Int32} {mem : MMt} {Q Q' : MMt → Prop} (hq : ∀ r0, Q r0 → Q' r0) : B_X3_balance_12 a1 x1 x2 mem Q → B_X3_balance_12 a1 x1 x2 mem Q' := by
  unfold B_X3_balance_12
  repeat' first
    | with_reducible exact id
    | with_reducible exact hq _
    | with_reducible refine mo_L_J9_min_7cf53  fun _ _ => ?_
    | with_reducible refine mo_W_X3_pairFrom fun _ => ?_
    | with_reducible refine mo_L_X1_load  fun _ _ => ?_
    | with_reducible refine LOOP_imp fun _ _ => ?_
    | with_reducible refine And.imp ?_ ?_
    | with_reducible refine all_imp fun _ => ?_
theorem mo_L_X3_balance {a1 : Nat} {mem : MMt} {Q Q' : MMt → Prop} (hq : ∀ r0, Q r0 → Q' r0) : L_X3_balance a1 mem Q → L_X3_balance a1 mem Q' := by
  unfold L_X3_balance
  repeat' first
    | with_reducible exact id
    | with_reducible exact hq _
    | with_reducible refine mo_B_X3_balance_12  fun _ => ?_
    | with_reducible refine And.imp ?_ ?_
    | with_reducible refine all_imp fun _ => ?_
theorem mo_L_X9_lifts {a1 : Int32} {mem : MMt} {Q Q' : Int32 → MMt → Prop} (hq : ∀ r0 r1, Q r0 r1 → Q' r0 r1) : L_X9_lifts a1 mem Q → L_X9_lifts a1 mem Q' := by
  unfold L_X9_lifts
  repeat' first
    | with_reducible exact id
    | with_reducible exact hq _ _
    | with_reducible refine mo_L_X9_within  fun _ _ => ?_
    | with_reducible refine mo_L_X3_balance  fun _ => ?_
    | with_reducible refine mo_L_X9_error  fun _ _ => ?_
    | with_reducible refine And.imp ?_ ?_
    | with_reducible refine all_imp fun _ => ?_
theorem mo_L_X9_isSheet {a1 : Int32} {mem : MMt} {Q Q' : Int32 → MMt → Prop} (hq : ∀ r0 r1, Q r0 r1 → Q' r0 r1) : L_X9_isSheet a1 mem Q → L_X9_isSheet a1 mem Q' := by
  unfold L_X9_isSheet
  repeat' first
    | with_reducible exact id
    | with_reducible exact hq _ _
    | with_reducible refine mo_L_X9_within  fun _ _ => ?_
    | with_reducible refine And.imp ?_ ?_
    | with_reducible refine all_imp fun _ => ?_
theorem mo_L_X6_isMissing {q0 : Nat} {mem : MMt} {Q Q' : Int32 → MMt → Prop} (hq : ∀ r0 r1, Q r0 r1 → Q' r0 r1) : L_X6_isMissing q0 mem Q → L_X6_isMissing q0 mem Q' := by
  unfold L_X6_isMissing
  repeat' first
    | with_reducible exact id
    | with_reducible exact hq _ _
    | with_reducible refine And.imp ?_ ?_
    | with_reducible refine all_imp fun _ => ?_
theorem mo_B_X7_goesSo_2 {a1 : Nat} {x1 : Nat} {x2 : Int32} {mem : MMt} {Q Q' : Int32 → MMt → Prop} (hq : ∀ r0 r1, Q r0 r1 → Q' r0 r1) : B_X7_goesSo_2 a1 x1 x2 mem Q → B_X7_goesSo_2 a1 x1 x2 mem Q' := by
  unfold B_X7_goesSo_2
  repeat' first
    | with_reducible exact id
    | with_reducible exact hq _ _
    | with_reducible refine mo_L_X7_goesOn  fun _ _ => ?_
    | with_reducible refine LOOP_imp fun _ _ => ?_
    | with_reducible refine And.imp ?_ ?_
    | with_reducible refine all_imp fun _ => ?_
theorem mo_L_X7_goesSo {a1 : Nat} {mem : MMt} {Q Q' : Int32 → MMt → Prop} (hq : ∀ r0 r1, Q r0 r1 → Q' r0 r1) : L_X7_goesSo a1 mem Q → L_X7_goesSo a1 mem Q' := by
  unfold L_X7_goesSo
  repeat' first
    | with_reducible exact id
    | with_reducible exact hq _ _
    | with_reducible refine mo_B_X7_goesSo_2  fun _ _ => ?_
    | with_reducible refine And.imp ?_ ?_
    | with_reducible refine all_imp fun _ => ?_
theorem mo_L_X7_rollsSo {a1 : Nat} {a2 : Int32} {a3 : Nat} {mem : MMt} {Q Q' : Int32 → MMt → Prop} (hq : ∀ r0 r1, Q r0 r1 → Q' r0 r1) : L_X7_rollsSo a1 a2 a3 mem Q → L_X7_rollsSo a1 a2 a3 mem Q' := by
  unfold L_X7_rollsSo
  repeat' first
    | with_reducible exact id
    | with_reducible exact hq _ _
    | with_reducible refine mo_L_X1_copyFrom  fun _ => ?_
    | with_reducible refine mo_L_X7_goesSo  fun _ _ => ?_
    | with_reducible refine And.imp ?_ ?_
    | with_reducible refine all_imp fun _ => ?_
theorem mo_B_X9_rolled_104 {X58 : Int32 × Int32 × Int32 × MMt → Prop} {x1 : Int32} {x2 : Int32} {x3 : Int32} {x5 : Int32} {x6 : Int32} {s0 : Int32} {mem : MMt} {Q Q' : Int32 → MMt → Prop} (hq : ∀ r0 r1, Q r0 r1 → Q' r0 r1) : B_X9_rolled_104 X58 x1 x2 x3 x5 x6 s0 mem Q → B_X9_rolled_104 X58 x1 x2 x3 x5 x6 s0 mem Q' := by
  unfold B_X9_rolled_104
  repeat' first
    | with_reducible exact id
    | with_reducible exact hq _ _
    | with_reducible refine And.imp ?_ ?_
    | with_reducible refine all_imp fun _ => ?_
theorem mo_B_X9_rolled_58 {x1 : Int32} {x2 : Int32} {x3 : Int32} {x4 : Int32} {x5 : Int32} {x6 : Int32} {mem : MMt} {Q Q' : Int32 → MMt → Prop} (hq : ∀ r0 r1, Q r0 r1 → Q' r0 r1) : B_X9_rolled_58 x1 x2 x3 x4 x5 x6 mem Q → B_X9_rolled_58 x1 x2 x3 x4 x5 x6 mem Q' := by
  unfold B_X9_rolled_58
  repeat' first
    | with_reducible exact id
    | with_reducible exact hq _ _
    | with_reducible refine mo_L_X9_error  fun _ _ => ?_
    | with_reducible refine mo_L_X7_rollsSo  fun _ _ => ?_
    | with_reducible refine mo_B_X9_rolled_104  fun _ _ => ?_
    | with_reducible refine LOOP_imp fun _ _ => ?_
    | with_reducible refine And.imp ?_ ?_
    | with_reducible refine all_imp fun _ => ?_
theorem mo_L_X9_rolled {a1 : Int32} {a2 : Int32} {a3 : Int32} {mem : MMt} {Q Q' : Int32 → MMt → Prop} (hq : ∀ r0 r1, Q r0 r1 → Q' r0 r1) : L_X9_rolled a1 a2 a3 mem Q → L_X9_rolled a1 a2 a3 mem Q' := by
  unfold L_X9_rolled
  repeat' first
    | with_reducible exact id
    | with_reducible exact hq _ _
    | with_reducible refine mo_L_X9_isGood  fun _ _ => ?_
    | with_reducible refine mo_L_X9_error  fun _ _ => ?_
    | with_reducible refine mo_L_X9_isSheet  fun _ _ => ?_
    | with_reducible refine mo_L_X9_within  fun _ _ => ?_
    | with_reducible refine mo_L_X6_isMissing  fun _ _ => ?_
    | with_reducible refine mo_B_X9_rolled_58  fun _ _ => ?_
    | with_reducible refine And.imp ?_ ?_
    | with_reducible refine all_imp fun _ => ?_
theorem mo_L_X7_goesSoAs {a1 : Nat} {a2 : Int32} {a3 : Nat} {mem : MMt} {Q Q' : Int32 → MMt → Prop} (hq : ∀ r0 r1, Q r0 r1 → Q' r0 r1) : L_X7_goesSoAs a1 a2 a3 mem Q → L_X7_goesSoAs a1 a2 a3 mem Q' := by
  unfold L_X7_goesSoAs
  repeat' first
    | with_reducible exact id
    | with_reducible exact hq _ _
    | with_reducible refine mo_L_X1_copyFrom  fun _ => ?_
    | with_reducible refine mo_L_X7_goesSo  fun _ _ => ?_
    | with_reducible refine And.imp ?_ ?_
    | with_reducible refine all_imp fun _ => ?_
theorem mo_B_X9_whose_41 {x1 : Int32} {x2 : Int32} {x3 : Int32} {mem : MMt} {Q Q' : Int32 → MMt → Prop} (hq : ∀ r0 r1, Q r0 r1 → Q' r0 r1) : B_X9_whose_41 x1 x2 x3 mem Q → B_X9_whose_41 x1 x2 x3 mem Q' := by
  unfold B_X9_whose_41
  repeat' first
    | with_reducible exact id
    | with_reducible exact hq _ _
    | with_reducible refine mo_L_X9_error  fun _ _ => ?_
    | with_reducible refine mo_L_X7_goesSoAs  fun _ _ => ?_
    | with_reducible refine LOOP_imp fun _ _ => ?_
    | with_reducible refine And.imp ?_ ?_
    | with_reducible refine all_imp fun _ => ?_
theorem mo_L_X9_whose {a1 : Int32} {a2 : Int32} {mem : MMt} {Q Q' : Int32 → MMt → Prop} (hq : ∀ r0 r1, Q r0 r1 → Q' r0 r1) : L_X9_whose a1 a2 mem Q → L_X9_whose a1 a2 mem Q' := by
  unfold L_X9_whose
  repeat' first
    | with_reducible exact id
    | with_reducible exact hq _ _
    | with_reducible refine mo_L_X9_isGood  fun _ _ => ?_
    | with_reducible refine mo_L_X9_error  fun _ _ => ?_
    | with_reducible refine mo_L_X9_isSheet  fun _ _ => ?_
    | with_reducible refine mo_L_X6_isMissing  fun _ _ => ?_
    | with_reducible refine mo_B_X9_whose_41  fun _ _ => ?_
    | with_reducible refine And.imp ?_ ?_
    | with_reducible refine all_imp fun _ => ?_
theorem mo_B_X7_goThroughQuakes_34 {X5 : Int32 × Int32 × MMt → Prop} {x2 : Int32} {x3 : Int32} {x4 : Int32} {mem : MMt} {Q Q' : MMt → Prop} (hq : ∀ r0, Q r0 → Q' r0) : B_X7_goThroughQuakes_34 X5 x2 x3 x4 mem Q → B_X7_goThroughQuakes_34 X5 x2 x3 x4 mem Q' := by
  unfold B_X7_goThroughQuakes_34
  repeat' first
    | with_reducible exact id
    | with_reducible exact hq _
    | with_reducible refine mo_L_X7_goesOn  fun _ _ => ?_
    | with_reducible refine And.imp ?_ ?_
    | with_reducible refine all_imp fun _ => ?_
theorem mo_B_X7_goThroughQuakes_5 {x2 : Int32} {x3 : Int32} {x4 : Int32} {mem : MMt} {Q Q' : MMt → Prop} (hq : ∀ r0, Q r0 → Q' r0) : B_X7_goThroughQuakes_5 x2 x3 x4 mem Q → B_X7_goThroughQuakes_5 x2 x3 x4 mem Q' := by
  unfold B_X7_goThroughQuakes_5
  repeat' first
    | with_reducible exact id
    | with_reducible exact hq _
    | with_reducible refine mo_B_X7_goThroughQuakes_34  fun _ => ?_
    | with_reducible refine mo_L_X1_shove  fun _ => ?_
    | with_reducible refine LOOP_imp fun _ _ => ?_
    | with_reducible refine And.imp ?_ ?_
    | with_reducible refine all_imp fun _ => ?_
theorem mo_L_X7_goThroughQuakes {a1 : Int32} {a2 : Int32} {mem : MMt} {Q Q' : MMt → Prop} (hq : ∀ r0, Q r0 → Q' r0) : L_X7_goThroughQuakes a1 a2 mem Q → L_X7_goThroughQuakes a1 a2 mem Q' := by
  unfold L_X7_goThroughQuakes
  repeat' first
    | with_reducible exact id
    | with_reducible exact hq _
    | with_reducible refine mo_B_X7_goThroughQuakes_5  fun _ => ?_
    | with_reducible refine And.imp ?_ ?_
    | with_reducible refine all_imp fun _ => ?_
theorem mo_B_X7_landings_49 {a1 : Nat} {X6 : Int32 × Int32 × MMt → Prop} {x1 : Nat} {x2 : Int32} {x3 : Int32} {x4 : Int32} {x6 : Int32} {s0 : Int32} {s1 : Int32} {mem : MMt} {Q Q' : Int32 → MMt → Prop} (hq : ∀ r0 r1, Q r0 r1 → Q' r0 r1) : B_X7_landings_49 a1 X6 x1 x2 x3 x4 x6 s0 s1 mem Q → B_X7_landings_49 a1 X6 x1 x2 x3 x4 x6 s0 s1 mem Q' := by
  unfold B_X7_landings_49
  repeat' first
    | with_reducible exact id
    | with_reducible exact hq _ _
    | with_reducible refine And.imp ?_ ?_
    | with_reducible refine all_imp fun _ => ?_
theorem mo_B_X7_landings_6 {a1 : Nat} {x1 : Nat} {x2 : Int32} {x3 : Int32} {x4 : Int32} {x5 : Int32} {x6 : Int32} {mem : MMt} {Q Q' : Int32 → MMt → Prop} (hq : ∀ r0 r1, Q r0 r1 → Q' r0 r1) : B_X7_landings_6 a1 x1 x2 x3 x4 x5 x6 mem Q → B_X7_landings_6 a1 x1 x2 x3 x4 x5 x6 mem Q' := by
  unfold B_X7_landings_6
  repeat' first
    | with_reducible exact id
    | with_reducible exact hq _ _
    | with_reducible refine mo_L_X1_copyFrom  fun _ => ?_
    | with_reducible refine mo_L_X7_goThroughQuakes  fun _ => ?_
    | with_reducible refine mo_B_X7_landings_49  fun _ _ => ?_
    | with_reducible refine LOOP_imp fun _ _ => ?_
    | with_reducible refine And.imp ?_ ?_
    | with_reducible refine all_imp fun _ => ?_
theorem mo_L_X7_landings {a1 : Nat} {a2 : Int32} {a3 : Int32} {a4 : Int32} {mem : MMt} {Q Q' : Int32 → MMt → Prop} (hq : ∀ r0 r1, Q r0 r1 → Q' r0 r1) : L_X7_landings a1 a2 a3 a4 mem Q → L_X7_landings a1 a2 a3 a4 mem Q' := by
  unfold L_X7_landings
  repeat' first
    | with_reducible exact id
    | with_reducible exact hq _ _
    | with_reducible refine mo_B_X7_landings_6  fun _ _ => ?_
    | with_reducible refine And.imp ?_ ?_
    | with_reducible refine all_imp fun _ => ?_
theorem mo_B_X9_odds_120 {x4 : Int32} {x5 : Int32} {x6 : Int32} {mem : MMt} {Q Q' : Int32 → MMt → Prop} (hq : ∀ r0 r1, Q r0 r1 → Q' r0 r1) : B_X9_odds_120 x4 x5 x6 mem Q → B_X9_odds_120 x4 x5 x6 mem Q' := by
  unfold B_X9_odds_120
  repeat' first
    | with_reducible exact id
    | with_reducible exact hq _ _
    | with_reducible refine And.imp ?_ ?_
    | with_reducible refine all_imp fun _ => ?_
theorem mo_B_X9_odds_89 {x3 : Int32} {x4 : Int32} {x5 : Int32} {x6 : Int32} {x7 : Int32} {mem : MMt} {Q Q' : Int32 → MMt → Prop} (hq : ∀ r0 r1, Q r0 r1 → Q' r0 r1) : B_X9_odds_89 x3 x4 x5 x6 x7 mem Q → B_X9_odds_89 x3 x4 x5 x6 x7 mem Q' := by
  unfold B_X9_odds_89
  repeat' first
    | with_reducible exact id
    | with_reducible exact hq _ _
    | with_reducible refine mo_B_X9_odds_120  fun _ _ => ?_
    | with_reducible refine LOOP_imp fun _ _ => ?_
    | with_reducible refine And.imp ?_ ?_
    | with_reducible refine all_imp fun _ => ?_
theorem mo_B_X9_odds_46 {x1 : Int32} {x2 : Int32} {x3 : Int32} {x4 : Int32} {x5 : Int32} {x6 : Int32} {mem : MMt} {Q Q' : Int32 → MMt → Prop} (hq : ∀ r0 r1, Q r0 r1 → Q' r0 r1) : B_X9_odds_46 x1 x2 x3 x4 x5 x6 mem Q → B_X9_odds_46 x1 x2 x3 x4 x5 x6 mem Q' := by
  unfold B_X9_odds_46
  repeat' first
    | with_reducible exact id
    | with_reducible exact hq _ _
    | with_reducible refine mo_L_X7_landings  fun _ _ => ?_
    | with_reducible refine mo_B_X9_odds_89  fun _ _ => ?_
    | with_reducible refine LOOP_imp fun _ _ => ?_
    | with_reducible refine And.imp ?_ ?_
    | with_reducible refine all_imp fun _ => ?_
theorem mo_L_X9_odds {a1 : Int32} {a2 : Int32} {a3 : Int32} {a4 : Int32} {mem : MMt} {Q Q' : Int32 → MMt → Prop} (hq : ∀ r0 r1, Q r0 r1 → Q' r0 r1) : L_X9_odds a1 a2 a3 a4 mem Q → L_X9_odds a1 a2 a3 a4 mem Q' := by
  unfold L_X9_odds
  repeat' first
    | with_reducible exact id
    | with_reducible exact hq _ _
    | with_reducible refine mo_L_X9_isGood  fun _ _ => ?_
    | with_reducible refine mo_L_X9_error  fun _ _ => ?_
    | with_reducible refine mo_L_X9_isSide  fun _ _ => ?_
    | with_reducible refine mo_L_X9_within  fun _ _ => ?_
    | with_reducible refine mo_B_X9_odds_46  fun _ _ => ?_
    | with_reducible refine And.imp ?_ ?_
    | with_reducible refine all_imp fun _ => ?_
theorem mo_L_X9_seed {a1 : Int32} {mem : MMt} {Q Q' : Int32 → MMt → Prop} (hq : ∀ r0 r1, Q r0 r1 → Q' r0 r1) : L_X9_seed a1 mem Q → L_X9_seed a1 mem Q' := by
  unfold L_X9_seed
  repeat' first
    | with_reducible exact id
    | with_reducible exact hq _ _
    | with_reducible refine And.imp ?_ ?_
    | with_reducible refine all_imp fun _ => ?_
theorem mo_B_X8_bodyOf_42 {x1 : Int32} {x2 : Int32} {mem : MMt} {Q Q' : Int32 → MMt → Prop} (hq : ∀ r0 r1, Q r0 r1 → Q' r0 r1) : B_X8_bodyOf_42 x1 x2 mem Q → B_X8_bodyOf_42 x1 x2 mem Q' := by
  unfold B_X8_bodyOf_42
  repeat' first
    | with_reducible exact id
    | with_reducible exact hq _ _
    | with_reducible refine And.imp ?_ ?_
    | with_reducible refine all_imp fun _ => ?_
theorem mo_B_X8_bodyOf_4 {x1 : Int32} {x2 : Int32} {x3 : Int32} {mem : MMt} {Q Q' : Int32 → MMt → Prop} (hq : ∀ r0 r1, Q r0 r1 → Q' r0 r1) : B_X8_bodyOf_4 x1 x2 x3 mem Q → B_X8_bodyOf_4 x1 x2 x3 mem Q' := by
  unfold B_X8_bodyOf_4
  repeat' first
    | with_reducible exact id
    | with_reducible exact hq _ _
    | with_reducible refine mo_B_X8_bodyOf_42  fun _ _ => ?_
    | with_reducible refine LOOP_imp fun _ _ => ?_
    | with_reducible refine And.imp ?_ ?_
    | with_reducible refine all_imp fun _ => ?_
theorem mo_L_X8_bodyOf {a1 : Int32} {a2 : Int32} {mem : MMt} {Q Q' : Int32 → MMt → Prop} (hq : ∀ r0 r1, Q r0 r1 → Q' r0 r1) : L_X8_bodyOf a1 a2 mem Q → L_X8_bodyOf a1 a2 mem Q' := by
  unfold L_X8_bodyOf
  repeat' first
    | with_reducible exact id
    | with_reducible exact hq _ _
    | with_reducible refine mo_B_X8_bodyOf_4  fun _ _ => ?_
    | with_reducible refine And.imp ?_ ?_
    | with_reducible refine all_imp fun _ => ?_
theorem mo_L_X8_note {a1 : Int32} {mem : MMt} {Q Q' : MMt → Prop} (hq : ∀ r0, Q r0 → Q' r0) : L_X8_note a1 mem Q → L_X8_note a1 mem Q' := by
  unfold L_X8_note
  repeat' first
    | with_reducible exact id
    | with_reducible exact hq _
    | with_reducible refine And.imp ?_ ?_
    | with_reducible refine all_imp fun _ => ?_
theorem mo_L_X8_own {R_X8_own : Int32 → Int32 → Int32 → MMt → (Int32 → MMt → Prop) → Prop} {R_X8_from : Int32 → Int32 → Int32 → Int32 → MMt → (Int32 → MMt → Prop) → Prop} {a1 : Int32} {a2 : Int32} {a3 : Int32} {mem : MMt} {Q Q' : Int32 → MMt → Prop} (hR_X8_own : ∀ (v0 : Int32) (v1 : Int32) (v2 : Int32) (m : MMt) (Q Q' : Int32 → MMt → Prop), (∀ r0 r1, Q r0 r1 → Q' r0 r1) → R_X8_own v0 v1 v2 m Q → R_X8_own v0 v1 v2 m Q') (hR_X8_from : ∀ (v0 : Int32) (v1 : Int32) (v2 : Int32) (v3 : Int32) (m : MMt) (Q Q' : Int32 → MMt → Prop), (∀ r0 r1, Q r0 r1 → Q' r0 r1) → R_X8_from v0 v1 v2 v3 m Q → R_X8_from v0 v1 v2 v3 m Q') (hq : ∀ r0 r1, Q r0 r1 → Q' r0 r1) : L_X8_own R_X8_own R_X8_from a1 a2 a3 mem Q → L_X8_own R_X8_own R_X8_from a1 a2 a3 mem Q' := by
  unfold L_X8_own
  repeat' first
    | with_reducible exact id
    | with_reducible exact hq _ _
    | with_reducible refine hR_X8_own _ _ _ _ _ _ fun _ _ => ?_
    | with_reducible refine hR_X8_from _ _ _ _ _ _ _ fun _ _ => ?_
    | with_reducible refine And.imp ?_ ?_
    | with_reducible refine all_imp fun _ => ?_
theorem mo_L_X8_from {R_X8_own : Int32 → Int32 → Int32 → MMt → (Int32 → MMt → Prop) → Prop} {R_X8_from : Int32 → Int32 → Int32 → Int32 → MMt → (Int32 → MMt → Prop) → Prop} {a1 : Int32} {a2 : Int32} {a3 : Int32} {a4 : Int32} {mem : MMt} {Q Q' : Int32 → MMt → Prop} (hR_X8_own : ∀ (v0 : Int32) (v1 : Int32) (v2 : Int32) (m : MMt) (Q Q' : Int32 → MMt → Prop), (∀ r0 r1, Q r0 r1 → Q' r0 r1) → R_X8_own v0 v1 v2 m Q → R_X8_own v0 v1 v2 m Q') (hR_X8_from : ∀ (v0 : Int32) (v1 : Int32) (v2 : Int32) (v3 : Int32) (m : MMt) (Q Q' : Int32 → MMt → Prop), (∀ r0 r1, Q r0 r1 → Q' r0 r1) → R_X8_from v0 v1 v2 v3 m Q → R_X8_from v0 v1 v2 v3 m Q') (hq : ∀ r0 r1, Q r0 r1 → Q' r0 r1) : L_X8_from R_X8_own R_X8_from a1 a2 a3 a4 mem Q → L_X8_from R_X8_own R_X8_from a1 a2 a3 a4 mem Q' := by
  unfold L_X8_from
  repeat' first
    | with_reducible exact id
    | with_reducible exact hq _ _
    | with_reducible refine hR_X8_own _ _ _ _ _ _ fun _ _ => ?_
    | with_reducible refine hR_X8_from _ _ _ _ _ _ _ fun _ _ => ?_
    | with_reducible refine mo_L_X8_bodyOf  fun _ _ => ?_
    | with_reducible refine mo_L_X8_note  fun _ => ?_
    | with_reducible refine And.imp ?_ ?_
    | with_reducible refine all_imp fun _ => ?_
theorem mo_WW_X8_own : ∀ n : Nat, (∀ (a1 : Int32) (a2 : Int32) (a3 : Int32) (m : MMt) (Q Q' : Int32 → MMt → Prop), (∀ r0 r1, Q r0 r1 → Q' r0 r1) → (WW_X8_own n).1 a1 a2 a3 m Q → (WW_X8_own n).1 a1 a2 a3 m Q') ∧ (∀ (a1 : Int32) (a2 : Int32) (a3 : Int32) (a4 : Int32) (m : MMt) (Q Q' : Int32 → MMt → Prop), (∀ r0 r1, Q r0 r1 → Q' r0 r1) → (WW_X8_own n).2 a1 a2 a3 a4 m Q → (WW_X8_own n).2 a1 a2 a3 a4 m Q')
  | 0 => ⟨fun _ _ _ _ _ _ _ h => h.elim, fun _ _ _ _ _ _ _ _ h => h.elim⟩
  | n + 1 => ⟨fun _ _ _ _ _ _ hq h => mo_L_X8_own (mo_WW_X8_own n).1 (mo_WW_X8_own n).2 hq h, fun _ _ _ _ _ _ _ hq h => mo_L_X8_from (mo_WW_X8_own n).1 (mo_WW_X8_own n).2 hq h⟩
theorem mo_W_X8_own {n : Nat} {a1 : Int32} {a2 : Int32} {a3 : Int32} {mem : MMt} {Q Q' : Int32 → MMt → Prop} (hq : ∀ r0 r1, Q r0 r1 → Q' r0 r1) : W_X8_own n a1 a2 a3 mem Q → W_X8_own n a1 a2 a3 mem Q' := fun h => (mo_WW_X8_own n).1 _ _ _ _ _ _ hq h
theorem mo_W_X8_from {n : Nat} {a1 : Int32} {a2 : Int32} {a3 : Int32} {a4 : Int32} {mem : MMt} {Q Q' : Int32 → MMt → Prop} (hq : ∀ r0 r1, Q r0 r1 → Q' r0 r1) : W_X8_from n a1 a2 a3 a4 mem Q → W_X8_from n a1 a2 a3 a4 mem Q' := fun h => (mo_WW_X8_own n).2 _ _ _ _ _ _ _ hq h
theorem mo_L_X8_speak {a1 : Nat} {a2 : Int32} {a3 : Int32} {a4 : Int32} {mem : MMt} {Q Q' : Int32 → MMt → Prop} (hq : ∀ r0 r1, Q r0 r1 → Q' r0 r1) : L_X8_speak a1 a2 a3 a4 mem Q → L_X8_speak a1 a2 a3 a4 mem Q' := by
  unfold L_X8_speak
  repeat' first
    | with_reducible exact id
    | with_reducible exact hq _ _
    | with_reducible refine mo_W_X8_own fun _ _ => ?_
    | with_reducible refine And.imp ?_ ?_
    | with_reducible refine all_imp fun _ => ?_
theorem mo_L_X9_voice {a1 : Int32} {a2 : Int32} {a3 : Int32} {mem : MMt} {Q Q' : Int32 → MMt → Prop} (hq : ∀ r0 r1, Q r0 r1 → Q' r0 r1) : L_X9_voice a1 a2 a3 mem Q → L_X9_voice a1 a2 a3 mem Q' := by
  unfold L_X9_voice
  repeat' first
    | with_reducible exact id
    | with_reducible exact hq _ _
    | with_reducible refine mo_L_X9_isGood  fun _ _ => ?_
    | with_reducible refine mo_L_X9_error  fun _ _ => ?_
    | with_reducible refine mo_L_X9_within  fun _ _ => ?_
    | with_reducible refine mo_L_X8_speak  fun _ _ => ?_
    | with_reducible refine And.imp ?_ ?_
    | with_reducible refine all_imp fun _ => ?_
theorem mo_L_X9_trace {a1 : Int32} {mem : MMt} {Q Q' : Int32 → MMt → Prop} (hq : ∀ r0 r1, Q r0 r1 → Q' r0 r1) : L_X9_trace a1 mem Q → L_X9_trace a1 mem Q' := by
  unfold L_X9_trace
  repeat' first
    | with_reducible exact id
    | with_reducible exact hq _ _
    | with_reducible refine mo_L_X9_within  fun _ _ => ?_
    | with_reducible refine mo_L_X9_error  fun _ _ => ?_
    | with_reducible refine And.imp ?_ ?_
    | with_reducible refine all_imp fun _ => ?_
theorem mo_L_X6_clear {q0 : Nat} {a1 : Int32} {a2 : Int32} {mem : MMt} {Q Q' : MMt → Prop} (hq : ∀ r0, Q r0 → Q' r0) : L_X6_clear q0 a1 a2 mem Q → L_X6_clear q0 a1 a2 mem Q' := by
  unfold L_X6_clear
  repeat' first
    | with_reducible exact id
    | with_reducible exact hq _
    | with_reducible refine mo_L_J7_fill_53178  fun _ => ?_
    | with_reducible refine And.imp ?_ ?_
    | with_reducible refine all_imp fun _ => ?_
theorem mo_B_X9_sheet_65 {x1 : Int32} {x2 : Int32} {x3 : Int32} {mem : MMt} {Q Q' : Int32 → MMt → Prop} (hq : ∀ r0 r1, Q r0 r1 → Q' r0 r1) : B_X9_sheet_65 x1 x2 x3 mem Q → B_X9_sheet_65 x1 x2 x3 mem Q' := by
  unfold B_X9_sheet_65
  repeat' first
    | with_reducible exact id
    | with_reducible exact hq _ _
    | with_reducible refine mo_L_X6_clear  fun _ => ?_
    | with_reducible refine And.imp ?_ ?_
    | with_reducible refine all_imp fun _ => ?_
theorem mo_B_X9_sheet_49 {x1 : Int32} {x2 : Int32} {x3 : Int32} {mem : MMt} {Q Q' : Int32 → MMt → Prop} (hq : ∀ r0 r1, Q r0 r1 → Q' r0 r1) : B_X9_sheet_49 x1 x2 x3 mem Q → B_X9_sheet_49 x1 x2 x3 mem Q' := by
  unfold B_X9_sheet_49
  repeat' first
    | with_reducible exact id
    | with_reducible exact hq _ _
    | with_reducible refine mo_B_X9_sheet_65  fun _ _ => ?_
    | with_reducible refine mo_L_X9_error  fun _ _ => ?_
    | with_reducible refine And.imp ?_ ?_
    | with_reducible refine all_imp fun _ => ?_
theorem mo_B_X9_sheet_35 {x1 : Int32} {x2 : Int32} {x3 : Int32} {mem : MMt} {Q Q' : Int32 → MMt → Prop} (hq : ∀ r0 r1, Q r0 r1 → Q' r0 r1) : B_X9_sheet_35 x1 x2 x3 mem Q → B_X9_sheet_35 x1 x2 x3 mem Q' := by
  unfold B_X9_sheet_35
  repeat' first
    | with_reducible exact id
    | with_reducible exact hq _ _
    | with_reducible refine mo_B_X9_sheet_49  fun _ _ => ?_
    | with_reducible refine mo_L_X9_error  fun _ _ => ?_
    | with_reducible refine And.imp ?_ ?_
    | with_reducible refine all_imp fun _ => ?_
theorem mo_L_X9_sheet {a1 : Int32} {a2 : Int32} {a3 : Int32} {mem : MMt} {Q Q' : Int32 → MMt → Prop} (hq : ∀ r0 r1, Q r0 r1 → Q' r0 r1) : L_X9_sheet a1 a2 a3 mem Q → L_X9_sheet a1 a2 a3 mem Q' := by
  unfold L_X9_sheet
  repeat' first
    | with_reducible exact id
    | with_reducible exact hq _ _
    | with_reducible refine mo_L_X9_isSheet  fun _ _ => ?_
    | with_reducible refine mo_L_X9_error  fun _ _ => ?_
    | with_reducible refine mo_B_X9_sheet_35  fun _ _ => ?_
    | with_reducible refine And.imp ?_ ?_
    | with_reducible refine all_imp fun _ => ?_
theorem mo_L_X6_lowestBits {q0 : Nat} {a1 : Int32} {mem : MMt} {Q Q' : Int32 → MMt → Prop} (hq : ∀ r0 r1, Q r0 r1 → Q' r0 r1) : L_X6_lowestBits q0 a1 mem Q → L_X6_lowestBits q0 a1 mem Q' := by
  unfold L_X6_lowestBits
  repeat' first
    | with_reducible exact id
    | with_reducible exact hq _ _
    | with_reducible refine And.imp ?_ ?_
    | with_reducible refine all_imp fun _ => ?_
theorem mo_L_X9_put {a1 : Int32} {a2 : Int32} {a3 : Int32} {mem : MMt} {Q Q' : Int32 → MMt → Prop} (hq : ∀ r0 r1, Q r0 r1 → Q' r0 r1) : L_X9_put a1 a2 a3 mem Q → L_X9_put a1 a2 a3 mem Q' := by
  unfold L_X9_put
  repeat' first
    | with_reducible exact id
    | with_reducible exact hq _ _
    | with_reducible refine mo_L_X9_isSheet  fun _ _ => ?_
    | with_reducible refine mo_L_X6_isMissing  fun _ _ => ?_
    | with_reducible refine mo_L_X9_within  fun _ _ => ?_
    | with_reducible refine mo_L_X6_lowestBits  fun _ _ => ?_
    | with_reducible refine mo_L_X9_error  fun _ _ => ?_
    | with_reducible refine And.imp ?_ ?_
    | with_reducible refine all_imp fun _ => ?_
theorem mo_L_X6_hasFrom {q0 : Nat} {a1 : Int32} {a2 : Int32} {mem : MMt} {Q Q' : Int32 → MMt → Prop} (hq : ∀ r0 r1, Q r0 r1 → Q' r0 r1) : L_X6_hasFrom q0 a1 a2 mem Q → L_X6_hasFrom q0 a1 a2 mem Q' := by
  unfold L_X6_hasFrom
  repeat' first
    | with_reducible exact id
    | with_reducible exact hq _ _
    | with_reducible refine And.imp ?_ ?_
    | with_reducible refine all_imp fun _ => ?_
theorem mo_L_X9_move {a1 : Int32} {a2 : Int32} {a3 : Int32} {a4 : Int32} {a5 : Int32} {mem : MMt} {Q Q' : Int32 → MMt → Prop} (hq : ∀ r0 r1, Q r0 r1 → Q' r0 r1) : L_X9_move a1 a2 a3 a4 a5 mem Q → L_X9_move a1 a2 a3 a4 a5 mem Q' := by
  unfold L_X9_move
  repeat' first
    | with_reducible exact id
    | with_reducible exact hq _ _
    | with_reducible refine mo_L_X9_isSheet  fun _ _ => ?_
    | with_reducible refine mo_L_X9_error  fun _ _ => ?_
    | with_reducible refine mo_L_X6_isMissing  fun _ _ => ?_
    | with_reducible refine mo_L_X6_hasFrom  fun _ _ => ?_
    | with_reducible refine And.imp ?_ ?_
    | with_reducible refine all_imp fun _ => ?_
theorem mo_B_X9_pushes_51 {x2 : Nat} {x3 : Int32} {x4 : Int32} {mem : MMt} {Q Q' : Int32 → MMt → Prop} (hq : ∀ r0 r1, Q r0 r1 → Q' r0 r1) : B_X9_pushes_51 x2 x3 x4 mem Q → B_X9_pushes_51 x2 x3 x4 mem Q' := by
  unfold B_X9_pushes_51
  repeat' first
    | with_reducible exact id
    | with_reducible exact hq _ _
    | with_reducible refine mo_L_X9_isPush  fun _ _ => ?_
    | with_reducible refine mo_L_X1_shove  fun _ => ?_
    | with_reducible refine LOOP_imp fun _ _ => ?_
    | with_reducible refine And.imp ?_ ?_
    | with_reducible refine all_imp fun _ => ?_
theorem mo_L_X9_pushes {a1 : Int32} {mem : MMt} {Q Q' : Int32 → MMt → Prop} (hq : ∀ r0 r1, Q r0 r1 → Q' r0 r1) : L_X9_pushes a1 mem Q → L_X9_pushes a1 mem Q' := by
  unfold L_X9_pushes
  repeat' first
    | with_reducible exact id
    | with_reducible exact hq _ _
    | with_reducible refine mo_L_X9_isSheet  fun _ _ => ?_
    | with_reducible refine mo_L_X6_isMissing  fun _ _ => ?_
    | with_reducible refine mo_L_J9_min_7cf53  fun _ _ => ?_
    | with_reducible refine mo_B_X9_pushes_51  fun _ _ => ?_
    | with_reducible refine mo_L_X9_error  fun _ _ => ?_
    | with_reducible refine And.imp ?_ ?_
    | with_reducible refine all_imp fun _ => ?_
theorem mo_B_X9_judge_51 {x2 : Nat} {x3 : Int32} {x4 : Int32} {mem : MMt} {Q Q' : Int32 → MMt → Prop} (hq : ∀ r0 r1, Q r0 r1 → Q' r0 r1) : B_X9_judge_51 x2 x3 x4 mem Q → B_X9_judge_51 x2 x3 x4 mem Q' := by
  unfold B_X9_judge_51
  repeat' first
    | with_reducible exact id
    | with_reducible exact hq _ _
    | with_reducible refine LOOP_imp fun _ _ => ?_
    | with_reducible refine And.imp ?_ ?_
    | with_reducible refine all_imp fun _ => ?_
theorem mo_L_X9_judge {a1 : Int32} {mem : MMt} {Q Q' : Int32 → MMt → Prop} (hq : ∀ r0 r1, Q r0 r1 → Q' r0 r1) : L_X9_judge a1 mem Q → L_X9_judge a1 mem Q' := by
  unfold L_X9_judge
  repeat' first
    | with_reducible exact id
    | with_reducible exact hq _ _
    | with_reducible refine mo_L_X9_isSheet  fun _ _ => ?_
    | with_reducible refine mo_L_X6_isMissing  fun _ _ => ?_
    | with_reducible refine mo_L_J9_min_7cf53  fun _ _ => ?_
    | with_reducible refine mo_B_X9_judge_51  fun _ _ => ?_
    | with_reducible refine mo_L_X9_error  fun _ _ => ?_
    | with_reducible refine And.imp ?_ ?_
    | with_reducible refine all_imp fun _ => ?_
theorem mo_L_X5_copyFrom {q0 : Nat} {a1 : Nat} {mem : MMt} {Q Q' : MMt → Prop} (hq : ∀ r0, Q r0 → Q' r0) : L_X5_copyFrom q0 a1 mem Q → L_X5_copyFrom q0 a1 mem Q' := by
  unfold L_X5_copyFrom
  repeat' first
    | with_reducible exact id
    | with_reducible exact hq _
    | with_reducible refine mo_L_X2_hold  fun _ => ?_
    | with_reducible refine mo_L_X5_forgetPulls  fun _ => ?_
    | with_reducible refine And.imp ?_ ?_
    | with_reducible refine all_imp fun _ => ?_
theorem mo_L_X9_image {mem : MMt} {Q Q' : Int32 → MMt → Prop} (hq : ∀ r0 r1, Q r0 r1 → Q' r0 r1) : L_X9_image mem Q → L_X9_image mem Q' := by
  unfold L_X9_image
  repeat' first
    | with_reducible exact id
    | with_reducible exact hq _ _
    | with_reducible refine mo_L_X0_copyFrom  fun _ => ?_
    | with_reducible refine mo_L_X5_copyFrom  fun _ => ?_
    | with_reducible refine And.imp ?_ ?_
    | with_reducible refine all_imp fun _ => ?_
theorem mo_L_X9_restore {mem : MMt} {Q Q' : Int32 → MMt → Prop} (hq : ∀ r0 r1, Q r0 r1 → Q' r0 r1) : L_X9_restore mem Q → L_X9_restore mem Q' := by
  unfold L_X9_restore
  repeat' first
    | with_reducible exact id
    | with_reducible exact hq _ _
    | with_reducible refine mo_L_X0_copyFrom  fun _ => ?_
    | with_reducible refine mo_L_X5_copyFrom  fun _ => ?_
    | with_reducible refine mo_L_X9_error  fun _ _ => ?_
    | with_reducible refine And.imp ?_ ?_
    | with_reducible refine all_imp fun _ => ?_
theorem mo_L_X9_tell {a1 : Int32} {mem : MMt} {Q Q' : Int32 → MMt → Prop} (hq : ∀ r0 r1, Q r0 r1 → Q' r0 r1) : L_X9_tell a1 mem Q → L_X9_tell a1 mem Q' := by
  unfold L_X9_tell
  repeat' first
    | with_reducible exact id
    | with_reducible exact hq _ _
    | with_reducible refine mo_L_X9_error  fun _ _ => ?_
    | with_reducible refine And.imp ?_ ?_
    | with_reducible refine all_imp fun _ => ?_
theorem mo_B_X0_floorsTogether_4 {q0 : Nat} {x0 : Nat} {x1 : Int32} {x2 : Int32} {mem : MMt} {Q Q' : Int32 → MMt → Prop} (hq : ∀ r0 r1, Q r0 r1 → Q' r0 r1) : B_X0_floorsTogether_4 q0 x0 x1 x2 mem Q → B_X0_floorsTogether_4 q0 x0 x1 x2 mem Q' := by
  unfold B_X0_floorsTogether_4
  repeat' first
    | with_reducible exact id
    | with_reducible exact hq _ _
    | with_reducible refine LOOP_imp fun _ _ => ?_
    | with_reducible refine And.imp ?_ ?_
    | with_reducible refine all_imp fun _ => ?_
theorem mo_L_X0_floorsTogether {q0 : Nat} {mem : MMt} {Q Q' : Int32 → MMt → Prop} (hq : ∀ r0 r1, Q r0 r1 → Q' r0 r1) : L_X0_floorsTogether q0 mem Q → L_X0_floorsTogether q0 mem Q' := by
  unfold L_X0_floorsTogether
  repeat' first
    | with_reducible exact id
    | with_reducible exact hq _ _
    | with_reducible refine mo_B_X0_floorsTogether_4  fun _ _ => ?_
    | with_reducible refine And.imp ?_ ?_
    | with_reducible refine all_imp fun _ => ?_
theorem mo_B_X9_check_29 {x1 : Int32} {x2 : Int32} {mem : MMt} {Q Q' : Int32 → MMt → Prop} (hq : ∀ r0 r1, Q r0 r1 → Q' r0 r1) : B_X9_check_29 x1 x2 mem Q → B_X9_check_29 x1 x2 mem Q' := by
  unfold B_X9_check_29
  repeat' first
    | with_reducible exact id
    | with_reducible exact hq _ _
    | with_reducible refine mo_L_X0_goOn  fun _ => ?_
    | with_reducible refine mo_L_X0_floorsTogether  fun _ _ => ?_
    | with_reducible refine LOOP_imp fun _ _ => ?_
    | with_reducible refine And.imp ?_ ?_
    | with_reducible refine all_imp fun _ => ?_
theorem mo_L_X9_check {mem : MMt} {Q Q' : Int32 → MMt → Prop} (hq : ∀ r0 r1, Q r0 r1 → Q' r0 r1) : L_X9_check mem Q → L_X9_check mem Q' := by
  unfold L_X9_check
  repeat' first
    | with_reducible exact id
    | with_reducible exact hq _ _
    | with_reducible refine mo_L_X0_copyFrom  fun _ => ?_
    | with_reducible refine mo_B_X9_check_29  fun _ _ => ?_
    | with_reducible refine And.imp ?_ ?_
    | with_reducible refine all_imp fun _ => ?_
theorem mo_B_X0_howManyWithin_38 {q0 : Nat} {X5 : Int32 × Int32 × MMt → Prop} {x0 : Nat} {x1 : Int32} {x2 : Int32} {x4 : Int32} {s0 : Int32} {s1 : Int32} {mem : MMt} {Q Q' : Int32 → MMt → Prop} (hq : ∀ r0 r1, Q r0 r1 → Q' r0 r1) : B_X0_howManyWithin_38 q0 X5 x0 x1 x2 x4 s0 s1 mem Q → B_X0_howManyWithin_38 q0 X5 x0 x1 x2 x4 s0 s1 mem Q' := by
  unfold B_X0_howManyWithin_38
  repeat' first
    | with_reducible exact id
    | with_reducible exact hq _ _
    | with_reducible refine And.imp ?_ ?_
    | with_reducible refine all_imp fun _ => ?_
theorem mo_B_X0_howManyWithin_5 {q0 : Nat} {x0 : Nat} {x1 : Int32} {x2 : Int32} {x3 : Int32} {x4 : Int32} {mem : MMt} {Q Q' : Int32 → MMt → Prop} (hq : ∀ r0 r1, Q r0 r1 → Q' r0 r1) : B_X0_howManyWithin_5 q0 x0 x1 x2 x3 x4 mem Q → B_X0_howManyWithin_5 q0 x0 x1 x2 x3 x4 mem Q' := by
  unfold B_X0_howManyWithin_5
  repeat' first
    | with_reducible exact id
    | with_reducible exact hq _ _
    | with_reducible refine mo_L_X9_within  fun _ _ => ?_
    | with_reducible refine mo_B_X0_howManyWithin_38  fun _ _ => ?_
    | with_reducible refine LOOP_imp fun _ _ => ?_
    | with_reducible refine And.imp ?_ ?_
    | with_reducible refine all_imp fun _ => ?_
theorem mo_L_X0_howManyWithin {q0 : Nat} {a1 : Int32} {a2 : Int32} {mem : MMt} {Q Q' : Int32 → MMt → Prop} (hq : ∀ r0 r1, Q r0 r1 → Q' r0 r1) : L_X0_howManyWithin q0 a1 a2 mem Q → L_X0_howManyWithin q0 a1 a2 mem Q' := by
  unfold L_X0_howManyWithin
  repeat' first
    | with_reducible exact id
    | with_reducible exact hq _ _
    | with_reducible refine mo_B_X0_howManyWithin_5  fun _ _ => ?_
    | with_reducible refine And.imp ?_ ?_
    | with_reducible refine all_imp fun _ => ?_
theorem mo_L_X9_count {a1 : Int32} {mem : MMt} {Q Q' : Int32 → MMt → Prop} (hq : ∀ r0 r1, Q r0 r1 → Q' r0 r1) : L_X9_count a1 mem Q → L_X9_count a1 mem Q' := by
  unfold L_X9_count
  repeat' first
    | with_reducible exact id
    | with_reducible exact hq _ _
    | with_reducible refine mo_L_X9_error  fun _ _ => ?_
    | with_reducible refine mo_L_X0_howManyWithin  fun _ _ => ?_
    | with_reducible refine mo_L_X9_howManyRest  fun _ _ => ?_
    | with_reducible refine And.imp ?_ ?_
    | with_reducible refine all_imp fun _ => ?_
theorem mo_L_X9_told {a1 : Int32} {mem : MMt} {Q Q' : Int32 → MMt → Prop} (hq : ∀ r0 r1, Q r0 r1 → Q' r0 r1) : L_X9_told a1 mem Q → L_X9_told a1 mem Q' := by
  unfold L_X9_told
  repeat' first
    | with_reducible exact id
    | with_reducible exact hq _ _
    | with_reducible refine mo_L_X9_within  fun _ _ => ?_
    | with_reducible refine mo_L_X9_error  fun _ _ => ?_
    | with_reducible refine And.imp ?_ ?_
    | with_reducible refine all_imp fun _ => ?_
theorem mo_L_X10_error {a1 : Int32} {mem : MMt} {Q Q' : Int32 → MMt → Prop} (hq : ∀ r0 r1, Q r0 r1 → Q' r0 r1) : L_X10_error a1 mem Q → L_X10_error a1 mem Q' := by
  unfold L_X10_error
  repeat' first
    | with_reducible exact id
    | with_reducible exact hq _ _
    | with_reducible refine And.imp ?_ ?_
    | with_reducible refine all_imp fun _ => ?_
theorem mo_L_X10_isIn {a1 : Int64} {a2 : Int64} {a3 : Int64} {mem : MMt} {Q Q' : Int32 → MMt → Prop} (hq : ∀ r0 r1, Q r0 r1 → Q' r0 r1) : L_X10_isIn a1 a2 a3 mem Q → L_X10_isIn a1 a2 a3 mem Q' := by
  unfold L_X10_isIn
  repeat' first
    | with_reducible exact id
    | with_reducible exact hq _ _
    | with_reducible refine And.imp ?_ ?_
    | with_reducible refine all_imp fun _ => ?_
theorem mo_L_X10_within {a1 : Int32} {a2 : Int32} {a3 : Int32} {mem : MMt} {Q Q' : Int32 → MMt → Prop} (hq : ∀ r0 r1, Q r0 r1 → Q' r0 r1) : L_X10_within a1 a2 a3 mem Q → L_X10_within a1 a2 a3 mem Q' := by
  unfold L_X10_within
  repeat' first
    | with_reducible exact id
    | with_reducible exact hq _ _
    | with_reducible refine And.imp ?_ ?_
    | with_reducible refine all_imp fun _ => ?_
theorem mo_L_X10_size {a1 : Int32} {mem : MMt} {Q Q' : Int32 → MMt → Prop} (hq : ∀ r0 r1, Q r0 r1 → Q' r0 r1) : L_X10_size a1 mem Q → L_X10_size a1 mem Q' := by
  unfold L_X10_size
  repeat' first
    | with_reducible exact id
    | with_reducible exact hq _ _
    | with_reducible refine And.imp ?_ ?_
    | with_reducible refine all_imp fun _ => ?_
theorem mo_L_X10_isGood {a1 : Int32} {mem : MMt} {Q Q' : Int32 → MMt → Prop} (hq : ∀ r0 r1, Q r0 r1 → Q' r0 r1) : L_X10_isGood a1 mem Q → L_X10_isGood a1 mem Q' := by
  unfold L_X10_isGood
  repeat' first
    | with_reducible exact id
    | with_reducible exact hq _ _
    | with_reducible refine mo_L_X10_isIn  fun _ _ => ?_
    | with_reducible refine And.imp ?_ ?_
    | with_reducible refine all_imp fun _ => ?_
theorem mo_L_X10_isSide {a1 : Int32} {mem : MMt} {Q Q' : Int32 → MMt → Prop} (hq : ∀ r0 r1, Q r0 r1 → Q' r0 r1) : L_X10_isSide a1 mem Q → L_X10_isSide a1 mem Q' := by
  unfold L_X10_isSide
  repeat' first
    | with_reducible exact id
    | with_reducible exact hq _ _
    | with_reducible refine mo_L_X10_isIn  fun _ _ => ?_
    | with_reducible refine And.imp ?_ ?_
    | with_reducible refine all_imp fun _ => ?_
theorem mo_L_X10_isPush {a1 : Int32} {mem : MMt} {Q Q' : Int32 → MMt → Prop} (hq : ∀ r0 r1, Q r0 r1 → Q' r0 r1) : L_X10_isPush a1 mem Q → L_X10_isPush a1 mem Q' := by
  unfold L_X10_isPush
  repeat' first
    | with_reducible exact id
    | with_reducible exact hq _ _
    | with_reducible refine mo_L_X10_isIn  fun _ _ => ?_
    | with_reducible refine And.imp ?_ ?_
    | with_reducible refine all_imp fun _ => ?_
theorem mo_L_X10_of {a1 : Int32} {a2 : Int32} {mem : MMt} {Q Q' : Int32 → MMt → Prop} (hq : ∀ r0 r1, Q r0 r1 → Q' r0 r1) : L_X10_of a1 a2 mem Q → L_X10_of a1 a2 mem Q' := by
  unfold L_X10_of
  repeat' first
    | with_reducible exact id
    | with_reducible exact hq _ _
    | with_reducible refine And.imp ?_ ?_
    | with_reducible refine all_imp fun _ => ?_
theorem mo_L_X10_sets {a1 : Int32} {a2 : Int32} {a3 : Int32} {mem : MMt} {Q Q' : MMt → Prop} (hq : ∀ r0, Q r0 → Q' r0) : L_X10_sets a1 a2 a3 mem Q → L_X10_sets a1 a2 a3 mem Q' := by
  unfold L_X10_sets
  repeat' first
    | with_reducible exact id
    | with_reducible exact hq _
    | with_reducible refine And.imp ?_ ?_
    | with_reducible refine all_imp fun _ => ?_
theorem mo_B_X10_isUnder_30 {x0 : Int32} {x1 : Int32} {mem : MMt} {Q Q' : Int32 → MMt → Prop} (hq : ∀ r0 r1, Q r0 r1 → Q' r0 r1) : B_X10_isUnder_30 x0 x1 mem Q → B_X10_isUnder_30 x0 x1 mem Q' := by
  unfold B_X10_isUnder_30
  repeat' first
    | with_reducible exact id
    | with_reducible exact hq _ _
    | with_reducible refine And.imp ?_ ?_
    | with_reducible refine all_imp fun _ => ?_
theorem mo_B_X10_isUnder_20 {x0 : Int32} {x1 : Int32} {mem : MMt} {Q Q' : Int32 → MMt → Prop} (hq : ∀ r0 r1, Q r0 r1 → Q' r0 r1) : B_X10_isUnder_20 x0 x1 mem Q → B_X10_isUnder_20 x0 x1 mem Q' := by
  unfold B_X10_isUnder_20
  repeat' first
    | with_reducible exact id
    | with_reducible exact hq _ _
    | with_reducible refine mo_B_X10_isUnder_30  fun _ _ => ?_
    | with_reducible refine And.imp ?_ ?_
    | with_reducible refine all_imp fun _ => ?_
theorem mo_L_X10_isUnder {a1 : Int32} {a2 : Int32} {mem : MMt} {Q Q' : Int32 → MMt → Prop} (hq : ∀ r0 r1, Q r0 r1 → Q' r0 r1) : L_X10_isUnder a1 a2 mem Q → L_X10_isUnder a1 a2 mem Q' := by
  unfold L_X10_isUnder
  repeat' first
    | with_reducible exact id
    | with_reducible exact hq _ _
    | with_reducible refine mo_B_X10_isUnder_20  fun _ _ => ?_
    | with_reducible refine And.imp ?_ ?_
    | with_reducible refine all_imp fun _ => ?_
theorem mo_L_X10_load {a1 : Int32} {a2 : Int32} {mem : MMt} {Q Q' : Int32 → MMt → Prop} (hq : ∀ r0 r1, Q r0 r1 → Q' r0 r1) : L_X10_load a1 a2 mem Q → L_X10_load a1 a2 mem Q' := by
  unfold L_X10_load
  repeat' first
    | with_reducible exact id
    | with_reducible exact hq _ _
    | with_reducible refine And.imp ?_ ?_
    | with_reducible refine all_imp fun _ => ?_
theorem mo_L_X10_pulled {a1 : Int32} {a2 : Int32} {mem : MMt} {Q Q' : Int32 → MMt → Prop} (hq : ∀ r0 r1, Q r0 r1 → Q' r0 r1) : L_X10_pulled a1 a2 mem Q → L_X10_pulled a1 a2 mem Q' := by
  unfold L_X10_pulled
  repeat' first
    | with_reducible exact id
    | with_reducible exact hq _ _
    | with_reducible refine And.imp ?_ ?_
    | with_reducible refine all_imp fun _ => ?_
theorem mo_L_X10_drag {a1 : Int32} {a2 : Int32} {mem : MMt} {Q Q' : Int32 → MMt → Prop} (hq : ∀ r0 r1, Q r0 r1 → Q' r0 r1) : L_X10_drag a1 a2 mem Q → L_X10_drag a1 a2 mem Q' := by
  unfold L_X10_drag
  repeat' first
    | with_reducible exact id
    | with_reducible exact hq _ _
    | with_reducible refine And.imp ?_ ?_
    | with_reducible refine all_imp fun _ => ?_
theorem mo_L_X10_reach {a1 : Int32} {a2 : Int32} {mem : MMt} {Q Q' : Int32 → MMt → Prop} (hq : ∀ r0 r1, Q r0 r1 → Q' r0 r1) : L_X10_reach a1 a2 mem Q → L_X10_reach a1 a2 mem Q' := by
  unfold L_X10_reach
  repeat' first
    | with_reducible exact id
    | with_reducible exact hq _ _
    | with_reducible refine And.imp ?_ ?_
    | with_reducible refine all_imp fun _ => ?_
theorem mo_L_X10_loadOf {a1 : Int32} {mem : MMt} {Q Q' : Int32 → MMt → Prop} (hq : ∀ r0 r1, Q r0 r1 → Q' r0 r1) : L_X10_loadOf a1 mem Q → L_X10_loadOf a1 mem Q' := by
  unfold L_X10_loadOf
  repeat' first
    | with_reducible exact id
    | with_reducible exact hq _ _
    | with_reducible refine mo_L_X10_of  fun _ _ => ?_
    | with_reducible refine mo_L_X10_load  fun _ _ => ?_
    | with_reducible refine And.imp ?_ ?_
    | with_reducible refine all_imp fun _ => ?_
theorem mo_L_X10_worked {a1 : Int32} {a2 : Int32} {a3 : Int32} {mem : MMt} {Q Q' : Int32 → MMt → Prop} (hq : ∀ r0 r1, Q r0 r1 → Q' r0 r1) : L_X10_worked a1 a2 a3 mem Q → L_X10_worked a1 a2 a3 mem Q' := by
  unfold L_X10_worked
  repeat' first
    | with_reducible exact id
    | with_reducible exact hq _ _
    | with_reducible refine And.imp ?_ ?_
    | with_reducible refine all_imp fun _ => ?_
theorem mo_B_X10_worksOut_106 {X4 : Int32 × Int32 × MMt → Prop} {x1 : Int32} {x2 : Int32} {x3 : Int32} {s0 : Int32} {s1 : Int32} {mem : MMt} {Q Q' : Int32 → MMt → Prop} (hq : ∀ r0 r1, Q r0 r1 → Q' r0 r1) : B_X10_worksOut_106 X4 x1 x2 x3 s0 s1 mem Q → B_X10_worksOut_106 X4 x1 x2 x3 s0 s1 mem Q' := by
  unfold B_X10_worksOut_106
  repeat' first
    | with_reducible exact id
    | with_reducible exact hq _ _
    | with_reducible refine And.imp ?_ ?_
    | with_reducible refine all_imp fun _ => ?_
theorem mo_B_X10_worksOut_70 {X4 : Int32 × Int32 × MMt → Prop} {x1 : Int32} {x2 : Int32} {x3 : Int32} {s0 : Int32} {s1 : Int32} {mem : MMt} {Q Q' : Int32 → MMt → Prop} (hq : ∀ r0 r1, Q r0 r1 → Q' r0 r1) : B_X10_worksOut_70 X4 x1 x2 x3 s0 s1 mem Q → B_X10_worksOut_70 X4 x1 x2 x3 s0 s1 mem Q' := by
  unfold B_X10_worksOut_70
  repeat' first
    | with_reducible exact id
    | with_reducible exact hq _ _
    | with_reducible refine And.imp ?_ ?_
    | with_reducible refine all_imp fun _ => ?_
theorem mo_B_X10_worksOut_4 {x1 : Int32} {x2 : Int32} {x3 : Int32} {mem : MMt} {Q Q' : Int32 → MMt → Prop} (hq : ∀ r0 r1, Q r0 r1 → Q' r0 r1) : B_X10_worksOut_4 x1 x2 x3 mem Q → B_X10_worksOut_4 x1 x2 x3 mem Q' := by
  unfold B_X10_worksOut_4
  repeat' first
    | with_reducible exact id
    | with_reducible exact hq _ _
    | with_reducible refine mo_L_X10_worked  fun _ _ => ?_
    | with_reducible refine mo_B_X10_worksOut_106  fun _ _ => ?_
    | with_reducible refine mo_B_X10_worksOut_70  fun _ _ => ?_
    | with_reducible refine LOOP_imp fun _ _ => ?_
    | with_reducible refine And.imp ?_ ?_
    | with_reducible refine all_imp fun _ => ?_
theorem mo_L_X10_worksOut {a1 : Int32} {mem : MMt} {Q Q' : Int32 → MMt → Prop} (hq : ∀ r0 r1, Q r0 r1 → Q' r0 r1) : L_X10_worksOut a1 mem Q → L_X10_worksOut a1 mem Q' := by
  unfold L_X10_worksOut
  repeat' first
    | with_reducible exact id
    | with_reducible exact hq _ _
    | with_reducible refine mo_B_X10_worksOut_4  fun _ _ => ?_
    | with_reducible refine And.imp ?_ ?_
    | with_reducible refine all_imp fun _ => ?_
theorem mo_B_X10_gives_68 {x1 : Int32} {s0 : Int32} {mem : MMt} {Q Q' : Int32 → MMt → Prop} (hq : ∀ r0 r1, Q r0 r1 → Q' r0 r1) : B_X10_gives_68 x1 s0 mem Q → B_X10_gives_68 x1 s0 mem Q' := by
  unfold B_X10_gives_68
  repeat' first
    | with_reducible exact id
    | with_reducible exact hq _ _
    | with_reducible refine mo_L_X10_within  fun _ _ => ?_
    | with_reducible refine And.imp ?_ ?_
    | with_reducible refine all_imp fun _ => ?_
theorem mo_L_X10_gives {a1 : Int32} {a2 : Int32} {a3 : Int32} {a4 : Int32} {mem : MMt} {Q Q' : Int32 → MMt → Prop} (hq : ∀ r0 r1, Q r0 r1 → Q' r0 r1) : L_X10_gives a1 a2 a3 a4 mem Q → L_X10_gives a1 a2 a3 a4 mem Q' := by
  unfold L_X10_gives
  repeat' first
    | with_reducible exact id
    | with_reducible exact hq _ _
    | with_reducible refine mo_B_X10_gives_68  fun _ _ => ?_
    | with_reducible refine mo_L_X10_worksOut  fun _ _ => ?_
    | with_reducible refine And.imp ?_ ?_
    | with_reducible refine all_imp fun _ => ?_
theorem mo_L_X10_pulledNow {a1 : Int32} {mem : MMt} {Q Q' : Int32 → MMt → Prop} (hq : ∀ r0 r1, Q r0 r1 → Q' r0 r1) : L_X10_pulledNow a1 mem Q → L_X10_pulledNow a1 mem Q' := by
  unfold L_X10_pulledNow
  repeat' first
    | with_reducible exact id
    | with_reducible exact hq _ _
    | with_reducible refine mo_L_X10_of  fun _ _ => ?_
    | with_reducible refine mo_L_X10_gives  fun _ _ => ?_
    | with_reducible refine mo_L_X10_pulled  fun _ _ => ?_
    | with_reducible refine And.imp ?_ ?_
    | with_reducible refine all_imp fun _ => ?_
theorem mo_L_X10_good {a1 : Int32} {a2 : Int32} {mem : MMt} {Q Q' : Int32 → MMt → Prop} (hq : ∀ r0 r1, Q r0 r1 → Q' r0 r1) : L_X10_good a1 a2 mem Q → L_X10_good a1 a2 mem Q' := by
  unfold L_X10_good
  repeat' first
    | with_reducible exact id
    | with_reducible exact hq _ _
    | with_reducible refine mo_L_X10_isIn  fun _ _ => ?_
    | with_reducible refine mo_L_X10_error  fun _ _ => ?_
    | with_reducible refine mo_L_X10_sets  fun _ => ?_
    | with_reducible refine And.imp ?_ ?_
    | with_reducible refine all_imp fun _ => ?_
theorem mo_B_X10_looksAhead_79 {x1 : Int32} {x2 : Int32} {x3 : Int32} {s0 : Int32} {mem : MMt} {Q Q' : MMt → Prop} (hq : ∀ r0, Q r0 → Q' r0) : B_X10_looksAhead_79 x1 x2 x3 s0 mem Q → B_X10_looksAhead_79 x1 x2 x3 s0 mem Q' := by
  unfold B_X10_looksAhead_79
  repeat' first
    | with_reducible exact id
    | with_reducible exact hq _
    | with_reducible refine mo_L_X10_within  fun _ _ => ?_
    | with_reducible refine mo_L_X10_of  fun _ _ => ?_
    | with_reducible refine mo_L_X10_reach  fun _ _ => ?_
    | with_reducible refine And.imp ?_ ?_
    | with_reducible refine all_imp fun _ => ?_
theorem mo_B_X10_looksAhead_78 {x1 : Int32} {x2 : Int32} {x3 : Int32} {s0 : Int32} {s1 : Int32} {mem : MMt} {Q Q' : MMt → Prop} (hq : ∀ r0, Q r0 → Q' r0) : B_X10_looksAhead_78 x1 x2 x3 s0 s1 mem Q → B_X10_looksAhead_78 x1 x2 x3 s0 s1 mem Q' := by
  unfold B_X10_looksAhead_78
  repeat' first
    | with_reducible exact id
    | with_reducible exact hq _
    | with_reducible refine mo_B_X10_looksAhead_79  fun _ => ?_
    | with_reducible refine And.imp ?_ ?_
    | with_reducible refine all_imp fun _ => ?_
theorem mo_B_X10_looksAhead_56 {x1 : Int32} {x2 : Int32} {x3 : Int32} {s0 : Int32} {s1 : Int32} {mem : MMt} {Q Q' : MMt → Prop} (hq : ∀ r0, Q r0 → Q' r0) : B_X10_looksAhead_56 x1 x2 x3 s0 s1 mem Q → B_X10_looksAhead_56 x1 x2 x3 s0 s1 mem Q' := by
  unfold B_X10_looksAhead_56
  repeat' first
    | with_reducible exact id
    | with_reducible exact hq _
    | with_reducible refine mo_B_X10_looksAhead_79  fun _ => ?_
    | with_reducible refine And.imp ?_ ?_
    | with_reducible refine all_imp fun _ => ?_
theorem mo_L_X10_looksAhead {a1 : Int32} {mem : MMt} {Q Q' : MMt → Prop} (hq : ∀ r0, Q r0 → Q' r0) : L_X10_looksAhead a1 mem Q → L_X10_looksAhead a1 mem Q' := by
  unfold L_X10_looksAhead
  repeat' first
    | with_reducible exact id
    | with_reducible exact hq _
    | with_reducible refine mo_L_X10_of  fun _ _ => ?_
    | with_reducible refine mo_L_X10_pulledNow  fun _ _ => ?_
    | with_reducible refine mo_L_X10_drag  fun _ _ => ?_
    | with_reducible refine mo_B_X10_looksAhead_78  fun _ => ?_
    | with_reducible refine mo_B_X10_looksAhead_56  fun _ => ?_
    | with_reducible refine And.imp ?_ ?_
    | with_reducible refine all_imp fun _ => ?_
theorem mo_L_X10_isAtRest {a1 : Int32} {mem : MMt} {Q Q' : Int32 → MMt → Prop} (hq : ∀ r0 r1, Q r0 r1 → Q' r0 r1) : L_X10_isAtRest a1 mem Q → L_X10_isAtRest a1 mem Q' := by
  unfold L_X10_isAtRest
  repeat' first
    | with_reducible exact id
    | with_reducible exact hq _ _
    | with_reducible refine mo_L_X10_looksAhead  fun _ => ?_
    | with_reducible refine mo_L_X10_of  fun _ _ => ?_
    | with_reducible refine And.imp ?_ ?_
    | with_reducible refine all_imp fun _ => ?_
theorem mo_L_X10_ofGood {a1 : Int32} {a2 : Int32} {mem : MMt} {Q Q' : Int32 → MMt → Prop} (hq : ∀ r0 r1, Q r0 r1 → Q' r0 r1) : L_X10_ofGood a1 a2 mem Q → L_X10_ofGood a1 a2 mem Q' := by
  unfold L_X10_ofGood
  repeat' first
    | with_reducible exact id
    | with_reducible exact hq _ _
    | with_reducible refine mo_L_X10_isGood  fun _ _ => ?_
    | with_reducible refine mo_L_X10_error  fun _ _ => ?_
    | with_reducible refine mo_L_X10_of  fun _ _ => ?_
    | with_reducible refine mo_L_X10_loadOf  fun _ _ => ?_
    | with_reducible refine mo_L_X10_pulledNow  fun _ _ => ?_
    | with_reducible refine mo_L_X10_drag  fun _ _ => ?_
    | with_reducible refine mo_L_X10_reach  fun _ _ => ?_
    | with_reducible refine mo_L_X10_isAtRest  fun _ _ => ?_
    | with_reducible refine And.imp ?_ ?_
    | with_reducible refine all_imp fun _ => ?_
theorem mo_L_X10_become {a1 : Int32} {a2 : Int32} {mem : MMt} {Q Q' : Int32 → MMt → Prop} (hq : ∀ r0 r1, Q r0 r1 → Q' r0 r1) : L_X10_become a1 a2 mem Q → L_X10_become a1 a2 mem Q' := by
  unfold L_X10_become
  repeat' first
    | with_reducible exact id
    | with_reducible exact hq _ _
    | with_reducible refine mo_L_X10_isGood  fun _ _ => ?_
    | with_reducible refine mo_L_X10_error  fun _ _ => ?_
    | with_reducible refine mo_L_X10_isIn  fun _ _ => ?_
    | with_reducible refine mo_L_X10_of  fun _ _ => ?_
    | with_reducible refine mo_L_X10_sets  fun _ => ?_
    | with_reducible refine And.imp ?_ ?_
    | with_reducible refine all_imp fun _ => ?_
theorem mo_L_X10_as {a1 : Int32} {a2 : Int32} {mem : MMt} {Q Q' : Int32 → MMt → Prop} (hq : ∀ r0 r1, Q r0 r1 → Q' r0 r1) : L_X10_as a1 a2 mem Q → L_X10_as a1 a2 mem Q' := by
  unfold L_X10_as
  repeat' first
    | with_reducible exact id
    | with_reducible exact hq _ _
    | with_reducible refine mo_L_X10_isGood  fun _ _ => ?_
    | with_reducible refine mo_L_X10_error  fun _ _ => ?_
    | with_reducible refine mo_L_X10_isIn  fun _ _ => ?_
    | with_reducible refine mo_L_X10_of  fun _ _ => ?_
    | with_reducible refine mo_L_X10_isUnder  fun _ _ => ?_
    | with_reducible refine And.imp ?_ ?_
    | with_reducible refine all_imp fun _ => ?_
theorem mo_L_X10_place {a1 : Int32} {a2 : Int32} {mem : MMt} {Q Q' : Int32 → MMt → Prop} (hq : ∀ r0 r1, Q r0 r1 → Q' r0 r1) : L_X10_place a1 a2 mem Q → L_X10_place a1 a2 mem Q' := by
  unfold L_X10_place
  repeat' first
    | with_reducible exact id
    | with_reducible exact hq _ _
    | with_reducible refine mo_L_X10_isGood  fun _ _ => ?_
    | with_reducible refine mo_L_X10_error  fun _ _ => ?_
    | with_reducible refine mo_L_X10_isIn  fun _ _ => ?_
    | with_reducible refine mo_L_X10_of  fun _ _ => ?_
    | with_reducible refine mo_L_X10_sets  fun _ => ?_
    | with_reducible refine And.imp ?_ ?_
    | with_reducible refine all_imp fun _ => ?_
theorem mo_L_X10_pushed {a1 : Int32} {a2 : Int32} {mem : MMt} {Q Q' : Int32 → MMt → Prop} (hq : ∀ r0 r1, Q r0 r1 → Q' r0 r1) : L_X10_pushed a1 a2 mem Q → L_X10_pushed a1 a2 mem Q' := by
  unfold L_X10_pushed
  repeat' first
    | with_reducible exact id
    | with_reducible exact hq _ _
    | with_reducible refine mo_L_X10_of  fun _ _ => ?_
    | with_reducible refine mo_L_X10_within  fun _ _ => ?_
    | with_reducible refine mo_L_X10_sets  fun _ => ?_
    | with_reducible refine And.imp ?_ ?_
    | with_reducible refine all_imp fun _ => ?_
theorem mo_L_X10_push {a1 : Int32} {a2 : Int32} {mem : MMt} {Q Q' : Int32 → MMt → Prop} (hq : ∀ r0 r1, Q r0 r1 → Q' r0 r1) : L_X10_push a1 a2 mem Q → L_X10_push a1 a2 mem Q' := by
  unfold L_X10_push
  repeat' first
    | with_reducible exact id
    | with_reducible exact hq _ _
    | with_reducible refine mo_L_X10_isGood  fun _ _ => ?_
    | with_reducible refine mo_L_X10_error  fun _ _ => ?_
    | with_reducible refine mo_L_X10_isPush  fun _ _ => ?_
    | with_reducible refine mo_L_X10_pushed  fun _ _ => ?_
    | with_reducible refine And.imp ?_ ?_
    | with_reducible refine all_imp fun _ => ?_
theorem mo_L_X10_off {a1 : Int32} {a2 : Int32} {a3 : Int32} {mem : MMt} {Q Q' : Int32 → MMt → Prop} (hq : ∀ r0 r1, Q r0 r1 → Q' r0 r1) : L_X10_off a1 a2 a3 mem Q → L_X10_off a1 a2 a3 mem Q' := by
  unfold L_X10_off
  repeat' first
    | with_reducible exact id
    | with_reducible exact hq _ _
    | with_reducible refine mo_L_X10_isGood  fun _ _ => ?_
    | with_reducible refine mo_L_X10_error  fun _ _ => ?_
    | with_reducible refine mo_L_X10_isPush  fun _ _ => ?_
    | with_reducible refine mo_L_X10_of  fun _ _ => ?_
    | with_reducible refine mo_L_X10_pushed  fun _ _ => ?_
    | with_reducible refine And.imp ?_ ?_
    | with_reducible refine all_imp fun _ => ?_
theorem mo_B_X10_set_40 {x1 : Int32} {x2 : Int32} {s0 : Int64} {s1 : Int64} {s2 : Int64} {mem : MMt} {Q Q' : Int32 → MMt → Prop} (hq : ∀ r0 r1, Q r0 r1 → Q' r0 r1) : B_X10_set_40 x1 x2 s0 s1 s2 mem Q → B_X10_set_40 x1 x2 s0 s1 s2 mem Q' := by
  unfold B_X10_set_40
  repeat' first
    | with_reducible exact id
    | with_reducible exact hq _ _
    | with_reducible refine mo_L_X10_isIn  fun _ _ => ?_
    | with_reducible refine mo_L_X10_error  fun _ _ => ?_
    | with_reducible refine And.imp ?_ ?_
    | with_reducible refine all_imp fun _ => ?_
theorem mo_B_X10_set_27 {x1 : Int32} {x2 : Int32} {s0 : Int64} {s1 : Int64} {mem : MMt} {Q Q' : Int32 → MMt → Prop} (hq : ∀ r0 r1, Q r0 r1 → Q' r0 r1) : B_X10_set_27 x1 x2 s0 s1 mem Q → B_X10_set_27 x1 x2 s0 s1 mem Q' := by
  unfold B_X10_set_27
  repeat' first
    | with_reducible exact id
    | with_reducible exact hq _ _
    | with_reducible refine mo_B_X10_set_40  fun _ _ => ?_
    | with_reducible refine And.imp ?_ ?_
    | with_reducible refine all_imp fun _ => ?_
theorem mo_L_X10_set {a1 : Int32} {a2 : Int32} {mem : MMt} {Q Q' : Int32 → MMt → Prop} (hq : ∀ r0 r1, Q r0 r1 → Q' r0 r1) : L_X10_set a1 a2 mem Q → L_X10_set a1 a2 mem Q' := by
  unfold L_X10_set
  repeat' first
    | with_reducible exact id
    | with_reducible exact hq _ _
    | with_reducible refine mo_L_X10_isIn  fun _ _ => ?_
    | with_reducible refine mo_L_X10_error  fun _ _ => ?_
    | with_reducible refine mo_B_X10_set_27  fun _ _ => ?_
    | with_reducible refine And.imp ?_ ?_
    | with_reducible refine all_imp fun _ => ?_
theorem mo_L_X10_stands {a1 : Int32} {a2 : Int32} {a3 : Int32} {mem : MMt} {Q Q' : Int32 → MMt → Prop} (hq : ∀ r0 r1, Q r0 r1 → Q' r0 r1) : L_X10_stands a1 a2 a3 mem Q → L_X10_stands a1 a2 a3 mem Q' := by
  unfold L_X10_stands
  repeat' first
    | with_reducible exact id
    | with_reducible exact hq _ _
    | with_reducible refine And.imp ?_ ?_
    | with_reducible refine all_imp fun _ => ?_
theorem mo_L_X10_isDoor {a1 : Int32} {mem : MMt} {Q Q' : Int32 → MMt → Prop} (hq : ∀ r0 r1, Q r0 r1 → Q' r0 r1) : L_X10_isDoor a1 mem Q → L_X10_isDoor a1 mem Q' := by
  unfold L_X10_isDoor
  repeat' first
    | with_reducible exact id
    | with_reducible exact hq _ _
    | with_reducible refine mo_L_X10_isIn  fun _ _ => ?_
    | with_reducible refine And.imp ?_ ?_
    | with_reducible refine all_imp fun _ => ?_
theorem mo_L_X10_door {a1 : Int32} {a2 : Int32} {mem : MMt} {Q Q' : Int32 → MMt → Prop} (hq : ∀ r0 r1, Q r0 r1 → Q' r0 r1) : L_X10_door a1 a2 mem Q → L_X10_door a1 a2 mem Q' := by
  unfold L_X10_door
  repeat' first
    | with_reducible exact id
    | with_reducible exact hq _ _
    | with_reducible refine mo_L_X10_isSide  fun _ _ => ?_
    | with_reducible refine mo_L_X10_error  fun _ _ => ?_
    | with_reducible refine mo_L_X10_isDoor  fun _ _ => ?_
    | with_reducible refine mo_L_X10_stands  fun _ _ => ?_
    | with_reducible refine And.imp ?_ ?_
    | with_reducible refine all_imp fun _ => ?_
theorem mo_B_X10_lineUp_24 {x1 : Int32} {x2 : Int32} {x3 : Int32} {mem : MMt} {Q Q' : Int32 → MMt → Prop} (hq : ∀ r0 r1, Q r0 r1 → Q' r0 r1) : B_X10_lineUp_24 x1 x2 x3 mem Q → B_X10_lineUp_24 x1 x2 x3 mem Q' := by
  unfold B_X10_lineUp_24
  repeat' first
    | with_reducible exact id
    | with_reducible exact hq _ _
    | with_reducible refine mo_L_X10_error  fun _ _ => ?_
    | with_reducible refine mo_L_X10_stands  fun _ _ => ?_
    | with_reducible refine LOOP_imp fun _ _ => ?_
    | with_reducible refine And.imp ?_ ?_
    | with_reducible refine all_imp fun _ => ?_
theorem mo_L_X10_lineUp {a1 : Int32} {a2 : Int32} {mem : MMt} {Q Q' : Int32 → MMt → Prop} (hq : ∀ r0 r1, Q r0 r1 → Q' r0 r1) : L_X10_lineUp a1 a2 mem Q → L_X10_lineUp a1 a2 mem Q' := by
  unfold L_X10_lineUp
  repeat' first
    | with_reducible exact id
    | with_reducible exact hq _ _
    | with_reducible refine mo_L_X10_isDoor  fun _ _ => ?_
    | with_reducible refine mo_L_X10_error  fun _ _ => ?_
    | with_reducible refine mo_B_X10_lineUp_24  fun _ _ => ?_
    | with_reducible refine And.imp ?_ ?_
    | with_reducible refine all_imp fun _ => ?_
theorem mo_B_X10_feed_41 {x1 : Int64} {x3 : Int32} {x4 : Int32} {mem : MMt} {Q Q' : Int32 → MMt → Prop} (hq : ∀ r0 r1, Q r0 r1 → Q' r0 r1) : B_X10_feed_41 x1 x3 x4 mem Q → B_X10_feed_41 x1 x3 x4 mem Q' := by
  unfold B_X10_feed_41
  repeat' first
    | with_reducible exact id
    | with_reducible exact hq _ _
    | with_reducible refine LOOP_imp fun _ _ => ?_
    | with_reducible refine And.imp ?_ ?_
    | with_reducible refine all_imp fun _ => ?_
theorem mo_L_X10_feed {a1 : Int64} {a2 : Int32} {mem : MMt} {Q Q' : Int32 → MMt → Prop} (hq : ∀ r0 r1, Q r0 r1 → Q' r0 r1) : L_X10_feed a1 a2 mem Q → L_X10_feed a1 a2 mem Q' := by
  unfold L_X10_feed
  repeat' first
    | with_reducible exact id
    | with_reducible exact hq _ _
    | with_reducible refine mo_L_X10_isIn  fun _ _ => ?_
    | with_reducible refine mo_B_X10_feed_41  fun _ _ => ?_
    | with_reducible refine mo_L_X10_error  fun _ _ => ?_
    | with_reducible refine And.imp ?_ ?_
    | with_reducible refine all_imp fun _ => ?_
theorem mo_L_X10_here {mem : MMt} {Q Q' : Int32 → MMt → Prop} (hq : ∀ r0 r1, Q r0 r1 → Q' r0 r1) : L_X10_here mem Q → L_X10_here mem Q' := by
  unfold L_X10_here
  repeat' first
    | with_reducible exact id
    | with_reducible exact hq _ _
    | with_reducible refine And.imp ?_ ?_
    | with_reducible refine all_imp fun _ => ?_
theorem mo_L_X10_takes {a1 : Int32} {mem : MMt} {Q Q' : Int32 → MMt → Prop} (hq : ∀ r0 r1, Q r0 r1 → Q' r0 r1) : L_X10_takes a1 mem Q → L_X10_takes a1 mem Q' := by
  unfold L_X10_takes
  repeat' first
    | with_reducible exact id
    | with_reducible exact hq _ _
    | with_reducible refine mo_L_X10_here  fun _ _ => ?_
    | with_reducible refine And.imp ?_ ?_
    | with_reducible refine all_imp fun _ => ?_
theorem mo_L_X10_isDigit {mem : MMt} {Q Q' : Int32 → MMt → Prop} (hq : ∀ r0 r1, Q r0 r1 → Q' r0 r1) : L_X10_isDigit mem Q → L_X10_isDigit mem Q' := by
  unfold L_X10_isDigit
  repeat' first
    | with_reducible exact id
    | with_reducible exact hq _ _
    | with_reducible refine mo_L_X10_here  fun _ _ => ?_
    | with_reducible refine mo_L_X10_isIn  fun _ _ => ?_
    | with_reducible refine And.imp ?_ ?_
    | with_reducible refine all_imp fun _ => ?_
theorem mo_L_X10_lays {a1 : Int32} {a2 : Int32} {mem : MMt} {Q Q' : MMt → Prop} (hq : ∀ r0, Q r0 → Q' r0) : L_X10_lays a1 a2 mem Q → L_X10_lays a1 a2 mem Q' := by
  unfold L_X10_lays
  repeat' first
    | with_reducible exact id
    | with_reducible exact hq _
    | with_reducible refine And.imp ?_ ?_
    | with_reducible refine all_imp fun _ => ?_
theorem mo_L_X10_nameHere {mem : MMt} {Q Q' : Int32 → MMt → Prop} (hq : ∀ r0 r1, Q r0 r1 → Q' r0 r1) : L_X10_nameHere mem Q → L_X10_nameHere mem Q' := by
  unfold L_X10_nameHere
  repeat' first
    | with_reducible exact id
    | with_reducible exact hq _ _
    | with_reducible refine mo_L_X10_here  fun _ _ => ?_
    | with_reducible refine And.imp ?_ ?_
    | with_reducible refine all_imp fun _ => ?_
theorem mo_B_X10_readsNumber_4 {x1 : Int32} {x2 : Int32} {mem : MMt} {Q Q' : Int32 → MMt → Prop} (hq : ∀ r0 r1, Q r0 r1 → Q' r0 r1) : B_X10_readsNumber_4 x1 x2 mem Q → B_X10_readsNumber_4 x1 x2 mem Q' := by
  unfold B_X10_readsNumber_4
  repeat' first
    | with_reducible exact id
    | with_reducible exact hq _ _
    | with_reducible refine mo_L_X10_lays  fun _ => ?_
    | with_reducible refine mo_L_X10_isDigit  fun _ _ => ?_
    | with_reducible refine mo_L_X10_here  fun _ _ => ?_
    | with_reducible refine LOOP_imp fun _ _ => ?_
    | with_reducible refine And.imp ?_ ?_
    | with_reducible refine all_imp fun _ => ?_
theorem mo_L_X10_readsNumber {mem : MMt} {Q Q' : Int32 → MMt → Prop} (hq : ∀ r0 r1, Q r0 r1 → Q' r0 r1) : L_X10_readsNumber mem Q → L_X10_readsNumber mem Q' := by
  unfold L_X10_readsNumber
  repeat' first
    | with_reducible exact id
    | with_reducible exact hq _ _
    | with_reducible refine mo_B_X10_readsNumber_4  fun _ _ => ?_
    | with_reducible refine And.imp ?_ ?_
    | with_reducible refine all_imp fun _ => ?_
theorem mo_L_X10_isSign {a1 : Int32} {mem : MMt} {Q Q' : Int32 → MMt → Prop} (hq : ∀ r0 r1, Q r0 r1 → Q' r0 r1) : L_X10_isSign a1 mem Q → L_X10_isSign a1 mem Q' := by
  unfold L_X10_isSign
  repeat' first
    | with_reducible exact id
    | with_reducible exact hq _ _
    | with_reducible refine mo_L_X10_here  fun _ _ => ?_
    | with_reducible refine And.imp ?_ ?_
    | with_reducible refine all_imp fun _ => ?_
theorem mo_B_X10_readsQ_121 {R_X10_readsQ : MMt → (Int32 → MMt → Prop) → Prop} {R_X10_readsT : MMt → (Int32 → MMt → Prop) → Prop} {R_X10_reads : Int32 → MMt → (Int32 → MMt → Prop) → Prop} {x1 : Int32} {s0 : Int32} {mem : MMt} {Q Q' : Int32 → MMt → Prop} (hR_X10_readsQ : ∀ (m : MMt) (Q Q' : Int32 → MMt → Prop), (∀ r0 r1, Q r0 r1 → Q' r0 r1) → R_X10_readsQ  m Q → R_X10_readsQ  m Q') (hR_X10_readsT : ∀ (m : MMt) (Q Q' : Int32 → MMt → Prop), (∀ r0 r1, Q r0 r1 → Q' r0 r1) → R_X10_readsT  m Q → R_X10_readsT  m Q') (hR_X10_reads : ∀ (v0 : Int32) (m : MMt) (Q Q' : Int32 → MMt → Prop), (∀ r0 r1, Q r0 r1 → Q' r0 r1) → R_X10_reads v0 m Q → R_X10_reads v0 m Q') (hq : ∀ r0 r1, Q r0 r1 → Q' r0 r1) : B_X10_readsQ_121 R_X10_readsQ R_X10_readsT R_X10_reads x1 s0 mem Q → B_X10_readsQ_121 R_X10_readsQ R_X10_readsT R_X10_reads x1 s0 mem Q' := by
  unfold B_X10_readsQ_121
  repeat' first
    | with_reducible exact id
    | with_reducible exact hq _ _
    | with_reducible refine hR_X10_readsQ _ _ _ fun _ _ => ?_
    | with_reducible refine hR_X10_readsT _ _ _ fun _ _ => ?_
    | with_reducible refine hR_X10_reads _ _ _ _ fun _ _ => ?_
    | with_reducible refine mo_L_X10_lays  fun _ => ?_
    | with_reducible refine And.imp ?_ ?_
    | with_reducible refine all_imp fun _ => ?_
theorem mo_B_X10_readsQ_120 {R_X10_readsQ : MMt → (Int32 → MMt → Prop) → Prop} {R_X10_readsT : MMt → (Int32 → MMt → Prop) → Prop} {R_X10_reads : Int32 → MMt → (Int32 → MMt → Prop) → Prop} {x1 : Int32} {mem : MMt} {Q Q' : Int32 → MMt → Prop} (hR_X10_readsQ : ∀ (m : MMt) (Q Q' : Int32 → MMt → Prop), (∀ r0 r1, Q r0 r1 → Q' r0 r1) → R_X10_readsQ  m Q → R_X10_readsQ  m Q') (hR_X10_readsT : ∀ (m : MMt) (Q Q' : Int32 → MMt → Prop), (∀ r0 r1, Q r0 r1 → Q' r0 r1) → R_X10_readsT  m Q → R_X10_readsT  m Q') (hR_X10_reads : ∀ (v0 : Int32) (m : MMt) (Q Q' : Int32 → MMt → Prop), (∀ r0 r1, Q r0 r1 → Q' r0 r1) → R_X10_reads v0 m Q → R_X10_reads v0 m Q') (hq : ∀ r0 r1, Q r0 r1 → Q' r0 r1) : B_X10_readsQ_120 R_X10_readsQ R_X10_readsT R_X10_reads x1 mem Q → B_X10_readsQ_120 R_X10_readsQ R_X10_readsT R_X10_reads x1 mem Q' := by
  unfold B_X10_readsQ_120
  repeat' first
    | with_reducible exact id
    | with_reducible exact hq _ _
    | with_reducible refine hR_X10_readsQ _ _ _ fun _ _ => ?_
    | with_reducible refine hR_X10_readsT _ _ _ fun _ _ => ?_
    | with_reducible refine hR_X10_reads _ _ _ _ fun _ _ => ?_
    | with_reducible refine mo_B_X10_readsQ_121 hR_X10_readsQ hR_X10_readsT hR_X10_reads fun _ _ => ?_
    | with_reducible refine And.imp ?_ ?_
    | with_reducible refine all_imp fun _ => ?_
theorem mo_B_X10_readsQ_57 {R_X10_readsQ : MMt → (Int32 → MMt → Prop) → Prop} {R_X10_readsT : MMt → (Int32 → MMt → Prop) → Prop} {R_X10_reads : Int32 → MMt → (Int32 → MMt → Prop) → Prop} {x1 : Int32} {mem : MMt} {Q Q' : Int32 → MMt → Prop} (hR_X10_readsQ : ∀ (m : MMt) (Q Q' : Int32 → MMt → Prop), (∀ r0 r1, Q r0 r1 → Q' r0 r1) → R_X10_readsQ  m Q → R_X10_readsQ  m Q') (hR_X10_readsT : ∀ (m : MMt) (Q Q' : Int32 → MMt → Prop), (∀ r0 r1, Q r0 r1 → Q' r0 r1) → R_X10_readsT  m Q → R_X10_readsT  m Q') (hR_X10_reads : ∀ (v0 : Int32) (m : MMt) (Q Q' : Int32 → MMt → Prop), (∀ r0 r1, Q r0 r1 → Q' r0 r1) → R_X10_reads v0 m Q → R_X10_reads v0 m Q') (hq : ∀ r0 r1, Q r0 r1 → Q' r0 r1) : B_X10_readsQ_57 R_X10_readsQ R_X10_readsT R_X10_reads x1 mem Q → B_X10_readsQ_57 R_X10_readsQ R_X10_readsT R_X10_reads x1 mem Q' := by
  unfold B_X10_readsQ_57
  repeat' first
    | with_reducible exact id
    | with_reducible exact hq _ _
    | with_reducible refine hR_X10_readsQ _ _ _ fun _ _ => ?_
    | with_reducible refine hR_X10_readsT _ _ _ fun _ _ => ?_
    | with_reducible refine hR_X10_reads _ _ _ _ fun _ _ => ?_
    | with_reducible refine mo_B_X10_readsQ_120 hR_X10_readsQ hR_X10_readsT hR_X10_reads fun _ _ => ?_
    | with_reducible refine mo_L_X10_takes  fun _ _ => ?_
    | with_reducible refine mo_B_X10_readsQ_121 hR_X10_readsQ hR_X10_readsT hR_X10_reads fun _ _ => ?_
    | with_reducible refine And.imp ?_ ?_
    | with_reducible refine all_imp fun _ => ?_
theorem mo_L_X10_readsQ {R_X10_readsQ : MMt → (Int32 → MMt → Prop) → Prop} {R_X10_readsT : MMt → (Int32 → MMt → Prop) → Prop} {R_X10_reads : Int32 → MMt → (Int32 → MMt → Prop) → Prop} {mem : MMt} {Q Q' : Int32 → MMt → Prop} (hR_X10_readsQ : ∀ (m : MMt) (Q Q' : Int32 → MMt → Prop), (∀ r0 r1, Q r0 r1 → Q' r0 r1) → R_X10_readsQ  m Q → R_X10_readsQ  m Q') (hR_X10_readsT : ∀ (m : MMt) (Q Q' : Int32 → MMt → Prop), (∀ r0 r1, Q r0 r1 → Q' r0 r1) → R_X10_readsT  m Q → R_X10_readsT  m Q') (hR_X10_reads : ∀ (v0 : Int32) (m : MMt) (Q Q' : Int32 → MMt → Prop), (∀ r0 r1, Q r0 r1 → Q' r0 r1) → R_X10_reads v0 m Q → R_X10_reads v0 m Q') (hq : ∀ r0 r1, Q r0 r1 → Q' r0 r1) : L_X10_readsQ R_X10_readsQ R_X10_readsT R_X10_reads mem Q → L_X10_readsQ R_X10_readsQ R_X10_readsT R_X10_reads mem Q' := by
  unfold L_X10_readsQ
  repeat' first
    | with_reducible exact id
    | with_reducible exact hq _ _
    | with_reducible refine hR_X10_readsQ _ _ _ fun _ _ => ?_
    | with_reducible refine hR_X10_readsT _ _ _ fun _ _ => ?_
    | with_reducible refine hR_X10_reads _ _ _ _ fun _ _ => ?_
    | with_reducible refine mo_L_X10_isDigit  fun _ _ => ?_
    | with_reducible refine mo_L_X10_nameHere  fun _ _ => ?_
    | with_reducible refine mo_L_X10_here  fun _ _ => ?_
    | with_reducible refine mo_B_X10_readsQ_57 hR_X10_readsQ hR_X10_readsT hR_X10_reads fun _ _ => ?_
    | with_reducible refine mo_L_X10_lays  fun _ => ?_
    | with_reducible refine mo_L_X10_readsNumber  fun _ _ => ?_
    | with_reducible refine And.imp ?_ ?_
    | with_reducible refine all_imp fun _ => ?_
theorem mo_L_X10_readsT {R_X10_readsQ : MMt → (Int32 → MMt → Prop) → Prop} {R_X10_readsT : MMt → (Int32 → MMt → Prop) → Prop} {R_X10_reads : Int32 → MMt → (Int32 → MMt → Prop) → Prop} {mem : MMt} {Q Q' : Int32 → MMt → Prop} (hR_X10_readsQ : ∀ (m : MMt) (Q Q' : Int32 → MMt → Prop), (∀ r0 r1, Q r0 r1 → Q' r0 r1) → R_X10_readsQ  m Q → R_X10_readsQ  m Q') (hR_X10_readsT : ∀ (m : MMt) (Q Q' : Int32 → MMt → Prop), (∀ r0 r1, Q r0 r1 → Q' r0 r1) → R_X10_readsT  m Q → R_X10_readsT  m Q') (hR_X10_reads : ∀ (v0 : Int32) (m : MMt) (Q Q' : Int32 → MMt → Prop), (∀ r0 r1, Q r0 r1 → Q' r0 r1) → R_X10_reads v0 m Q → R_X10_reads v0 m Q') (hq : ∀ r0 r1, Q r0 r1 → Q' r0 r1) : L_X10_readsT R_X10_readsQ R_X10_readsT R_X10_reads mem Q → L_X10_readsT R_X10_readsQ R_X10_readsT R_X10_reads mem Q' := by
  unfold L_X10_readsT
  repeat' first
    | with_reducible exact id
    | with_reducible exact hq _ _
    | with_reducible refine hR_X10_readsQ _ _ _ fun _ _ => ?_
    | with_reducible refine hR_X10_readsT _ _ _ fun _ _ => ?_
    | with_reducible refine hR_X10_reads _ _ _ _ fun _ _ => ?_
    | with_reducible refine And.imp ?_ ?_
    | with_reducible refine all_imp fun _ => ?_
theorem mo_B_X10_reads_81 {R_X10_readsQ : MMt → (Int32 → MMt → Prop) → Prop} {R_X10_readsT : MMt → (Int32 → MMt → Prop) → Prop} {R_X10_reads : Int32 → MMt → (Int32 → MMt → Prop) → Prop} {X22 : Int32 × Int32 × MMt → Prop} {x1 : Int32} {x3 : Int32} {x4 : Int32} {s0 : Int32} {mem : MMt} {Q Q' : Int32 → MMt → Prop} (hR_X10_readsQ : ∀ (m : MMt) (Q Q' : Int32 → MMt → Prop), (∀ r0 r1, Q r0 r1 → Q' r0 r1) → R_X10_readsQ  m Q → R_X10_readsQ  m Q') (hR_X10_readsT : ∀ (m : MMt) (Q Q' : Int32 → MMt → Prop), (∀ r0 r1, Q r0 r1 → Q' r0 r1) → R_X10_readsT  m Q → R_X10_readsT  m Q') (hR_X10_reads : ∀ (v0 : Int32) (m : MMt) (Q Q' : Int32 → MMt → Prop), (∀ r0 r1, Q r0 r1 → Q' r0 r1) → R_X10_reads v0 m Q → R_X10_reads v0 m Q') (hq : ∀ r0 r1, Q r0 r1 → Q' r0 r1) : B_X10_reads_81 R_X10_readsQ R_X10_readsT R_X10_reads X22 x1 x3 x4 s0 mem Q → B_X10_reads_81 R_X10_readsQ R_X10_readsT R_X10_reads X22 x1 x3 x4 s0 mem Q' := by
  unfold B_X10_reads_81
  repeat' first
    | with_reducible exact id
    | with_reducible exact hq _ _
    | with_reducible refine hR_X10_readsQ _ _ _ fun _ _ => ?_
    | with_reducible refine hR_X10_readsT _ _ _ fun _ _ => ?_
    | with_reducible refine hR_X10_reads _ _ _ _ fun _ _ => ?_
    | with_reducible refine mo_L_X10_lays  fun _ => ?_
    | with_reducible refine And.imp ?_ ?_
    | with_reducible refine all_imp fun _ => ?_
theorem mo_B_X10_reads_43 {R_X10_readsQ : MMt → (Int32 → MMt → Prop) → Prop} {R_X10_readsT : MMt → (Int32 → MMt → Prop) → Prop} {R_X10_reads : Int32 → MMt → (Int32 → MMt → Prop) → Prop} {X22 : Int32 × Int32 × MMt → Prop} {x1 : Int32} {x3 : Int32} {mem : MMt} {Q Q' : Int32 → MMt → Prop} (hR_X10_readsQ : ∀ (m : MMt) (Q Q' : Int32 → MMt → Prop), (∀ r0 r1, Q r0 r1 → Q' r0 r1) → R_X10_readsQ  m Q → R_X10_readsQ  m Q') (hR_X10_readsT : ∀ (m : MMt) (Q Q' : Int32 → MMt → Prop), (∀ r0 r1, Q r0 r1 → Q' r0 r1) → R_X10_readsT  m Q → R_X10_readsT  m Q') (hR_X10_reads : ∀ (v0 : Int32) (m : MMt) (Q Q' : Int32 → MMt → Prop), (∀ r0 r1, Q r0 r1 → Q' r0 r1) → R_X10_reads v0 m Q → R_X10_reads v0 m Q') (hq : ∀ r0 r1, Q r0 r1 → Q' r0 r1) : B_X10_reads_43 R_X10_readsQ R_X10_readsT R_X10_reads X22 x1 x3 mem Q → B_X10_reads_43 R_X10_readsQ R_X10_readsT R_X10_reads X22 x1 x3 mem Q' := by
  unfold B_X10_reads_43
  repeat' first
    | with_reducible exact id
    | with_reducible exact hq _ _
    | with_reducible refine hR_X10_readsQ _ _ _ fun _ _ => ?_
    | with_reducible refine hR_X10_readsT _ _ _ fun _ _ => ?_
    | with_reducible refine hR_X10_reads _ _ _ _ fun _ _ => ?_
    | with_reducible refine mo_L_X10_here  fun _ _ => ?_
    | with_reducible refine mo_B_X10_reads_81 hR_X10_readsQ hR_X10_readsT hR_X10_reads fun _ _ => ?_
    | with_reducible refine And.imp ?_ ?_
    | with_reducible refine all_imp fun _ => ?_
theorem mo_B_X10_reads_22 {R_X10_readsQ : MMt → (Int32 → MMt → Prop) → Prop} {R_X10_readsT : MMt → (Int32 → MMt → Prop) → Prop} {R_X10_reads : Int32 → MMt → (Int32 → MMt → Prop) → Prop} {x1 : Int32} {x2 : Int32} {x3 : Int32} {mem : MMt} {Q Q' : Int32 → MMt → Prop} (hR_X10_readsQ : ∀ (m : MMt) (Q Q' : Int32 → MMt → Prop), (∀ r0 r1, Q r0 r1 → Q' r0 r1) → R_X10_readsQ  m Q → R_X10_readsQ  m Q') (hR_X10_readsT : ∀ (m : MMt) (Q Q' : Int32 → MMt → Prop), (∀ r0 r1, Q r0 r1 → Q' r0 r1) → R_X10_readsT  m Q → R_X10_readsT  m Q') (hR_X10_reads : ∀ (v0 : Int32) (m : MMt) (Q Q' : Int32 → MMt → Prop), (∀ r0 r1, Q r0 r1 → Q' r0 r1) → R_X10_reads v0 m Q → R_X10_reads v0 m Q') (hq : ∀ r0 r1, Q r0 r1 → Q' r0 r1) : B_X10_reads_22 R_X10_readsQ R_X10_readsT R_X10_reads x1 x2 x3 mem Q → B_X10_reads_22 R_X10_readsQ R_X10_readsT R_X10_reads x1 x2 x3 mem Q' := by
  unfold B_X10_reads_22
  repeat' first
    | with_reducible exact id
    | with_reducible exact hq _ _
    | with_reducible refine hR_X10_readsQ _ _ _ fun _ _ => ?_
    | with_reducible refine hR_X10_readsT _ _ _ fun _ _ => ?_
    | with_reducible refine hR_X10_reads _ _ _ _ fun _ _ => ?_
    | with_reducible refine mo_L_X10_isSign  fun _ _ => ?_
    | with_reducible refine mo_B_X10_reads_43 hR_X10_readsQ hR_X10_readsT hR_X10_reads fun _ _ => ?_
    | with_reducible refine LOOP_imp fun _ _ => ?_
    | with_reducible refine And.imp ?_ ?_
    | with_reducible refine all_imp fun _ => ?_
theorem mo_B_X10_reads_19 {R_X10_readsQ : MMt → (Int32 → MMt → Prop) → Prop} {R_X10_readsT : MMt → (Int32 → MMt → Prop) → Prop} {R_X10_reads : Int32 → MMt → (Int32 → MMt → Prop) → Prop} {x1 : Int32} {s0 : Int32} {mem : MMt} {Q Q' : Int32 → MMt → Prop} (hR_X10_readsQ : ∀ (m : MMt) (Q Q' : Int32 → MMt → Prop), (∀ r0 r1, Q r0 r1 → Q' r0 r1) → R_X10_readsQ  m Q → R_X10_readsQ  m Q') (hR_X10_readsT : ∀ (m : MMt) (Q Q' : Int32 → MMt → Prop), (∀ r0 r1, Q r0 r1 → Q' r0 r1) → R_X10_readsT  m Q → R_X10_readsT  m Q') (hR_X10_reads : ∀ (v0 : Int32) (m : MMt) (Q Q' : Int32 → MMt → Prop), (∀ r0 r1, Q r0 r1 → Q' r0 r1) → R_X10_reads v0 m Q → R_X10_reads v0 m Q') (hq : ∀ r0 r1, Q r0 r1 → Q' r0 r1) : B_X10_reads_19 R_X10_readsQ R_X10_readsT R_X10_reads x1 s0 mem Q → B_X10_reads_19 R_X10_readsQ R_X10_readsT R_X10_reads x1 s0 mem Q' := by
  unfold B_X10_reads_19
  repeat' first
    | with_reducible exact id
    | with_reducible exact hq _ _
    | with_reducible refine hR_X10_readsQ _ _ _ fun _ _ => ?_
    | with_reducible refine hR_X10_readsT _ _ _ fun _ _ => ?_
    | with_reducible refine hR_X10_reads _ _ _ _ fun _ _ => ?_
    | with_reducible refine mo_B_X10_reads_22 hR_X10_readsQ hR_X10_readsT hR_X10_reads fun _ _ => ?_
    | with_reducible refine And.imp ?_ ?_
    | with_reducible refine all_imp fun _ => ?_
theorem mo_L_X10_reads {R_X10_readsQ : MMt → (Int32 → MMt → Prop) → Prop} {R_X10_readsT : MMt → (Int32 → MMt → Prop) → Prop} {R_X10_reads : Int32 → MMt → (Int32 → MMt → Prop) → Prop} {a1 : Int32} {mem : MMt} {Q Q' : Int32 → MMt → Prop} (hR_X10_readsQ : ∀ (m : MMt) (Q Q' : Int32 → MMt → Prop), (∀ r0 r1, Q r0 r1 → Q' r0 r1) → R_X10_readsQ  m Q → R_X10_readsQ  m Q') (hR_X10_readsT : ∀ (m : MMt) (Q Q' : Int32 → MMt → Prop), (∀ r0 r1, Q r0 r1 → Q' r0 r1) → R_X10_readsT  m Q → R_X10_readsT  m Q') (hR_X10_reads : ∀ (v0 : Int32) (m : MMt) (Q Q' : Int32 → MMt → Prop), (∀ r0 r1, Q r0 r1 → Q' r0 r1) → R_X10_reads v0 m Q → R_X10_reads v0 m Q') (hq : ∀ r0 r1, Q r0 r1 → Q' r0 r1) : L_X10_reads R_X10_readsQ R_X10_readsT R_X10_reads a1 mem Q → L_X10_reads R_X10_readsQ R_X10_readsT R_X10_reads a1 mem Q' := by
  unfold L_X10_reads
  repeat' first
    | with_reducible exact id
    | with_reducible exact hq _ _
    | with_reducible refine hR_X10_readsQ _ _ _ fun _ _ => ?_
    | with_reducible refine hR_X10_readsT _ _ _ fun _ _ => ?_
    | with_reducible refine hR_X10_reads _ _ _ _ fun _ _ => ?_
    | with_reducible refine mo_B_X10_reads_19 hR_X10_readsQ hR_X10_readsT hR_X10_reads fun _ _ => ?_
    | with_reducible refine And.imp ?_ ?_
    | with_reducible refine all_imp fun _ => ?_
theorem mo_WW_X10_readsQ : ∀ n : Nat, (∀ (m : MMt) (Q Q' : Int32 → MMt → Prop), (∀ r0 r1, Q r0 r1 → Q' r0 r1) → (WW_X10_readsQ n).1  m Q → (WW_X10_readsQ n).1  m Q') ∧ (∀ (m : MMt) (Q Q' : Int32 → MMt → Prop), (∀ r0 r1, Q r0 r1 → Q' r0 r1) → (WW_X10_readsQ n).2.1  m Q → (WW_X10_readsQ n).2.1  m Q') ∧ (∀ (a1 : Int32) (m : MMt) (Q Q' : Int32 → MMt → Prop), (∀ r0 r1, Q r0 r1 → Q' r0 r1) → (WW_X10_readsQ n).2.2 a1 m Q → (WW_X10_readsQ n).2.2 a1 m Q')
  | 0 => ⟨fun  _ _ _ _ h => h.elim, fun  _ _ _ _ h => h.elim, fun _ _ _ _ _ h => h.elim⟩
  | n + 1 => ⟨fun  _ _ _ hq h => mo_L_X10_readsQ (mo_WW_X10_readsQ n).1 (mo_WW_X10_readsQ n).2.1 (mo_WW_X10_readsQ n).2.2 hq h, fun  _ _ _ hq h => mo_L_X10_readsT (mo_WW_X10_readsQ n).1 (mo_WW_X10_readsQ n).2.1 (mo_WW_X10_readsQ n).2.2 hq h, fun _ _ _ _ hq h => mo_L_X10_reads (mo_WW_X10_readsQ n).1 (mo_WW_X10_readsQ n).2.1 (mo_WW_X10_readsQ n).2.2 hq h⟩
theorem mo_W_X10_readsQ {n : Nat} {mem : MMt} {Q Q' : Int32 → MMt → Prop} (hq : ∀ r0 r1, Q r0 r1 → Q' r0 r1) : W_X10_readsQ n mem Q → W_X10_readsQ n mem Q' := fun h => (mo_WW_X10_readsQ n).1  _ _ _ hq h
theorem mo_W_X10_readsT {n : Nat} {mem : MMt} {Q Q' : Int32 → MMt → Prop} (hq : ∀ r0 r1, Q r0 r1 → Q' r0 r1) : W_X10_readsT n mem Q → W_X10_readsT n mem Q' := fun h => (mo_WW_X10_readsQ n).2.1  _ _ _ hq h
theorem mo_W_X10_reads {n : Nat} {a1 : Int32} {mem : MMt} {Q Q' : Int32 → MMt → Prop} (hq : ∀ r0 r1, Q r0 r1 → Q' r0 r1) : W_X10_reads n a1 mem Q → W_X10_reads n a1 mem Q' := fun h => (mo_WW_X10_readsQ n).2.2 _ _ _ _ hq h
theorem mo_B_X10_text_104 {x3 : Int32} {x4 : Int32} {mem : MMt} {Q Q' : Int32 → MMt → Prop} (hq : ∀ r0 r1, Q r0 r1 → Q' r0 r1) : B_X10_text_104 x3 x4 mem Q → B_X10_text_104 x3 x4 mem Q' := by
  unfold B_X10_text_104
  repeat' first
    | with_reducible exact id
    | with_reducible exact hq _ _
    | with_reducible refine LOOP_imp fun _ _ => ?_
    | with_reducible refine And.imp ?_ ?_
    | with_reducible refine all_imp fun _ => ?_
theorem mo_B_X10_text_62 {x1 : Int32} {s0 : Int32} {mem : MMt} {Q Q' : Int32 → MMt → Prop} (hq : ∀ r0 r1, Q r0 r1 → Q' r0 r1) : B_X10_text_62 x1 s0 mem Q → B_X10_text_62 x1 s0 mem Q' := by
  unfold B_X10_text_62
  repeat' first
    | with_reducible exact id
    | with_reducible exact hq _ _
    | with_reducible refine mo_B_X10_text_104  fun _ _ => ?_
    | with_reducible refine And.imp ?_ ?_
    | with_reducible refine all_imp fun _ => ?_
theorem mo_B_X10_text_61 {x1 : Int32} {mem : MMt} {Q Q' : Int32 → MMt → Prop} (hq : ∀ r0 r1, Q r0 r1 → Q' r0 r1) : B_X10_text_61 x1 mem Q → B_X10_text_61 x1 mem Q' := by
  unfold B_X10_text_61
  repeat' first
    | with_reducible exact id
    | with_reducible exact hq _ _
    | with_reducible refine mo_B_X10_text_62  fun _ _ => ?_
    | with_reducible refine And.imp ?_ ?_
    | with_reducible refine all_imp fun _ => ?_
theorem mo_L_X10_text {a1 : Int32} {mem : MMt} {Q Q' : Int32 → MMt → Prop} (hq : ∀ r0 r1, Q r0 r1 → Q' r0 r1) : L_X10_text a1 mem Q → L_X10_text a1 mem Q' := by
  unfold L_X10_text
  repeat' first
    | with_reducible exact id
    | with_reducible exact hq _ _
    | with_reducible refine mo_L_X10_isIn  fun _ _ => ?_
    | with_reducible refine mo_W_X10_readsT fun _ _ => ?_
    | with_reducible refine mo_B_X10_text_61  fun _ _ => ?_
    | with_reducible refine mo_B_X10_text_62  fun _ _ => ?_
    | with_reducible refine mo_L_X10_error  fun _ _ => ?_
    | with_reducible refine And.imp ?_ ?_
    | with_reducible refine all_imp fun _ => ?_
theorem mo_L_X10_law {a1 : Int32} {a2 : Int32} {a3 : Int32} {a4 : Int32} {mem : MMt} {Q Q' : Int32 → MMt → Prop} (hq : ∀ r0 r1, Q r0 r1 → Q' r0 r1) : L_X10_law a1 a2 a3 a4 mem Q → L_X10_law a1 a2 a3 a4 mem Q' := by
  unfold L_X10_law
  repeat' first
    | with_reducible exact id
    | with_reducible exact hq _ _
    | with_reducible refine mo_L_X10_isIn  fun _ _ => ?_
    | with_reducible refine mo_L_X10_error  fun _ _ => ?_
    | with_reducible refine mo_L_X10_gives  fun _ _ => ?_
    | with_reducible refine And.imp ?_ ?_
    | with_reducible refine all_imp fun _ => ?_
theorem mo_B_X10_goes_56 {x1 : Int32} {mem : MMt} {Q Q' : MMt → Prop} (hq : ∀ r0, Q r0 → Q' r0) : B_X10_goes_56 x1 mem Q → B_X10_goes_56 x1 mem Q' := by
  unfold B_X10_goes_56
  repeat' first
    | with_reducible exact id
    | with_reducible exact hq _
    | with_reducible refine mo_L_X10_loadOf  fun _ _ => ?_
    | with_reducible refine mo_L_X10_gives  fun _ _ => ?_
    | with_reducible refine mo_L_X10_within  fun _ _ => ?_
    | with_reducible refine And.imp ?_ ?_
    | with_reducible refine all_imp fun _ => ?_
theorem mo_L_X10_goes {a1 : Int32} {mem : MMt} {Q Q' : MMt → Prop} (hq : ∀ r0, Q r0 → Q' r0) : L_X10_goes a1 mem Q → L_X10_goes a1 mem Q' := by
  unfold L_X10_goes
  repeat' first
    | with_reducible exact id
    | with_reducible exact hq _
    | with_reducible refine mo_L_X10_looksAhead  fun _ => ?_
    | with_reducible refine mo_L_X10_of  fun _ _ => ?_
    | with_reducible refine mo_L_X10_sets  fun _ => ?_
    | with_reducible refine mo_B_X10_goes_56  fun _ => ?_
    | with_reducible refine And.imp ?_ ?_
    | with_reducible refine all_imp fun _ => ?_
theorem mo_B_X10_step_2 {x1 : Int32} {mem : MMt} {Q Q' : MMt → Prop} (hq : ∀ r0, Q r0 → Q' r0) : B_X10_step_2 x1 mem Q → B_X10_step_2 x1 mem Q' := by
  unfold B_X10_step_2
  repeat' first
    | with_reducible exact id
    | with_reducible exact hq _
    | with_reducible refine mo_L_X10_goes  fun _ => ?_
    | with_reducible refine LOOP_imp fun _ _ => ?_
    | with_reducible refine And.imp ?_ ?_
    | with_reducible refine all_imp fun _ => ?_
theorem mo_L_X10_step {mem : MMt} {Q Q' : MMt → Prop} (hq : ∀ r0, Q r0 → Q' r0) : L_X10_step mem Q → L_X10_step mem Q' := by
  unfold L_X10_step
  repeat' first
    | with_reducible exact id
    | with_reducible exact hq _
    | with_reducible refine mo_B_X10_step_2  fun _ => ?_
    | with_reducible refine And.imp ?_ ?_
    | with_reducible refine all_imp fun _ => ?_
theorem mo_B_X10_resting_29 {X4 : Int32 × Int32 × MMt → Prop} {x2 : Int32} {s0 : Int32} {s1 : Int32} {mem : MMt} {Q Q' : Int32 → MMt → Prop} (hq : ∀ r0 r1, Q r0 r1 → Q' r0 r1) : B_X10_resting_29 X4 x2 s0 s1 mem Q → B_X10_resting_29 X4 x2 s0 s1 mem Q' := by
  unfold B_X10_resting_29
  repeat' first
    | with_reducible exact id
    | with_reducible exact hq _ _
    | with_reducible refine And.imp ?_ ?_
    | with_reducible refine all_imp fun _ => ?_
theorem mo_B_X10_resting_4 {x1 : Int32} {x2 : Int32} {mem : MMt} {Q Q' : Int32 → MMt → Prop} (hq : ∀ r0 r1, Q r0 r1 → Q' r0 r1) : B_X10_resting_4 x1 x2 mem Q → B_X10_resting_4 x1 x2 mem Q' := by
  unfold B_X10_resting_4
  repeat' first
    | with_reducible exact id
    | with_reducible exact hq _ _
    | with_reducible refine mo_L_X10_isAtRest  fun _ _ => ?_
    | with_reducible refine mo_B_X10_resting_29  fun _ _ => ?_
    | with_reducible refine LOOP_imp fun _ _ => ?_
    | with_reducible refine And.imp ?_ ?_
    | with_reducible refine all_imp fun _ => ?_
theorem mo_L_X10_resting {mem : MMt} {Q Q' : Int32 → MMt → Prop} (hq : ∀ r0 r1, Q r0 r1 → Q' r0 r1) : L_X10_resting mem Q → L_X10_resting mem Q' := by
  unfold L_X10_resting
  repeat' first
    | with_reducible exact id
    | with_reducible exact hq _ _
    | with_reducible refine mo_B_X10_resting_4  fun _ _ => ?_
    | with_reducible refine And.imp ?_ ?_
    | with_reducible refine all_imp fun _ => ?_
theorem mo_L_X10_draw {mem : MMt} {Q Q' : Int32 → MMt → Prop} (hq : ∀ r0 r1, Q r0 r1 → Q' r0 r1) : L_X10_draw mem Q → L_X10_draw mem Q' := by
  unfold L_X10_draw
  repeat' first
    | with_reducible exact id
    | with_reducible exact hq _ _
    | with_reducible refine And.imp ?_ ?_
    | with_reducible refine all_imp fun _ => ?_
theorem mo_B_X10_goOn_85 {X40 : Int32 × MMt → Prop} {x1 : Int32} {x2 : Int32} {x3 : Int32} {mem : MMt} {Q Q' : Int32 → MMt → Prop} (hq : ∀ r0 r1, Q r0 r1 → Q' r0 r1) : B_X10_goOn_85 X40 x1 x2 x3 mem Q → B_X10_goOn_85 X40 x1 x2 x3 mem Q' := by
  unfold B_X10_goOn_85
  repeat' first
    | with_reducible exact id
    | with_reducible exact hq _ _
    | with_reducible refine mo_L_X10_step  fun _ => ?_
    | with_reducible refine And.imp ?_ ?_
    | with_reducible refine all_imp fun _ => ?_
theorem mo_B_X10_goOn_48 {X40 : Int32 × MMt → Prop} {x1 : Int32} {x2 : Int32} {x3 : Int32} {x4 : Int32} {mem : MMt} {Q Q' : Int32 → MMt → Prop} (hq : ∀ r0 r1, Q r0 r1 → Q' r0 r1) : B_X10_goOn_48 X40 x1 x2 x3 x4 mem Q → B_X10_goOn_48 X40 x1 x2 x3 x4 mem Q' := by
  unfold B_X10_goOn_48
  repeat' first
    | with_reducible exact id
    | with_reducible exact hq _ _
    | with_reducible refine mo_B_X10_goOn_85  fun _ _ => ?_
    | with_reducible refine mo_L_X10_draw  fun _ _ => ?_
    | with_reducible refine mo_L_X10_pushed  fun _ _ => ?_
    | with_reducible refine LOOP_imp fun _ _ => ?_
    | with_reducible refine And.imp ?_ ?_
    | with_reducible refine all_imp fun _ => ?_
theorem mo_B_X10_goOn_40 {x1 : Int32} {x2 : Int32} {x3 : Int32} {mem : MMt} {Q Q' : Int32 → MMt → Prop} (hq : ∀ r0 r1, Q r0 r1 → Q' r0 r1) : B_X10_goOn_40 x1 x2 x3 mem Q → B_X10_goOn_40 x1 x2 x3 mem Q' := by
  unfold B_X10_goOn_40
  repeat' first
    | with_reducible exact id
    | with_reducible exact hq _ _
    | with_reducible refine mo_L_X10_resting  fun _ _ => ?_
    | with_reducible refine mo_B_X10_goOn_48  fun _ _ => ?_
    | with_reducible refine LOOP_imp fun _ _ => ?_
    | with_reducible refine And.imp ?_ ?_
    | with_reducible refine all_imp fun _ => ?_
theorem mo_L_X10_goOn {a1 : Int32} {a2 : Int32} {mem : MMt} {Q Q' : Int32 → MMt → Prop} (hq : ∀ r0 r1, Q r0 r1 → Q' r0 r1) : L_X10_goOn a1 a2 mem Q → L_X10_goOn a1 a2 mem Q' := by
  unfold L_X10_goOn
  repeat' first
    | with_reducible exact id
    | with_reducible exact hq _ _
    | with_reducible refine mo_L_X10_isIn  fun _ _ => ?_
    | with_reducible refine mo_B_X10_goOn_40  fun _ _ => ?_
    | with_reducible refine mo_L_X10_error  fun _ _ => ?_
    | with_reducible refine And.imp ?_ ?_
    | with_reducible refine all_imp fun _ => ?_
theorem mo_L_X10_steps {a1 : Int32} {mem : MMt} {Q Q' : Int32 → MMt → Prop} (hq : ∀ r0 r1, Q r0 r1 → Q' r0 r1) : L_X10_steps a1 mem Q → L_X10_steps a1 mem Q' := by
  unfold L_X10_steps
  repeat' first
    | with_reducible exact id
    | with_reducible exact hq _ _
    | with_reducible refine mo_L_X10_goOn  fun _ _ => ?_
    | with_reducible refine And.imp ?_ ?_
    | with_reducible refine all_imp fun _ => ?_
theorem mo_L_X10_loose {a1 : Int32} {mem : MMt} {Q Q' : Int32 → MMt → Prop} (hq : ∀ r0 r1, Q r0 r1 → Q' r0 r1) : L_X10_loose a1 mem Q → L_X10_loose a1 mem Q' := by
  unfold L_X10_loose
  repeat' first
    | with_reducible exact id
    | with_reducible exact hq _ _
    | with_reducible refine mo_L_X10_goOn  fun _ _ => ?_
    | with_reducible refine And.imp ?_ ?_
    | with_reducible refine all_imp fun _ => ?_
theorem mo_B_X10_saves_26 {x1 : Int32} {mem : MMt} {Q Q' : MMt → Prop} (hq : ∀ r0, Q r0 → Q' r0) : B_X10_saves_26 x1 mem Q → B_X10_saves_26 x1 mem Q' := by
  unfold B_X10_saves_26
  repeat' first
    | with_reducible exact id
    | with_reducible exact hq _
    | with_reducible refine LOOP_imp fun _ _ => ?_
    | with_reducible refine And.imp ?_ ?_
    | with_reducible refine all_imp fun _ => ?_
theorem mo_L_X10_saves {mem : MMt} {Q Q' : MMt → Prop} (hq : ∀ r0, Q r0 → Q' r0) : L_X10_saves mem Q → L_X10_saves mem Q' := by
  unfold L_X10_saves
  repeat' first
    | with_reducible exact id
    | with_reducible exact hq _
    | with_reducible refine mo_B_X10_saves_26  fun _ => ?_
    | with_reducible refine And.imp ?_ ?_
    | with_reducible refine all_imp fun _ => ?_
theorem mo_B_X10_putsBack_26 {x1 : Int32} {mem : MMt} {Q Q' : MMt → Prop} (hq : ∀ r0, Q r0 → Q' r0) : B_X10_putsBack_26 x1 mem Q → B_X10_putsBack_26 x1 mem Q' := by
  unfold B_X10_putsBack_26
  repeat' first
    | with_reducible exact id
    | with_reducible exact hq _
    | with_reducible refine LOOP_imp fun _ _ => ?_
    | with_reducible refine And.imp ?_ ?_
    | with_reducible refine all_imp fun _ => ?_
theorem mo_L_X10_putsBack {mem : MMt} {Q Q' : MMt → Prop} (hq : ∀ r0, Q r0 → Q' r0) : L_X10_putsBack mem Q → L_X10_putsBack mem Q' := by
  unfold L_X10_putsBack
  repeat' first
    | with_reducible exact id
    | with_reducible exact hq _
    | with_reducible refine mo_B_X10_putsBack_26  fun _ => ?_
    | with_reducible refine And.imp ?_ ?_
    | with_reducible refine all_imp fun _ => ?_
theorem mo_B_X10_then_45 {x1 : Int32} {x2 : Int32} {x3 : Int32} {x4 : Int32} {mem : MMt} {Q Q' : Int32 → MMt → Prop} (hq : ∀ r0 r1, Q r0 r1 → Q' r0 r1) : B_X10_then_45 x1 x2 x3 x4 mem Q → B_X10_then_45 x1 x2 x3 x4 mem Q' := by
  unfold B_X10_then_45
  repeat' first
    | with_reducible exact id
    | with_reducible exact hq _ _
    | with_reducible refine mo_L_X10_of  fun _ _ => ?_
    | with_reducible refine mo_L_X10_putsBack  fun _ => ?_
    | with_reducible refine mo_L_X10_step  fun _ => ?_
    | with_reducible refine LOOP_imp fun _ _ => ?_
    | with_reducible refine And.imp ?_ ?_
    | with_reducible refine all_imp fun _ => ?_
theorem mo_L_X10_then {a1 : Int32} {a2 : Int32} {a3 : Int32} {mem : MMt} {Q Q' : Int32 → MMt → Prop} (hq : ∀ r0 r1, Q r0 r1 → Q' r0 r1) : L_X10_then a1 a2 a3 mem Q → L_X10_then a1 a2 a3 mem Q' := by
  unfold L_X10_then
  repeat' first
    | with_reducible exact id
    | with_reducible exact hq _ _
    | with_reducible refine mo_L_X10_isIn  fun _ _ => ?_
    | with_reducible refine mo_L_X10_error  fun _ _ => ?_
    | with_reducible refine mo_L_X10_isGood  fun _ _ => ?_
    | with_reducible refine mo_L_X10_saves  fun _ => ?_
    | with_reducible refine mo_B_X10_then_45  fun _ _ => ?_
    | with_reducible refine And.imp ?_ ?_
    | with_reducible refine all_imp fun _ => ?_
theorem mo_B_X10_restOf_59 {x1 : Int32} {x2 : Int32} {x3 : Int32} {x4 : Int32} {mem : MMt} {Q Q' : Int32 → MMt → Prop} (hq : ∀ r0 r1, Q r0 r1 → Q' r0 r1) : B_X10_restOf_59 x1 x2 x3 x4 mem Q → B_X10_restOf_59 x1 x2 x3 x4 mem Q' := by
  unfold B_X10_restOf_59
  repeat' first
    | with_reducible exact id
    | with_reducible exact hq _ _
    | with_reducible refine mo_L_X10_of  fun _ _ => ?_
    | with_reducible refine mo_L_X10_sets  fun _ => ?_
    | with_reducible refine And.imp ?_ ?_
    | with_reducible refine all_imp fun _ => ?_
theorem mo_B_X10_restOf_17 {x1 : Int32} {x2 : Int32} {x3 : Int32} {x4 : Int32} {mem : MMt} {Q Q' : Int32 → MMt → Prop} (hq : ∀ r0 r1, Q r0 r1 → Q' r0 r1) : B_X10_restOf_17 x1 x2 x3 x4 mem Q → B_X10_restOf_17 x1 x2 x3 x4 mem Q' := by
  unfold B_X10_restOf_17
  repeat' first
    | with_reducible exact id
    | with_reducible exact hq _ _
    | with_reducible refine mo_B_X10_restOf_59  fun _ _ => ?_
    | with_reducible refine mo_L_X10_isAtRest  fun _ _ => ?_
    | with_reducible refine mo_L_X10_sets  fun _ => ?_
    | with_reducible refine LOOP_imp fun _ _ => ?_
    | with_reducible refine And.imp ?_ ?_
    | with_reducible refine all_imp fun _ => ?_
theorem mo_L_X10_restOf {a1 : Int32} {mem : MMt} {Q Q' : Int32 → MMt → Prop} (hq : ∀ r0 r1, Q r0 r1 → Q' r0 r1) : L_X10_restOf a1 mem Q → L_X10_restOf a1 mem Q' := by
  unfold L_X10_restOf
  repeat' first
    | with_reducible exact id
    | with_reducible exact hq _ _
    | with_reducible refine mo_L_X10_of  fun _ _ => ?_
    | with_reducible refine mo_B_X10_restOf_17  fun _ _ => ?_
    | with_reducible refine And.imp ?_ ?_
    | with_reducible refine all_imp fun _ => ?_
theorem mo_L_X10_rests {a1 : Int32} {a2 : Int32} {mem : MMt} {Q Q' : Int32 → MMt → Prop} (hq : ∀ r0 r1, Q r0 r1 → Q' r0 r1) : L_X10_rests a1 a2 mem Q → L_X10_rests a1 a2 mem Q' := by
  unfold L_X10_rests
  repeat' first
    | with_reducible exact id
    | with_reducible exact hq _ _
    | with_reducible refine mo_L_X10_isGood  fun _ _ => ?_
    | with_reducible refine mo_L_X10_error  fun _ _ => ?_
    | with_reducible refine mo_L_X10_isIn  fun _ _ => ?_
    | with_reducible refine mo_L_X10_restOf  fun _ _ => ?_
    | with_reducible refine And.imp ?_ ?_
    | with_reducible refine all_imp fun _ => ?_
theorem mo_B_X10_first_56 {X6 : Int32 × Int32 × Int32 × MMt → Prop} {x3 : Int32} {x4 : Int32} {mem : MMt} {Q Q' : Int32 → MMt → Prop} (hq : ∀ r0 r1, Q r0 r1 → Q' r0 r1) : B_X10_first_56 X6 x3 x4 mem Q → B_X10_first_56 X6 x3 x4 mem Q' := by
  unfold B_X10_first_56
  repeat' first
    | with_reducible exact id
    | with_reducible exact hq _ _
    | with_reducible refine And.imp ?_ ?_
    | with_reducible refine all_imp fun _ => ?_
theorem mo_B_X10_first_6 {x1 : Int32} {x2 : Int32} {x3 : Int32} {mem : MMt} {Q Q' : Int32 → MMt → Prop} (hq : ∀ r0 r1, Q r0 r1 → Q' r0 r1) : B_X10_first_6 x1 x2 x3 mem Q → B_X10_first_6 x1 x2 x3 mem Q' := by
  unfold B_X10_first_6
  repeat' first
    | with_reducible exact id
    | with_reducible exact hq _ _
    | with_reducible refine mo_L_X10_error  fun _ _ => ?_
    | with_reducible refine mo_L_X10_restOf  fun _ _ => ?_
    | with_reducible refine mo_L_X10_isIn  fun _ _ => ?_
    | with_reducible refine mo_B_X10_first_56  fun _ _ => ?_
    | with_reducible refine LOOP_imp fun _ _ => ?_
    | with_reducible refine And.imp ?_ ?_
    | with_reducible refine all_imp fun _ => ?_
theorem mo_L_X10_first {mem : MMt} {Q Q' : Int32 → MMt → Prop} (hq : ∀ r0 r1, Q r0 r1 → Q' r0 r1) : L_X10_first mem Q → L_X10_first mem Q' := by
  unfold L_X10_first
  repeat' first
    | with_reducible exact id
    | with_reducible exact hq _ _
    | with_reducible refine mo_B_X10_first_6  fun _ _ => ?_
    | with_reducible refine And.imp ?_ ?_
    | with_reducible refine all_imp fun _ => ?_
theorem mo_B_X10_overBy_77 {x1 : Int32} {x4 : Int32} {x5 : Int32} {x6 : Int32} {mem : MMt} {Q Q' : Int32 → MMt → Prop} (hq : ∀ r0 r1, Q r0 r1 → Q' r0 r1) : B_X10_overBy_77 x1 x4 x5 x6 mem Q → B_X10_overBy_77 x1 x4 x5 x6 mem Q' := by
  unfold B_X10_overBy_77
  repeat' first
    | with_reducible exact id
    | with_reducible exact hq _ _
    | with_reducible refine mo_L_X10_sets  fun _ => ?_
    | with_reducible refine And.imp ?_ ?_
    | with_reducible refine all_imp fun _ => ?_
theorem mo_B_X10_overBy_26 {x1 : Int32} {x2 : Int32} {x4 : Int32} {x5 : Int32} {x6 : Int32} {mem : MMt} {Q Q' : Int32 → MMt → Prop} (hq : ∀ r0 r1, Q r0 r1 → Q' r0 r1) : B_X10_overBy_26 x1 x2 x4 x5 x6 mem Q → B_X10_overBy_26 x1 x2 x4 x5 x6 mem Q' := by
  unfold B_X10_overBy_26
  repeat' first
    | with_reducible exact id
    | with_reducible exact hq _ _
    | with_reducible refine mo_B_X10_overBy_77  fun _ _ => ?_
    | with_reducible refine mo_L_X10_of  fun _ _ => ?_
    | with_reducible refine mo_L_X10_looksAhead  fun _ => ?_
    | with_reducible refine mo_L_X10_sets  fun _ => ?_
    | with_reducible refine LOOP_imp fun _ _ => ?_
    | with_reducible refine And.imp ?_ ?_
    | with_reducible refine all_imp fun _ => ?_
theorem mo_L_X10_overBy {a1 : Int32} {a2 : Int32} {a3 : Int32} {mem : MMt} {Q Q' : Int32 → MMt → Prop} (hq : ∀ r0 r1, Q r0 r1 → Q' r0 r1) : L_X10_overBy a1 a2 a3 mem Q → L_X10_overBy a1 a2 a3 mem Q' := by
  unfold L_X10_overBy
  repeat' first
    | with_reducible exact id
    | with_reducible exact hq _ _
    | with_reducible refine mo_L_X10_of  fun _ _ => ?_
    | with_reducible refine mo_L_X10_pushed  fun _ _ => ?_
    | with_reducible refine mo_B_X10_overBy_26  fun _ _ => ?_
    | with_reducible refine And.imp ?_ ?_
    | with_reducible refine all_imp fun _ => ?_
theorem mo_L_X10_over {a1 : Int32} {a2 : Int32} {a3 : Int32} {mem : MMt} {Q Q' : Int32 → MMt → Prop} (hq : ∀ r0 r1, Q r0 r1 → Q' r0 r1) : L_X10_over a1 a2 a3 mem Q → L_X10_over a1 a2 a3 mem Q' := by
  unfold L_X10_over
  repeat' first
    | with_reducible exact id
    | with_reducible exact hq _ _
    | with_reducible refine mo_L_X10_isGood  fun _ _ => ?_
    | with_reducible refine mo_L_X10_error  fun _ _ => ?_
    | with_reducible refine mo_L_X10_isSide  fun _ _ => ?_
    | with_reducible refine mo_L_X10_isPush  fun _ _ => ?_
    | with_reducible refine mo_L_X10_overBy  fun _ _ => ?_
    | with_reducible refine And.imp ?_ ?_
    | with_reducible refine all_imp fun _ => ?_
theorem mo_L_X10_pushOf {a1 : Int32} {mem : MMt} {Q Q' : Int32 → MMt → Prop} (hq : ∀ r0 r1, Q r0 r1 → Q' r0 r1) : L_X10_pushOf a1 mem Q → L_X10_pushOf a1 mem Q' := by
  unfold L_X10_pushOf
  repeat' first
    | with_reducible exact id
    | with_reducible exact hq _ _
    | with_reducible refine And.imp ?_ ?_
    | with_reducible refine all_imp fun _ => ?_
theorem mo_B_X10_soonest_77 {X40 : Int32 × Int32 × Int32 × MMt → Prop} {x1 : Int32} {x2 : Int32} {x3 : Int32} {x6 : Int32} {x7 : Int32} {mem : MMt} {Q Q' : Int32 → MMt → Prop} (hq : ∀ r0 r1, Q r0 r1 → Q' r0 r1) : B_X10_soonest_77 X40 x1 x2 x3 x6 x7 mem Q → B_X10_soonest_77 X40 x1 x2 x3 x6 x7 mem Q' := by
  unfold B_X10_soonest_77
  repeat' first
    | with_reducible exact id
    | with_reducible exact hq _ _
    | with_reducible refine mo_L_X10_pushOf  fun _ _ => ?_
    | with_reducible refine And.imp ?_ ?_
    | with_reducible refine all_imp fun _ => ?_
theorem mo_B_X10_soonest_40 {x1 : Int32} {x2 : Int32} {x3 : Int32} {x4 : Int32} {x5 : Int32} {x6 : Int32} {mem : MMt} {Q Q' : Int32 → MMt → Prop} (hq : ∀ r0 r1, Q r0 r1 → Q' r0 r1) : B_X10_soonest_40 x1 x2 x3 x4 x5 x6 mem Q → B_X10_soonest_40 x1 x2 x3 x4 x5 x6 mem Q' := by
  unfold B_X10_soonest_40
  repeat' first
    | with_reducible exact id
    | with_reducible exact hq _ _
    | with_reducible refine mo_L_X10_error  fun _ _ => ?_
    | with_reducible refine mo_L_X10_pushOf  fun _ _ => ?_
    | with_reducible refine mo_L_X10_overBy  fun _ _ => ?_
    | with_reducible refine mo_B_X10_soonest_77  fun _ _ => ?_
    | with_reducible refine LOOP_imp fun _ _ => ?_
    | with_reducible refine And.imp ?_ ?_
    | with_reducible refine all_imp fun _ => ?_
theorem mo_L_X10_soonest {a1 : Int32} {a2 : Int32} {a3 : Int32} {mem : MMt} {Q Q' : Int32 → MMt → Prop} (hq : ∀ r0 r1, Q r0 r1 → Q' r0 r1) : L_X10_soonest a1 a2 a3 mem Q → L_X10_soonest a1 a2 a3 mem Q' := by
  unfold L_X10_soonest
  repeat' first
    | with_reducible exact id
    | with_reducible exact hq _ _
    | with_reducible refine mo_L_X10_isGood  fun _ _ => ?_
    | with_reducible refine mo_L_X10_error  fun _ _ => ?_
    | with_reducible refine mo_L_X10_isSide  fun _ _ => ?_
    | with_reducible refine mo_L_X10_isIn  fun _ _ => ?_
    | with_reducible refine mo_B_X10_soonest_40  fun _ _ => ?_
    | with_reducible refine And.imp ?_ ?_
    | with_reducible refine all_imp fun _ => ?_
theorem mo_B_X10_least_23 {x1 : Int32} {x2 : Int32} {x3 : Int32} {mem : MMt} {Q Q' : Int32 → MMt → Prop} (hq : ∀ r0 r1, Q r0 r1 → Q' r0 r1) : B_X10_least_23 x1 x2 x3 mem Q → B_X10_least_23 x1 x2 x3 mem Q' := by
  unfold B_X10_least_23
  repeat' first
    | with_reducible exact id
    | with_reducible exact hq _ _
    | with_reducible refine mo_L_X10_error  fun _ _ => ?_
    | with_reducible refine mo_L_X10_pushOf  fun _ _ => ?_
    | with_reducible refine mo_L_X10_overBy  fun _ _ => ?_
    | with_reducible refine LOOP_imp fun _ _ => ?_
    | with_reducible refine And.imp ?_ ?_
    | with_reducible refine all_imp fun _ => ?_
theorem mo_L_X10_least {a1 : Int32} {a2 : Int32} {mem : MMt} {Q Q' : Int32 → MMt → Prop} (hq : ∀ r0 r1, Q r0 r1 → Q' r0 r1) : L_X10_least a1 a2 mem Q → L_X10_least a1 a2 mem Q' := by
  unfold L_X10_least
  repeat' first
    | with_reducible exact id
    | with_reducible exact hq _ _
    | with_reducible refine mo_L_X10_isGood  fun _ _ => ?_
    | with_reducible refine mo_L_X10_error  fun _ _ => ?_
    | with_reducible refine mo_L_X10_isSide  fun _ _ => ?_
    | with_reducible refine mo_B_X10_least_23  fun _ _ => ?_
    | with_reducible refine And.imp ?_ ?_
    | with_reducible refine all_imp fun _ => ?_
theorem mo_B_X10_pairs_178 {R_X10_pairs : Int32 → Int32 → Int32 → Int32 → MMt → (MMt → Prop) → Prop} {x1 : Int32} {x2 : Int32} {x3 : Int32} {x4 : Int32} {mem : MMt} {Q Q' : MMt → Prop} (hR_X10_pairs : ∀ (v0 : Int32) (v1 : Int32) (v2 : Int32) (v3 : Int32) (m : MMt) (Q Q' : MMt → Prop), (∀ r0, Q r0 → Q' r0) → R_X10_pairs v0 v1 v2 v3 m Q → R_X10_pairs v0 v1 v2 v3 m Q') (hq : ∀ r0, Q r0 → Q' r0) : B_X10_pairs_178 R_X10_pairs x1 x2 x3 x4 mem Q → B_X10_pairs_178 R_X10_pairs x1 x2 x3 x4 mem Q' := by
  unfold B_X10_pairs_178
  repeat' first
    | with_reducible exact id
    | with_reducible exact hq _
    | with_reducible refine hR_X10_pairs _ _ _ _ _ _ _ fun _ => ?_
    | with_reducible refine And.imp ?_ ?_
    | with_reducible refine all_imp fun _ => ?_
theorem mo_B_X10_pairs_88 {R_X10_pairs : Int32 → Int32 → Int32 → Int32 → MMt → (MMt → Prop) → Prop} {x1 : Int32} {x2 : Int32} {x3 : Int32} {x4 : Int32} {x5 : Int32} {mem : MMt} {Q Q' : MMt → Prop} (hR_X10_pairs : ∀ (v0 : Int32) (v1 : Int32) (v2 : Int32) (v3 : Int32) (m : MMt) (Q Q' : MMt → Prop), (∀ r0, Q r0 → Q' r0) → R_X10_pairs v0 v1 v2 v3 m Q → R_X10_pairs v0 v1 v2 v3 m Q') (hq : ∀ r0, Q r0 → Q' r0) : B_X10_pairs_88 R_X10_pairs x1 x2 x3 x4 x5 mem Q → B_X10_pairs_88 R_X10_pairs x1 x2 x3 x4 x5 mem Q' := by
  unfold B_X10_pairs_88
  repeat' first
    | with_reducible exact id
    | with_reducible exact hq _
    | with_reducible refine hR_X10_pairs _ _ _ _ _ _ _ fun _ => ?_
    | with_reducible refine mo_B_X10_pairs_178 hR_X10_pairs fun _ => ?_
    | with_reducible refine mo_L_X10_of  fun _ _ => ?_
    | with_reducible refine mo_L_X10_loadOf  fun _ _ => ?_
    | with_reducible refine mo_L_X10_size  fun _ _ => ?_
    | with_reducible refine LOOP_imp fun _ _ => ?_
    | with_reducible refine And.imp ?_ ?_
    | with_reducible refine all_imp fun _ => ?_
theorem mo_B_X10_pairs_50 {R_X10_pairs : Int32 → Int32 → Int32 → Int32 → MMt → (MMt → Prop) → Prop} {x5 : Int32} {mem : MMt} {Q Q' : MMt → Prop} (hR_X10_pairs : ∀ (v0 : Int32) (v1 : Int32) (v2 : Int32) (v3 : Int32) (m : MMt) (Q Q' : MMt → Prop), (∀ r0, Q r0 → Q' r0) → R_X10_pairs v0 v1 v2 v3 m Q → R_X10_pairs v0 v1 v2 v3 m Q') (hq : ∀ r0, Q r0 → Q' r0) : B_X10_pairs_50 R_X10_pairs x5 mem Q → B_X10_pairs_50 R_X10_pairs x5 mem Q' := by
  unfold B_X10_pairs_50
  repeat' first
    | with_reducible exact id
    | with_reducible exact hq _
    | with_reducible refine hR_X10_pairs _ _ _ _ _ _ _ fun _ => ?_
    | with_reducible refine LOOP_imp fun _ _ => ?_
    | with_reducible refine And.imp ?_ ?_
    | with_reducible refine all_imp fun _ => ?_
theorem mo_B_X10_pairs_36 {R_X10_pairs : Int32 → Int32 → Int32 → Int32 → MMt → (MMt → Prop) → Prop} {x3 : Int32} {x4 : Int32} {mem : MMt} {Q Q' : MMt → Prop} (hR_X10_pairs : ∀ (v0 : Int32) (v1 : Int32) (v2 : Int32) (v3 : Int32) (m : MMt) (Q Q' : MMt → Prop), (∀ r0, Q r0 → Q' r0) → R_X10_pairs v0 v1 v2 v3 m Q → R_X10_pairs v0 v1 v2 v3 m Q') (hq : ∀ r0, Q r0 → Q' r0) : B_X10_pairs_36 R_X10_pairs x3 x4 mem Q → B_X10_pairs_36 R_X10_pairs x3 x4 mem Q' := by
  unfold B_X10_pairs_36
  repeat' first
    | with_reducible exact id
    | with_reducible exact hq _
    | with_reducible refine hR_X10_pairs _ _ _ _ _ _ _ fun _ => ?_
    | with_reducible refine mo_B_X10_pairs_50 hR_X10_pairs fun _ => ?_
    | with_reducible refine And.imp ?_ ?_
    | with_reducible refine all_imp fun _ => ?_
theorem mo_L_X10_pairs {R_X10_pairs : Int32 → Int32 → Int32 → Int32 → MMt → (MMt → Prop) → Prop} {a1 : Int32} {a2 : Int32} {a3 : Int32} {a4 : Int32} {mem : MMt} {Q Q' : MMt → Prop} (hR_X10_pairs : ∀ (v0 : Int32) (v1 : Int32) (v2 : Int32) (v3 : Int32) (m : MMt) (Q Q' : MMt → Prop), (∀ r0, Q r0 → Q' r0) → R_X10_pairs v0 v1 v2 v3 m Q → R_X10_pairs v0 v1 v2 v3 m Q') (hq : ∀ r0, Q r0 → Q' r0) : L_X10_pairs R_X10_pairs a1 a2 a3 a4 mem Q → L_X10_pairs R_X10_pairs a1 a2 a3 a4 mem Q' := by
  unfold L_X10_pairs
  repeat' first
    | with_reducible exact id
    | with_reducible exact hq _
    | with_reducible refine hR_X10_pairs _ _ _ _ _ _ _ fun _ => ?_
    | with_reducible refine mo_B_X10_pairs_88 hR_X10_pairs fun _ => ?_
    | with_reducible refine mo_B_X10_pairs_36 hR_X10_pairs fun _ => ?_
    | with_reducible refine And.imp ?_ ?_
    | with_reducible refine all_imp fun _ => ?_
theorem mo_WW_X10_pairs : ∀ n : Nat, (∀ (a1 : Int32) (a2 : Int32) (a3 : Int32) (a4 : Int32) (m : MMt) (Q Q' : MMt → Prop), (∀ r0, Q r0 → Q' r0) → (WW_X10_pairs n) a1 a2 a3 a4 m Q → (WW_X10_pairs n) a1 a2 a3 a4 m Q')
  | 0 => fun _ _ _ _ _ _ _ _ h => h.elim
  | n + 1 => fun _ _ _ _ _ _ _ hq h => mo_L_X10_pairs (mo_WW_X10_pairs n) hq h
theorem mo_W_X10_pairs {n : Nat} {a1 : Int32} {a2 : Int32} {a3 : Int32} {a4 : Int32} {mem : MMt} {Q Q' : MMt → Prop} (hq : ∀ r0, Q r0 → Q' r0) : W_X10_pairs n a1 a2 a3 a4 mem Q → W_X10_pairs n a1 a2 a3 a4 mem Q' := fun h => (mo_WW_X10_pairs n) _ _ _ _ _ _ _ hq h
theorem mo_B_X10_mateOf_2 {x1 : Int32} {x2 : Int32} {mem : MMt} {Q Q' : Int32 → MMt → Prop} (hq : ∀ r0 r1, Q r0 r1 → Q' r0 r1) : B_X10_mateOf_2 x1 x2 mem Q → B_X10_mateOf_2 x1 x2 mem Q' := by
  unfold B_X10_mateOf_2
  repeat' first
    | with_reducible exact id
    | with_reducible exact hq _ _
    | with_reducible refine LOOP_imp fun _ _ => ?_
    | with_reducible refine And.imp ?_ ?_
    | with_reducible refine all_imp fun _ => ?_
theorem mo_L_X10_mateOf {a1 : Int32} {mem : MMt} {Q Q' : Int32 → MMt → Prop} (hq : ∀ r0 r1, Q r0 r1 → Q' r0 r1) : L_X10_mateOf a1 mem Q → L_X10_mateOf a1 mem Q' := by
  unfold L_X10_mateOf
  repeat' first
    | with_reducible exact id
    | with_reducible exact hq _ _
    | with_reducible refine mo_B_X10_mateOf_2  fun _ _ => ?_
    | with_reducible refine And.imp ?_ ?_
    | with_reducible refine all_imp fun _ => ?_
theorem mo_L_X10_lifts {a1 : Int32} {mem : MMt} {Q Q' : Int32 → MMt → Prop} (hq : ∀ r0 r1, Q r0 r1 → Q' r0 r1) : L_X10_lifts a1 mem Q → L_X10_lifts a1 mem Q' := by
  unfold L_X10_lifts
  repeat' first
    | with_reducible exact id
    | with_reducible exact hq _ _
    | with_reducible refine mo_L_X10_isIn  fun _ _ => ?_
    | with_reducible refine mo_W_X10_pairs fun _ => ?_
    | with_reducible refine mo_L_X10_mateOf  fun _ _ => ?_
    | with_reducible refine mo_L_X10_error  fun _ _ => ?_
    | with_reducible refine And.imp ?_ ?_
    | with_reducible refine all_imp fun _ => ?_
theorem mo_L_X10_isSheet {a1 : Int32} {mem : MMt} {Q Q' : Int32 → MMt → Prop} (hq : ∀ r0 r1, Q r0 r1 → Q' r0 r1) : L_X10_isSheet a1 mem Q → L_X10_isSheet a1 mem Q' := by
  unfold L_X10_isSheet
  repeat' first
    | with_reducible exact id
    | with_reducible exact hq _ _
    | with_reducible refine mo_L_X10_isIn  fun _ _ => ?_
    | with_reducible refine And.imp ?_ ?_
    | with_reducible refine all_imp fun _ => ?_
theorem mo_B_X10_goesSo_94 {x1 : Int32} {x3 : Int32} {x4 : Int32} {x5 : Int32} {mem : MMt} {Q Q' : Int32 → MMt → Prop} (hq : ∀ r0 r1, Q r0 r1 → Q' r0 r1) : B_X10_goesSo_94 x1 x3 x4 x5 mem Q → B_X10_goesSo_94 x1 x3 x4 x5 mem Q' := by
  unfold B_X10_goesSo_94
  repeat' first
    | with_reducible exact id
    | with_reducible exact hq _ _
    | with_reducible refine mo_L_X10_sets  fun _ => ?_
    | with_reducible refine And.imp ?_ ?_
    | with_reducible refine all_imp fun _ => ?_
theorem mo_B_X10_goesSo_86 {X21 : Int32 × Int32 × MMt → Prop} {x1 : Int32} {x2 : Int32} {x3 : Int32} {x4 : Int32} {x6 : Int32} {s0 : Int32} {mem : MMt} {Q Q' : Int32 → MMt → Prop} (hq : ∀ r0 r1, Q r0 r1 → Q' r0 r1) : B_X10_goesSo_86 X21 x1 x2 x3 x4 x6 s0 mem Q → B_X10_goesSo_86 X21 x1 x2 x3 x4 x6 s0 mem Q' := by
  unfold B_X10_goesSo_86
  repeat' first
    | with_reducible exact id
    | with_reducible exact hq _ _
    | with_reducible refine And.imp ?_ ?_
    | with_reducible refine all_imp fun _ => ?_
theorem mo_B_X10_goesSo_21 {x1 : Int32} {x2 : Int32} {x3 : Int32} {x4 : Int32} {x5 : Int32} {x6 : Int32} {mem : MMt} {Q Q' : Int32 → MMt → Prop} (hq : ∀ r0 r1, Q r0 r1 → Q' r0 r1) : B_X10_goesSo_21 x1 x2 x3 x4 x5 x6 mem Q → B_X10_goesSo_21 x1 x2 x3 x4 x5 x6 mem Q' := by
  unfold B_X10_goesSo_21
  repeat' first
    | with_reducible exact id
    | with_reducible exact hq _ _
    | with_reducible refine mo_B_X10_goesSo_94  fun _ _ => ?_
    | with_reducible refine mo_L_X10_looksAhead  fun _ => ?_
    | with_reducible refine mo_L_X10_sets  fun _ => ?_
    | with_reducible refine mo_B_X10_goesSo_86  fun _ _ => ?_
    | with_reducible refine LOOP_imp fun _ _ => ?_
    | with_reducible refine And.imp ?_ ?_
    | with_reducible refine all_imp fun _ => ?_
theorem mo_L_X10_goesSo {a1 : Int32} {a2 : Int32} {mem : MMt} {Q Q' : Int32 → MMt → Prop} (hq : ∀ r0 r1, Q r0 r1 → Q' r0 r1) : L_X10_goesSo a1 a2 mem Q → L_X10_goesSo a1 a2 mem Q' := by
  unfold L_X10_goesSo
  repeat' first
    | with_reducible exact id
    | with_reducible exact hq _ _
    | with_reducible refine mo_L_X10_of  fun _ _ => ?_
    | with_reducible refine mo_B_X10_goesSo_21  fun _ _ => ?_
    | with_reducible refine And.imp ?_ ?_
    | with_reducible refine all_imp fun _ => ?_
theorem mo_B_X10_rolled_64 {x1 : Int32} {x2 : Int32} {x3 : Int32} {x4 : Int32} {x5 : Int32} {x6 : Int32} {x7 : Int32} {mem : MMt} {Q Q' : Int32 → MMt → Prop} (hq : ∀ r0 r1, Q r0 r1 → Q' r0 r1) : B_X10_rolled_64 x1 x2 x3 x4 x5 x6 x7 mem Q → B_X10_rolled_64 x1 x2 x3 x4 x5 x6 x7 mem Q' := by
  unfold B_X10_rolled_64
  repeat' first
    | with_reducible exact id
    | with_reducible exact hq _ _
    | with_reducible refine mo_L_X10_sets  fun _ => ?_
    | with_reducible refine mo_L_X10_error  fun _ _ => ?_
    | with_reducible refine mo_L_X10_goesSo  fun _ _ => ?_
    | with_reducible refine LOOP_imp fun _ _ => ?_
    | with_reducible refine And.imp ?_ ?_
    | with_reducible refine all_imp fun _ => ?_
theorem mo_L_X10_rolled {a1 : Int32} {a2 : Int32} {a3 : Int32} {mem : MMt} {Q Q' : Int32 → MMt → Prop} (hq : ∀ r0 r1, Q r0 r1 → Q' r0 r1) : L_X10_rolled a1 a2 a3 mem Q → L_X10_rolled a1 a2 a3 mem Q' := by
  unfold L_X10_rolled
  repeat' first
    | with_reducible exact id
    | with_reducible exact hq _ _
    | with_reducible refine mo_L_X10_isGood  fun _ _ => ?_
    | with_reducible refine mo_L_X10_error  fun _ _ => ?_
    | with_reducible refine mo_L_X10_isSheet  fun _ _ => ?_
    | with_reducible refine mo_L_X10_isIn  fun _ _ => ?_
    | with_reducible refine mo_L_X10_of  fun _ _ => ?_
    | with_reducible refine mo_B_X10_rolled_64  fun _ _ => ?_
    | with_reducible refine And.imp ?_ ?_
    | with_reducible refine all_imp fun _ => ?_
theorem mo_B_X10_whose_79 {X50 : Int32 × Int32 × MMt → Prop} {x1 : Int32} {x2 : Int32} {x3 : Int32} {x5 : Int32} {s0 : Int32} {mem : MMt} {Q Q' : Int32 → MMt → Prop} (hq : ∀ r0 r1, Q r0 r1 → Q' r0 r1) : B_X10_whose_79 X50 x1 x2 x3 x5 s0 mem Q → B_X10_whose_79 X50 x1 x2 x3 x5 s0 mem Q' := by
  unfold B_X10_whose_79
  repeat' first
    | with_reducible exact id
    | with_reducible exact hq _ _
    | with_reducible refine And.imp ?_ ?_
    | with_reducible refine all_imp fun _ => ?_
theorem mo_B_X10_whose_50 {x1 : Int32} {x2 : Int32} {x3 : Int32} {x4 : Int32} {x5 : Int32} {mem : MMt} {Q Q' : Int32 → MMt → Prop} (hq : ∀ r0 r1, Q r0 r1 → Q' r0 r1) : B_X10_whose_50 x1 x2 x3 x4 x5 mem Q → B_X10_whose_50 x1 x2 x3 x4 x5 mem Q' := by
  unfold B_X10_whose_50
  repeat' first
    | with_reducible exact id
    | with_reducible exact hq _ _
    | with_reducible refine mo_L_X10_sets  fun _ => ?_
    | with_reducible refine mo_L_X10_error  fun _ _ => ?_
    | with_reducible refine mo_L_X10_goesSo  fun _ _ => ?_
    | with_reducible refine mo_B_X10_whose_79  fun _ _ => ?_
    | with_reducible refine LOOP_imp fun _ _ => ?_
    | with_reducible refine And.imp ?_ ?_
    | with_reducible refine all_imp fun _ => ?_
theorem mo_L_X10_whose {a1 : Int32} {a2 : Int32} {mem : MMt} {Q Q' : Int32 → MMt → Prop} (hq : ∀ r0 r1, Q r0 r1 → Q' r0 r1) : L_X10_whose a1 a2 mem Q → L_X10_whose a1 a2 mem Q' := by
  unfold L_X10_whose
  repeat' first
    | with_reducible exact id
    | with_reducible exact hq _ _
    | with_reducible refine mo_L_X10_isGood  fun _ _ => ?_
    | with_reducible refine mo_L_X10_error  fun _ _ => ?_
    | with_reducible refine mo_L_X10_isSheet  fun _ _ => ?_
    | with_reducible refine mo_L_X10_of  fun _ _ => ?_
    | with_reducible refine mo_B_X10_whose_50  fun _ _ => ?_
    | with_reducible refine And.imp ?_ ?_
    | with_reducible refine all_imp fun _ => ?_
theorem mo_B_X10_manyOver_65 {R_X10_manyOver : Int32 → Int32 → Int32 → Int32 → MMt → (Int32 → MMt → Prop) → Prop} {X54 : Int32 × Int32 × MMt → Prop} {x1 : Int32} {x2 : Int32} {x3 : Int32} {x4 : Int32} {x5 : Int32} {x6 : Int32} {x7 : Int32} {x8 : Int32} {s0 : Int32} {s1 : Int32} {mem : MMt} {Q Q' : Int32 → MMt → Prop} (hR_X10_manyOver : ∀ (v0 : Int32) (v1 : Int32) (v2 : Int32) (v3 : Int32) (m : MMt) (Q Q' : Int32 → MMt → Prop), (∀ r0 r1, Q r0 r1 → Q' r0 r1) → R_X10_manyOver v0 v1 v2 v3 m Q → R_X10_manyOver v0 v1 v2 v3 m Q') (hq : ∀ r0 r1, Q r0 r1 → Q' r0 r1) : B_X10_manyOver_65 R_X10_manyOver X54 x1 x2 x3 x4 x5 x6 x7 x8 s0 s1 mem Q → B_X10_manyOver_65 R_X10_manyOver X54 x1 x2 x3 x4 x5 x6 x7 x8 s0 s1 mem Q' := by
  unfold B_X10_manyOver_65
  repeat' first
    | with_reducible exact id
    | with_reducible exact hq _ _
    | with_reducible refine hR_X10_manyOver _ _ _ _ _ _ _ fun _ _ => ?_
    | with_reducible refine mo_L_X10_within  fun _ _ => ?_
    | with_reducible refine mo_L_X10_sets  fun _ => ?_
    | with_reducible refine mo_L_X10_looksAhead  fun _ => ?_
    | with_reducible refine And.imp ?_ ?_
    | with_reducible refine all_imp fun _ => ?_
theorem mo_B_X10_manyOver_54 {R_X10_manyOver : Int32 → Int32 → Int32 → Int32 → MMt → (Int32 → MMt → Prop) → Prop} {x1 : Int32} {x2 : Int32} {x3 : Int32} {x4 : Int32} {x5 : Int32} {x6 : Int32} {x7 : Int32} {x8 : Int32} {mem : MMt} {Q Q' : Int32 → MMt → Prop} (hR_X10_manyOver : ∀ (v0 : Int32) (v1 : Int32) (v2 : Int32) (v3 : Int32) (m : MMt) (Q Q' : Int32 → MMt → Prop), (∀ r0 r1, Q r0 r1 → Q' r0 r1) → R_X10_manyOver v0 v1 v2 v3 m Q → R_X10_manyOver v0 v1 v2 v3 m Q') (hq : ∀ r0 r1, Q r0 r1 → Q' r0 r1) : B_X10_manyOver_54 R_X10_manyOver x1 x2 x3 x4 x5 x6 x7 x8 mem Q → B_X10_manyOver_54 R_X10_manyOver x1 x2 x3 x4 x5 x6 x7 x8 mem Q' := by
  unfold B_X10_manyOver_54
  repeat' first
    | with_reducible exact id
    | with_reducible exact hq _ _
    | with_reducible refine hR_X10_manyOver _ _ _ _ _ _ _ fun _ _ => ?_
    | with_reducible refine mo_B_X10_manyOver_65 hR_X10_manyOver fun _ _ => ?_
    | with_reducible refine LOOP_imp fun _ _ => ?_
    | with_reducible refine And.imp ?_ ?_
    | with_reducible refine all_imp fun _ => ?_
theorem mo_L_X10_manyOver {R_X10_manyOver : Int32 → Int32 → Int32 → Int32 → MMt → (Int32 → MMt → Prop) → Prop} {a1 : Int32} {a2 : Int32} {a3 : Int32} {a4 : Int32} {mem : MMt} {Q Q' : Int32 → MMt → Prop} (hR_X10_manyOver : ∀ (v0 : Int32) (v1 : Int32) (v2 : Int32) (v3 : Int32) (m : MMt) (Q Q' : Int32 → MMt → Prop), (∀ r0 r1, Q r0 r1 → Q' r0 r1) → R_X10_manyOver v0 v1 v2 v3 m Q → R_X10_manyOver v0 v1 v2 v3 m Q') (hq : ∀ r0 r1, Q r0 r1 → Q' r0 r1) : L_X10_manyOver R_X10_manyOver a1 a2 a3 a4 mem Q → L_X10_manyOver R_X10_manyOver a1 a2 a3 a4 mem Q' := by
  unfold L_X10_manyOver
  repeat' first
    | with_reducible exact id
    | with_reducible exact hq _ _
    | with_reducible refine hR_X10_manyOver _ _ _ _ _ _ _ fun _ _ => ?_
    | with_reducible refine mo_L_X10_of  fun _ _ => ?_
    | with_reducible refine mo_B_X10_manyOver_54 hR_X10_manyOver fun _ _ => ?_
    | with_reducible refine And.imp ?_ ?_
    | with_reducible refine all_imp fun _ => ?_
theorem mo_WW_X10_manyOver : ∀ n : Nat, (∀ (a1 : Int32) (a2 : Int32) (a3 : Int32) (a4 : Int32) (m : MMt) (Q Q' : Int32 → MMt → Prop), (∀ r0 r1, Q r0 r1 → Q' r0 r1) → (WW_X10_manyOver n) a1 a2 a3 a4 m Q → (WW_X10_manyOver n) a1 a2 a3 a4 m Q')
  | 0 => fun _ _ _ _ _ _ _ _ h => h.elim
  | n + 1 => fun _ _ _ _ _ _ _ hq h => mo_L_X10_manyOver (mo_WW_X10_manyOver n) hq h
theorem mo_W_X10_manyOver {n : Nat} {a1 : Int32} {a2 : Int32} {a3 : Int32} {a4 : Int32} {mem : MMt} {Q Q' : Int32 → MMt → Prop} (hq : ∀ r0 r1, Q r0 r1 → Q' r0 r1) : W_X10_manyOver n a1 a2 a3 a4 mem Q → W_X10_manyOver n a1 a2 a3 a4 mem Q' := fun h => (mo_WW_X10_manyOver n) _ _ _ _ _ _ _ hq h
theorem mo_B_X10_odds_108 {x4 : Int32} {x5 : Int32} {x6 : Int32} {mem : MMt} {Q Q' : Int32 → MMt → Prop} (hq : ∀ r0 r1, Q r0 r1 → Q' r0 r1) : B_X10_odds_108 x4 x5 x6 mem Q → B_X10_odds_108 x4 x5 x6 mem Q' := by
  unfold B_X10_odds_108
  repeat' first
    | with_reducible exact id
    | with_reducible exact hq _ _
    | with_reducible refine And.imp ?_ ?_
    | with_reducible refine all_imp fun _ => ?_
theorem mo_B_X10_odds_79 {x4 : Int32} {x5 : Int32} {x6 : Int32} {mem : MMt} {Q Q' : Int32 → MMt → Prop} (hq : ∀ r0 r1, Q r0 r1 → Q' r0 r1) : B_X10_odds_79 x4 x5 x6 mem Q → B_X10_odds_79 x4 x5 x6 mem Q' := by
  unfold B_X10_odds_79
  repeat' first
    | with_reducible exact id
    | with_reducible exact hq _ _
    | with_reducible refine mo_B_X10_odds_108  fun _ _ => ?_
    | with_reducible refine LOOP_imp fun _ _ => ?_
    | with_reducible refine And.imp ?_ ?_
    | with_reducible refine all_imp fun _ => ?_
theorem mo_B_X10_odds_50 {x1 : Int32} {x2 : Int32} {x3 : Int32} {x4 : Int32} {x5 : Int32} {x6 : Int32} {mem : MMt} {Q Q' : Int32 → MMt → Prop} (hq : ∀ r0 r1, Q r0 r1 → Q' r0 r1) : B_X10_odds_50 x1 x2 x3 x4 x5 x6 mem Q → B_X10_odds_50 x1 x2 x3 x4 x5 x6 mem Q' := by
  unfold B_X10_odds_50
  repeat' first
    | with_reducible exact id
    | with_reducible exact hq _ _
    | with_reducible refine mo_W_X10_manyOver fun _ _ => ?_
    | with_reducible refine mo_B_X10_odds_79  fun _ _ => ?_
    | with_reducible refine LOOP_imp fun _ _ => ?_
    | with_reducible refine And.imp ?_ ?_
    | with_reducible refine all_imp fun _ => ?_
theorem mo_L_X10_odds {a1 : Int32} {a2 : Int32} {a3 : Int32} {a4 : Int32} {mem : MMt} {Q Q' : Int32 → MMt → Prop} (hq : ∀ r0 r1, Q r0 r1 → Q' r0 r1) : L_X10_odds a1 a2 a3 a4 mem Q → L_X10_odds a1 a2 a3 a4 mem Q' := by
  unfold L_X10_odds
  repeat' first
    | with_reducible exact id
    | with_reducible exact hq _ _
    | with_reducible refine mo_L_X10_isGood  fun _ _ => ?_
    | with_reducible refine mo_L_X10_error  fun _ _ => ?_
    | with_reducible refine mo_L_X10_isSide  fun _ _ => ?_
    | with_reducible refine mo_L_X10_isIn  fun _ _ => ?_
    | with_reducible refine mo_B_X10_odds_50  fun _ _ => ?_
    | with_reducible refine And.imp ?_ ?_
    | with_reducible refine all_imp fun _ => ?_
theorem mo_L_X10_seed {a1 : Int32} {mem : MMt} {Q Q' : Int32 → MMt → Prop} (hq : ∀ r0 r1, Q r0 r1 → Q' r0 r1) : L_X10_seed a1 mem Q → L_X10_seed a1 mem Q' := by
  unfold L_X10_seed
  repeat' first
    | with_reducible exact id
    | with_reducible exact hq _ _
    | with_reducible refine And.imp ?_ ?_
    | with_reducible refine all_imp fun _ => ?_
theorem mo_L_X10_begins {a1 : Int32} {mem : MMt} {Q Q' : MMt → Prop} (hq : ∀ r0, Q r0 → Q' r0) : L_X10_begins a1 mem Q → L_X10_begins a1 mem Q' := by
  unfold L_X10_begins
  repeat' first
    | with_reducible exact id
    | with_reducible exact hq _
    | with_reducible refine And.imp ?_ ?_
    | with_reducible refine all_imp fun _ => ?_
theorem mo_L_X10_above {a1 : Int32} {mem : MMt} {Q Q' : Int32 → MMt → Prop} (hq : ∀ r0 r1, Q r0 r1 → Q' r0 r1) : L_X10_above a1 mem Q → L_X10_above a1 mem Q' := by
  unfold L_X10_above
  repeat' first
    | with_reducible exact id
    | with_reducible exact hq _ _
    | with_reducible refine And.imp ?_ ?_
    | with_reducible refine all_imp fun _ => ?_
theorem mo_L_X10_floats {R_X10_floats : Int32 → Int32 → MMt → (Int32 → MMt → Prop) → Prop} {a1 : Int32} {a2 : Int32} {mem : MMt} {Q Q' : Int32 → MMt → Prop} (hR_X10_floats : ∀ (v0 : Int32) (v1 : Int32) (m : MMt) (Q Q' : Int32 → MMt → Prop), (∀ r0 r1, Q r0 r1 → Q' r0 r1) → R_X10_floats v0 v1 m Q → R_X10_floats v0 v1 m Q') (hq : ∀ r0 r1, Q r0 r1 → Q' r0 r1) : L_X10_floats R_X10_floats a1 a2 mem Q → L_X10_floats R_X10_floats a1 a2 mem Q' := by
  unfold L_X10_floats
  repeat' first
    | with_reducible exact id
    | with_reducible exact hq _ _
    | with_reducible refine hR_X10_floats _ _ _ _ _ fun _ _ => ?_
    | with_reducible refine mo_L_X10_begins  fun _ => ?_
    | with_reducible refine mo_L_X10_above  fun _ _ => ?_
    | with_reducible refine And.imp ?_ ?_
    | with_reducible refine all_imp fun _ => ?_
theorem mo_WW_X10_floats : ∀ n : Nat, (∀ (a1 : Int32) (a2 : Int32) (m : MMt) (Q Q' : Int32 → MMt → Prop), (∀ r0 r1, Q r0 r1 → Q' r0 r1) → (WW_X10_floats n) a1 a2 m Q → (WW_X10_floats n) a1 a2 m Q')
  | 0 => fun _ _ _ _ _ _ h => h.elim
  | n + 1 => fun _ _ _ _ _ hq h => mo_L_X10_floats (mo_WW_X10_floats n) hq h
theorem mo_W_X10_floats {n : Nat} {a1 : Int32} {a2 : Int32} {mem : MMt} {Q Q' : Int32 → MMt → Prop} (hq : ∀ r0 r1, Q r0 r1 → Q' r0 r1) : W_X10_floats n a1 a2 mem Q → W_X10_floats n a1 a2 mem Q' := fun h => (mo_WW_X10_floats n) _ _ _ _ _ hq h
theorem mo_L_X10_hangs {R_X10_hangs : Int32 → Int32 → MMt → (Int32 → MMt → Prop) → Prop} {a1 : Int32} {a2 : Int32} {mem : MMt} {Q Q' : Int32 → MMt → Prop} (hR_X10_hangs : ∀ (v0 : Int32) (v1 : Int32) (m : MMt) (Q Q' : Int32 → MMt → Prop), (∀ r0 r1, Q r0 r1 → Q' r0 r1) → R_X10_hangs v0 v1 m Q → R_X10_hangs v0 v1 m Q') (hq : ∀ r0 r1, Q r0 r1 → Q' r0 r1) : L_X10_hangs R_X10_hangs a1 a2 mem Q → L_X10_hangs R_X10_hangs a1 a2 mem Q' := by
  unfold L_X10_hangs
  repeat' first
    | with_reducible exact id
    | with_reducible exact hq _ _
    | with_reducible refine hR_X10_hangs _ _ _ _ _ fun _ _ => ?_
    | with_reducible refine mo_L_X10_above  fun _ _ => ?_
    | with_reducible refine mo_L_X10_begins  fun _ => ?_
    | with_reducible refine And.imp ?_ ?_
    | with_reducible refine all_imp fun _ => ?_
theorem mo_WW_X10_hangs : ∀ n : Nat, (∀ (a1 : Int32) (a2 : Int32) (m : MMt) (Q Q' : Int32 → MMt → Prop), (∀ r0 r1, Q r0 r1 → Q' r0 r1) → (WW_X10_hangs n) a1 a2 m Q → (WW_X10_hangs n) a1 a2 m Q')
  | 0 => fun _ _ _ _ _ _ h => h.elim
  | n + 1 => fun _ _ _ _ _ hq h => mo_L_X10_hangs (mo_WW_X10_hangs n) hq h
theorem mo_W_X10_hangs {n : Nat} {a1 : Int32} {a2 : Int32} {mem : MMt} {Q Q' : Int32 → MMt → Prop} (hq : ∀ r0 r1, Q r0 r1 → Q' r0 r1) : W_X10_hangs n a1 a2 mem Q → W_X10_hangs n a1 a2 mem Q' := fun h => (mo_WW_X10_hangs n) _ _ _ _ _ hq h
theorem mo_L_X10_falls {R_X10_falls : Int32 → Int32 → MMt → (Int32 → MMt → Prop) → Prop} {a1 : Int32} {a2 : Int32} {mem : MMt} {Q Q' : Int32 → MMt → Prop} (hR_X10_falls : ∀ (v0 : Int32) (v1 : Int32) (m : MMt) (Q Q' : Int32 → MMt → Prop), (∀ r0 r1, Q r0 r1 → Q' r0 r1) → R_X10_falls v0 v1 m Q → R_X10_falls v0 v1 m Q') (hq : ∀ r0 r1, Q r0 r1 → Q' r0 r1) : L_X10_falls R_X10_falls a1 a2 mem Q → L_X10_falls R_X10_falls a1 a2 mem Q' := by
  unfold L_X10_falls
  repeat' first
    | with_reducible exact id
    | with_reducible exact hq _ _
    | with_reducible refine hR_X10_falls _ _ _ _ _ fun _ _ => ?_
    | with_reducible refine mo_L_X10_begins  fun _ => ?_
    | with_reducible refine mo_W_X10_floats fun _ _ => ?_
    | with_reducible refine mo_W_X10_hangs fun _ _ => ?_
    | with_reducible refine mo_L_X10_above  fun _ _ => ?_
    | with_reducible refine And.imp ?_ ?_
    | with_reducible refine all_imp fun _ => ?_
theorem mo_WW_X10_falls : ∀ n : Nat, (∀ (a1 : Int32) (a2 : Int32) (m : MMt) (Q Q' : Int32 → MMt → Prop), (∀ r0 r1, Q r0 r1 → Q' r0 r1) → (WW_X10_falls n) a1 a2 m Q → (WW_X10_falls n) a1 a2 m Q')
  | 0 => fun _ _ _ _ _ _ h => h.elim
  | n + 1 => fun _ _ _ _ _ hq h => mo_L_X10_falls (mo_WW_X10_falls n) hq h
theorem mo_W_X10_falls {n : Nat} {a1 : Int32} {a2 : Int32} {mem : MMt} {Q Q' : Int32 → MMt → Prop} (hq : ∀ r0 r1, Q r0 r1 → Q' r0 r1) : W_X10_falls n a1 a2 mem Q → W_X10_falls n a1 a2 mem Q' := fun h => (mo_WW_X10_falls n) _ _ _ _ _ hq h
theorem mo_L_X10_tells {R_X10_tells : Int32 → Int32 → MMt → (Int32 → MMt → Prop) → Prop} {a1 : Int32} {a2 : Int32} {mem : MMt} {Q Q' : Int32 → MMt → Prop} (hR_X10_tells : ∀ (v0 : Int32) (v1 : Int32) (m : MMt) (Q Q' : Int32 → MMt → Prop), (∀ r0 r1, Q r0 r1 → Q' r0 r1) → R_X10_tells v0 v1 m Q → R_X10_tells v0 v1 m Q') (hq : ∀ r0 r1, Q r0 r1 → Q' r0 r1) : L_X10_tells R_X10_tells a1 a2 mem Q → L_X10_tells R_X10_tells a1 a2 mem Q' := by
  unfold L_X10_tells
  repeat' first
    | with_reducible exact id
    | with_reducible exact hq _ _
    | with_reducible refine hR_X10_tells _ _ _ _ _ fun _ _ => ?_
    | with_reducible refine mo_L_X10_begins  fun _ => ?_
    | with_reducible refine mo_W_X10_falls fun _ _ => ?_
    | with_reducible refine mo_W_X10_hangs fun _ _ => ?_
    | with_reducible refine mo_W_X10_floats fun _ _ => ?_
    | with_reducible refine mo_L_X10_above  fun _ _ => ?_
    | with_reducible refine And.imp ?_ ?_
    | with_reducible refine all_imp fun _ => ?_
theorem mo_WW_X10_tells : ∀ n : Nat, (∀ (a1 : Int32) (a2 : Int32) (m : MMt) (Q Q' : Int32 → MMt → Prop), (∀ r0 r1, Q r0 r1 → Q' r0 r1) → (WW_X10_tells n) a1 a2 m Q → (WW_X10_tells n) a1 a2 m Q')
  | 0 => fun _ _ _ _ _ _ h => h.elim
  | n + 1 => fun _ _ _ _ _ hq h => mo_L_X10_tells (mo_WW_X10_tells n) hq h
theorem mo_W_X10_tells {n : Nat} {a1 : Int32} {a2 : Int32} {mem : MMt} {Q Q' : Int32 → MMt → Prop} (hq : ∀ r0 r1, Q r0 r1 → Q' r0 r1) : W_X10_tells n a1 a2 mem Q → W_X10_tells n a1 a2 mem Q' := fun h => (mo_WW_X10_tells n) _ _ _ _ _ hq h
theorem mo_L_X10_voice {a1 : Int32} {a2 : Int32} {a3 : Int32} {mem : MMt} {Q Q' : Int32 → MMt → Prop} (hq : ∀ r0 r1, Q r0 r1 → Q' r0 r1) : L_X10_voice a1 a2 a3 mem Q → L_X10_voice a1 a2 a3 mem Q' := by
  unfold L_X10_voice
  repeat' first
    | with_reducible exact id
    | with_reducible exact hq _ _
    | with_reducible refine mo_L_X10_isGood  fun _ _ => ?_
    | with_reducible refine mo_L_X10_error  fun _ _ => ?_
    | with_reducible refine mo_L_X10_isIn  fun _ _ => ?_
    | with_reducible refine mo_L_X10_of  fun _ _ => ?_
    | with_reducible refine mo_W_X10_tells fun _ _ => ?_
    | with_reducible refine mo_W_X10_hangs fun _ _ => ?_
    | with_reducible refine mo_W_X10_falls fun _ _ => ?_
    | with_reducible refine mo_W_X10_floats fun _ _ => ?_
    | with_reducible refine And.imp ?_ ?_
    | with_reducible refine all_imp fun _ => ?_
theorem mo_L_X10_trace {a1 : Int32} {mem : MMt} {Q Q' : Int32 → MMt → Prop} (hq : ∀ r0 r1, Q r0 r1 → Q' r0 r1) : L_X10_trace a1 mem Q → L_X10_trace a1 mem Q' := by
  unfold L_X10_trace
  repeat' first
    | with_reducible exact id
    | with_reducible exact hq _ _
    | with_reducible refine mo_L_X10_isIn  fun _ _ => ?_
    | with_reducible refine mo_L_X10_error  fun _ _ => ?_
    | with_reducible refine And.imp ?_ ?_
    | with_reducible refine all_imp fun _ => ?_
theorem mo_B_X10_sheet_90 {x1 : Int32} {x4 : Int32} {mem : MMt} {Q Q' : Int32 → MMt → Prop} (hq : ∀ r0 r1, Q r0 r1 → Q' r0 r1) : B_X10_sheet_90 x1 x4 mem Q → B_X10_sheet_90 x1 x4 mem Q' := by
  unfold B_X10_sheet_90
  repeat' first
    | with_reducible exact id
    | with_reducible exact hq _ _
    | with_reducible refine LOOP_imp fun _ _ => ?_
    | with_reducible refine And.imp ?_ ?_
    | with_reducible refine all_imp fun _ => ?_
theorem mo_B_X10_sheet_86 {x1 : Int32} {s0 : Int32} {s1 : Int32} {mem : MMt} {Q Q' : Int32 → MMt → Prop} (hq : ∀ r0 r1, Q r0 r1 → Q' r0 r1) : B_X10_sheet_86 x1 s0 s1 mem Q → B_X10_sheet_86 x1 s0 s1 mem Q' := by
  unfold B_X10_sheet_86
  repeat' first
    | with_reducible exact id
    | with_reducible exact hq _ _
    | with_reducible refine mo_B_X10_sheet_90  fun _ _ => ?_
    | with_reducible refine And.imp ?_ ?_
    | with_reducible refine all_imp fun _ => ?_
theorem mo_B_X10_sheet_65 {x1 : Int32} {x2 : Int32} {x3 : Int32} {mem : MMt} {Q Q' : Int32 → MMt → Prop} (hq : ∀ r0 r1, Q r0 r1 → Q' r0 r1) : B_X10_sheet_65 x1 x2 x3 mem Q → B_X10_sheet_65 x1 x2 x3 mem Q' := by
  unfold B_X10_sheet_65
  repeat' first
    | with_reducible exact id
    | with_reducible exact hq _ _
    | with_reducible refine mo_B_X10_sheet_86  fun _ _ => ?_
    | with_reducible refine And.imp ?_ ?_
    | with_reducible refine all_imp fun _ => ?_
theorem mo_B_X10_sheet_35 {x1 : Int32} {x2 : Int32} {x3 : Int32} {mem : MMt} {Q Q' : Int32 → MMt → Prop} (hq : ∀ r0 r1, Q r0 r1 → Q' r0 r1) : B_X10_sheet_35 x1 x2 x3 mem Q → B_X10_sheet_35 x1 x2 x3 mem Q' := by
  unfold B_X10_sheet_35
  repeat' first
    | with_reducible exact id
    | with_reducible exact hq _ _
    | with_reducible refine mo_B_X10_sheet_65  fun _ _ => ?_
    | with_reducible refine mo_L_X10_isIn  fun _ _ => ?_
    | with_reducible refine mo_L_X10_error  fun _ _ => ?_
    | with_reducible refine And.imp ?_ ?_
    | with_reducible refine all_imp fun _ => ?_
theorem mo_L_X10_sheet {a1 : Int32} {a2 : Int32} {a3 : Int32} {mem : MMt} {Q Q' : Int32 → MMt → Prop} (hq : ∀ r0 r1, Q r0 r1 → Q' r0 r1) : L_X10_sheet a1 a2 a3 mem Q → L_X10_sheet a1 a2 a3 mem Q' := by
  unfold L_X10_sheet
  repeat' first
    | with_reducible exact id
    | with_reducible exact hq _ _
    | with_reducible refine mo_L_X10_isSheet  fun _ _ => ?_
    | with_reducible refine mo_L_X10_error  fun _ _ => ?_
    | with_reducible refine mo_B_X10_sheet_35  fun _ _ => ?_
    | with_reducible refine And.imp ?_ ?_
    | with_reducible refine all_imp fun _ => ?_
theorem mo_L_X10_noSheet {a1 : Int32} {mem : MMt} {Q Q' : Int32 → MMt → Prop} (hq : ∀ r0 r1, Q r0 r1 → Q' r0 r1) : L_X10_noSheet a1 mem Q → L_X10_noSheet a1 mem Q' := by
  unfold L_X10_noSheet
  repeat' first
    | with_reducible exact id
    | with_reducible exact hq _ _
    | with_reducible refine mo_L_X10_isSheet  fun _ _ => ?_
    | with_reducible refine mo_L_X10_error  fun _ _ => ?_
    | with_reducible refine And.imp ?_ ?_
    | with_reducible refine all_imp fun _ => ?_
theorem mo_L_X10_put {a1 : Int32} {a2 : Int32} {a3 : Int32} {mem : MMt} {Q Q' : Int32 → MMt → Prop} (hq : ∀ r0 r1, Q r0 r1 → Q' r0 r1) : L_X10_put a1 a2 a3 mem Q → L_X10_put a1 a2 a3 mem Q' := by
  unfold L_X10_put
  repeat' first
    | with_reducible exact id
    | with_reducible exact hq _ _
    | with_reducible refine mo_L_X10_noSheet  fun _ _ => ?_
    | with_reducible refine mo_L_X10_isIn  fun _ _ => ?_
    | with_reducible refine mo_L_X10_error  fun _ _ => ?_
    | with_reducible refine And.imp ?_ ?_
    | with_reducible refine all_imp fun _ => ?_
theorem mo_B_X10_move_152 {x3 : Int32} {x4 : Int32} {x5 : Int32} {x6 : Int32} {mem : MMt} {Q Q' : Int32 → MMt → Prop} (hq : ∀ r0 r1, Q r0 r1 → Q' r0 r1) : B_X10_move_152 x3 x4 x5 x6 mem Q → B_X10_move_152 x3 x4 x5 x6 mem Q' := by
  unfold B_X10_move_152
  repeat' first
    | with_reducible exact id
    | with_reducible exact hq _ _
    | with_reducible refine LOOP_imp fun _ _ => ?_
    | with_reducible refine And.imp ?_ ?_
    | with_reducible refine all_imp fun _ => ?_
theorem mo_B_X10_move_115 {x1 : Int32} {x2 : Int32} {x3 : Int32} {x4 : Int32} {x5 : Int32} {x6 : Int32} {mem : MMt} {Q Q' : Int32 → MMt → Prop} (hq : ∀ r0 r1, Q r0 r1 → Q' r0 r1) : B_X10_move_115 x1 x2 x3 x4 x5 x6 mem Q → B_X10_move_115 x1 x2 x3 x4 x5 x6 mem Q' := by
  unfold B_X10_move_115
  repeat' first
    | with_reducible exact id
    | with_reducible exact hq _ _
    | with_reducible refine mo_B_X10_move_152  fun _ _ => ?_
    | with_reducible refine LOOP_imp fun _ _ => ?_
    | with_reducible refine And.imp ?_ ?_
    | with_reducible refine all_imp fun _ => ?_
theorem mo_L_X10_move {a1 : Int32} {a2 : Int32} {a3 : Int32} {a4 : Int32} {a5 : Int32} {mem : MMt} {Q Q' : Int32 → MMt → Prop} (hq : ∀ r0 r1, Q r0 r1 → Q' r0 r1) : L_X10_move a1 a2 a3 a4 a5 mem Q → L_X10_move a1 a2 a3 a4 a5 mem Q' := by
  unfold L_X10_move
  repeat' first
    | with_reducible exact id
    | with_reducible exact hq _ _
    | with_reducible refine mo_L_X10_isSheet  fun _ _ => ?_
    | with_reducible refine mo_L_X10_error  fun _ _ => ?_
    | with_reducible refine mo_B_X10_move_115  fun _ _ => ?_
    | with_reducible refine And.imp ?_ ?_
    | with_reducible refine all_imp fun _ => ?_
theorem mo_B_X10_pushes_14 {x1 : Int32} {x3 : Int32} {mem : MMt} {Q Q' : Int32 → MMt → Prop} (hq : ∀ r0 r1, Q r0 r1 → Q' r0 r1) : B_X10_pushes_14 x1 x3 mem Q → B_X10_pushes_14 x1 x3 mem Q' := by
  unfold B_X10_pushes_14
  repeat' first
    | with_reducible exact id
    | with_reducible exact hq _ _
    | with_reducible refine mo_L_X10_isPush  fun _ _ => ?_
    | with_reducible refine mo_L_X10_pushed  fun _ _ => ?_
    | with_reducible refine LOOP_imp fun _ _ => ?_
    | with_reducible refine And.imp ?_ ?_
    | with_reducible refine all_imp fun _ => ?_
theorem mo_L_X10_pushes {a1 : Int32} {mem : MMt} {Q Q' : Int32 → MMt → Prop} (hq : ∀ r0 r1, Q r0 r1 → Q' r0 r1) : L_X10_pushes a1 mem Q → L_X10_pushes a1 mem Q' := by
  unfold L_X10_pushes
  repeat' first
    | with_reducible exact id
    | with_reducible exact hq _ _
    | with_reducible refine mo_L_X10_noSheet  fun _ _ => ?_
    | with_reducible refine mo_B_X10_pushes_14  fun _ _ => ?_
    | with_reducible refine And.imp ?_ ?_
    | with_reducible refine all_imp fun _ => ?_
theorem mo_B_X10_judge_61 {x1 : Int32} {x3 : Int32} {mem : MMt} {Q Q' : Int32 → MMt → Prop} (hq : ∀ r0 r1, Q r0 r1 → Q' r0 r1) : B_X10_judge_61 x1 x3 mem Q → B_X10_judge_61 x1 x3 mem Q' := by
  unfold B_X10_judge_61
  repeat' first
    | with_reducible exact id
    | with_reducible exact hq _ _
    | with_reducible refine And.imp ?_ ?_
    | with_reducible refine all_imp fun _ => ?_
theorem mo_B_X10_judge_14 {x1 : Int32} {x3 : Int32} {mem : MMt} {Q Q' : Int32 → MMt → Prop} (hq : ∀ r0 r1, Q r0 r1 → Q' r0 r1) : B_X10_judge_14 x1 x3 mem Q → B_X10_judge_14 x1 x3 mem Q' := by
  unfold B_X10_judge_14
  repeat' first
    | with_reducible exact id
    | with_reducible exact hq _ _
    | with_reducible refine mo_B_X10_judge_61  fun _ _ => ?_
    | with_reducible refine mo_L_X10_of  fun _ _ => ?_
    | with_reducible refine LOOP_imp fun _ _ => ?_
    | with_reducible refine And.imp ?_ ?_
    | with_reducible refine all_imp fun _ => ?_
theorem mo_L_X10_judge {a1 : Int32} {mem : MMt} {Q Q' : Int32 → MMt → Prop} (hq : ∀ r0 r1, Q r0 r1 → Q' r0 r1) : L_X10_judge a1 mem Q → L_X10_judge a1 mem Q' := by
  unfold L_X10_judge
  repeat' first
    | with_reducible exact id
    | with_reducible exact hq _ _
    | with_reducible refine mo_L_X10_noSheet  fun _ _ => ?_
    | with_reducible refine mo_B_X10_judge_14  fun _ _ => ?_
    | with_reducible refine And.imp ?_ ?_
    | with_reducible refine all_imp fun _ => ?_
theorem mo_B_X10_over__2 {a1 : Nat} {a2 : Nat} {x2 : Int32} {mem : MMt} {Q Q' : MMt → Prop} (hq : ∀ r0, Q r0 → Q' r0) : B_X10_over__2 a1 a2 x2 mem Q → B_X10_over__2 a1 a2 x2 mem Q' := by
  unfold B_X10_over__2
  repeat' first
    | with_reducible exact id
    | with_reducible exact hq _
    | with_reducible refine LOOP_imp fun _ _ => ?_
    | with_reducible refine And.imp ?_ ?_
    | with_reducible refine all_imp fun _ => ?_
theorem mo_L_X10_over_ {a1 : Nat} {a2 : Nat} {mem : MMt} {Q Q' : MMt → Prop} (hq : ∀ r0, Q r0 → Q' r0) : L_X10_over_ a1 a2 mem Q → L_X10_over_ a1 a2 mem Q' := by
  unfold L_X10_over_
  repeat' first
    | with_reducible exact id
    | with_reducible exact hq _
    | with_reducible refine mo_B_X10_over__2  fun _ => ?_
    | with_reducible refine And.imp ?_ ?_
    | with_reducible refine all_imp fun _ => ?_
theorem mo_L_X10_image {mem : MMt} {Q Q' : Int32 → MMt → Prop} (hq : ∀ r0 r1, Q r0 r1 → Q' r0 r1) : L_X10_image mem Q → L_X10_image mem Q' := by
  unfold L_X10_image
  repeat' first
    | with_reducible exact id
    | with_reducible exact hq _ _
    | with_reducible refine mo_L_X10_over_  fun _ => ?_
    | with_reducible refine And.imp ?_ ?_
    | with_reducible refine all_imp fun _ => ?_
theorem mo_L_X10_restore {mem : MMt} {Q Q' : Int32 → MMt → Prop} (hq : ∀ r0 r1, Q r0 r1 → Q' r0 r1) : L_X10_restore mem Q → L_X10_restore mem Q' := by
  unfold L_X10_restore
  repeat' first
    | with_reducible exact id
    | with_reducible exact hq _ _
    | with_reducible refine mo_L_X10_over_  fun _ => ?_
    | with_reducible refine mo_L_X10_error  fun _ _ => ?_
    | with_reducible refine And.imp ?_ ?_
    | with_reducible refine all_imp fun _ => ?_
theorem mo_L_X10_tell {a1 : Int32} {mem : MMt} {Q Q' : Int32 → MMt → Prop} (hq : ∀ r0 r1, Q r0 r1 → Q' r0 r1) : L_X10_tell a1 mem Q → L_X10_tell a1 mem Q' := by
  unfold L_X10_tell
  repeat' first
    | with_reducible exact id
    | with_reducible exact hq _ _
    | with_reducible refine mo_L_X10_error  fun _ _ => ?_
    | with_reducible refine And.imp ?_ ?_
    | with_reducible refine all_imp fun _ => ?_
theorem mo_B_X10_floors_4 {x1 : Int32} {x2 : Int32} {mem : MMt} {Q Q' : Int32 → MMt → Prop} (hq : ∀ r0 r1, Q r0 r1 → Q' r0 r1) : B_X10_floors_4 x1 x2 mem Q → B_X10_floors_4 x1 x2 mem Q' := by
  unfold B_X10_floors_4
  repeat' first
    | with_reducible exact id
    | with_reducible exact hq _ _
    | with_reducible refine mo_L_X10_of  fun _ _ => ?_
    | with_reducible refine LOOP_imp fun _ _ => ?_
    | with_reducible refine And.imp ?_ ?_
    | with_reducible refine all_imp fun _ => ?_
theorem mo_L_X10_floors {mem : MMt} {Q Q' : Int32 → MMt → Prop} (hq : ∀ r0 r1, Q r0 r1 → Q' r0 r1) : L_X10_floors mem Q → L_X10_floors mem Q' := by
  unfold L_X10_floors
  repeat' first
    | with_reducible exact id
    | with_reducible exact hq _ _
    | with_reducible refine mo_B_X10_floors_4  fun _ _ => ?_
    | with_reducible refine And.imp ?_ ?_
    | with_reducible refine all_imp fun _ => ?_
theorem mo_B_X10_check_57 {x1 : Int32} {mem : MMt} {Q Q' : Int32 → MMt → Prop} (hq : ∀ r0 r1, Q r0 r1 → Q' r0 r1) : B_X10_check_57 x1 mem Q → B_X10_check_57 x1 mem Q' := by
  unfold B_X10_check_57
  repeat' first
    | with_reducible exact id
    | with_reducible exact hq _ _
    | with_reducible refine mo_L_X10_putsBack  fun _ => ?_
    | with_reducible refine And.imp ?_ ?_
    | with_reducible refine all_imp fun _ => ?_
theorem mo_B_X10_check_50 {X8 : Int32 × Int32 × MMt → Prop} {x2 : Int32} {s0 : Int32} {mem : MMt} {Q Q' : Int32 → MMt → Prop} (hq : ∀ r0 r1, Q r0 r1 → Q' r0 r1) : B_X10_check_50 X8 x2 s0 mem Q → B_X10_check_50 X8 x2 s0 mem Q' := by
  unfold B_X10_check_50
  repeat' first
    | with_reducible exact id
    | with_reducible exact hq _ _
    | with_reducible refine And.imp ?_ ?_
    | with_reducible refine all_imp fun _ => ?_
theorem mo_B_X10_check_8 {x1 : Int32} {x2 : Int32} {mem : MMt} {Q Q' : Int32 → MMt → Prop} (hq : ∀ r0 r1, Q r0 r1 → Q' r0 r1) : B_X10_check_8 x1 x2 mem Q → B_X10_check_8 x1 x2 mem Q' := by
  unfold B_X10_check_8
  repeat' first
    | with_reducible exact id
    | with_reducible exact hq _ _
    | with_reducible refine mo_B_X10_check_57  fun _ _ => ?_
    | with_reducible refine mo_L_X10_step  fun _ => ?_
    | with_reducible refine mo_L_X10_floors  fun _ _ => ?_
    | with_reducible refine mo_B_X10_check_50  fun _ _ => ?_
    | with_reducible refine LOOP_imp fun _ _ => ?_
    | with_reducible refine And.imp ?_ ?_
    | with_reducible refine all_imp fun _ => ?_
theorem mo_L_X10_check {mem : MMt} {Q Q' : Int32 → MMt → Prop} (hq : ∀ r0 r1, Q r0 r1 → Q' r0 r1) : L_X10_check mem Q → L_X10_check mem Q' := by
  unfold L_X10_check
  repeat' first
    | with_reducible exact id
    | with_reducible exact hq _ _
    | with_reducible refine mo_L_X10_saves  fun _ => ?_
    | with_reducible refine mo_B_X10_check_8  fun _ _ => ?_
    | with_reducible refine And.imp ?_ ?_
    | with_reducible refine all_imp fun _ => ?_
theorem mo_B_X10_between_41 {X5 : Int32 × Int32 × MMt → Prop} {x1 : Int32} {x2 : Int32} {x4 : Int32} {s0 : Int32} {s1 : Int32} {mem : MMt} {Q Q' : Int32 → MMt → Prop} (hq : ∀ r0 r1, Q r0 r1 → Q' r0 r1) : B_X10_between_41 X5 x1 x2 x4 s0 s1 mem Q → B_X10_between_41 X5 x1 x2 x4 s0 s1 mem Q' := by
  unfold B_X10_between_41
  repeat' first
    | with_reducible exact id
    | with_reducible exact hq _ _
    | with_reducible refine And.imp ?_ ?_
    | with_reducible refine all_imp fun _ => ?_
theorem mo_B_X10_between_5 {x1 : Int32} {x2 : Int32} {x3 : Int32} {x4 : Int32} {mem : MMt} {Q Q' : Int32 → MMt → Prop} (hq : ∀ r0 r1, Q r0 r1 → Q' r0 r1) : B_X10_between_5 x1 x2 x3 x4 mem Q → B_X10_between_5 x1 x2 x3 x4 mem Q' := by
  unfold B_X10_between_5
  repeat' first
    | with_reducible exact id
    | with_reducible exact hq _ _
    | with_reducible refine mo_L_X10_of  fun _ _ => ?_
    | with_reducible refine mo_L_X10_isIn  fun _ _ => ?_
    | with_reducible refine mo_B_X10_between_41  fun _ _ => ?_
    | with_reducible refine LOOP_imp fun _ _ => ?_
    | with_reducible refine And.imp ?_ ?_
    | with_reducible refine all_imp fun _ => ?_
theorem mo_L_X10_between {a1 : Int32} {a2 : Int32} {mem : MMt} {Q Q' : Int32 → MMt → Prop} (hq : ∀ r0 r1, Q r0 r1 → Q' r0 r1) : L_X10_between a1 a2 mem Q → L_X10_between a1 a2 mem Q' := by
  unfold L_X10_between
  repeat' first
    | with_reducible exact id
    | with_reducible exact hq _ _
    | with_reducible refine mo_B_X10_between_5  fun _ _ => ?_
    | with_reducible refine And.imp ?_ ?_
    | with_reducible refine all_imp fun _ => ?_
theorem mo_L_X10_count {a1 : Int32} {mem : MMt} {Q Q' : Int32 → MMt → Prop} (hq : ∀ r0 r1, Q r0 r1 → Q' r0 r1) : L_X10_count a1 mem Q → L_X10_count a1 mem Q' := by
  unfold L_X10_count
  repeat' first
    | with_reducible exact id
    | with_reducible exact hq _ _
    | with_reducible refine mo_L_X10_error  fun _ _ => ?_
    | with_reducible refine mo_L_X10_between  fun _ _ => ?_
    | with_reducible refine mo_L_X10_resting  fun _ _ => ?_
    | with_reducible refine And.imp ?_ ?_
    | with_reducible refine all_imp fun _ => ?_
theorem mo_L_X10_told {a1 : Int32} {mem : MMt} {Q Q' : Int32 → MMt → Prop} (hq : ∀ r0 r1, Q r0 r1 → Q' r0 r1) : L_X10_told a1 mem Q → L_X10_told a1 mem Q' := by
  unfold L_X10_told
  repeat' first
    | with_reducible exact id
    | with_reducible exact hq _ _
    | with_reducible refine mo_L_X10_isIn  fun _ _ => ?_
    | with_reducible refine mo_L_X10_error  fun _ _ => ?_
    | with_reducible refine And.imp ?_ ?_
    | with_reducible refine all_imp fun _ => ?_
