theorem fj_Ruin_failAll_J98 {D : Nat → Prop} {M0 : Mm} (hT : Tp D M0) (k3 : Nat → Nat → Int32 → Int32 → Int32 → Mm → Option (Unit × Mm)) (hk3 : ∀ (x0 : Nat) (hx0 : D x0) (x1 : Nat) (hx1 : D x1) (x2 : Int32) (x3 : Int32) (x4 : Int32) (M : Mm) (hF : Fr D M0 M), FJ D M0 (k3 x0 x1 x2 x3 x4 M)) (x0 : Nat) (hx0 : D x0) (x1 : Nat) (hx1 : D x1) (x2 : Int32) (x3 : Int32) (x4 : Int32) (M : Mm) (hF : Fr D M0 M) : FJ D M0 (Ruin_failAll_J98 k3 x0 x1 x2 x3 x4 M) := by
  unfold Ruin_failAll_J98
  exact hk3 _ hx0 _ hx1 _ _ _ _ hF
theorem nj_Ruin_failAll_J98 {M0 : Mm} (k3 : Nat → Nat → Int32 → Int32 → Int32 → Mm → Option (Unit × Mm)) (hk3 : ∀ (x0 : Nat) (x1 : Nat) (x2 : Int32) (x3 : Int32) (x4 : Int32) (M : Mm) (hS : Sm M0 M), NJ M0 (k3 x0 x1 x2 x3 x4 M)) (x0 : Nat) (x1 : Nat) (x2 : Int32) (x3 : Int32) (x4 : Int32) (M : Mm) (hS : Sm M0 M) : NJ M0 (Ruin_failAll_J98 k3 x0 x1 x2 x3 x4 M) := by
  unfold Ruin_failAll_J98
  exact hk3 _ _ _ _ _ _ hS
theorem fj_Ruin_failAll_B3 {D : Nat → Prop} {M0 : Mm} (hT : Tp D M0) (k3 : Nat → Nat → Int32 → Int32 → Int32 → Mm → Option (Unit × Mm)) (hk3 : ∀ (x0 : Nat) (hx0 : D x0) (x1 : Nat) (hx1 : D x1) (x2 : Int32) (x3 : Int32) (x4 : Int32) (M : Mm) (hF : Fr D M0 M), FJ D M0 (k3 x0 x1 x2 x3 x4 M)) (x0 : Nat) (hx0 : D x0) (x1 : Nat) (hx1 : D x1) (x2 : Int32) (x3 : Int32) (x4 : Int32) (M : Mm) (hF : Fr D M0 M) : FJ D M0 (Ruin_failAll_B3 k3 x0 x1 x2 x3 x4 M) := by
  unfold Ruin_failAll_B3
  refine FJ_if ?_ ?_
  · exact FJ_leaf hF
  · refine FJ_ck ?_
    refine FJ_nn hF hx0 (fun b2 hb2 => ?_)
    refine FJ_ck ?_
    refine FJ_bd hT hF (fun gC gT => fj_Ruin_owedTo gC gT _ hx0 _ _ hx1 _ _) (fun r4 M5 hFM5 => ?_)
    refine FJ_ck ?_
    refine FJ_nn hFM5 hx1 (fun b8 hb8 => ?_)
    refine FJ_bd hT hFM5 (fun gC gT => fj_Ruin_debtsOf gC gT _ hb8 _) (fun r9 M10 hFM10 => ?_)
    refine FJ_ck ?_
    refine FJ_nn hFM10 hx0 (fun b12 hb12 => ?_)
    refine FJ_ck ?_
    refine FJ_if ?_ ?_
    · refine FJ_if ?_ ?_
      · exact fj_Ruin_failAll_J98 hT k3 hk3 _ hx0 _ hx1 _ _ _ _ hFM10
      · refine FJ_if ?_ ?_
        · exact fj_Ruin_failAll_J98 hT k3 hk3 _ hx0 _ hx1 _ _ _ _ hFM10
        · refine FJ_nn hFM10 hx0 (fun b15 hb15 => ?_)
          refine FJ_ck ?_
          refine FJ_nn (Fr_sI hFM10 hb15) hx0 (fun b18 hb18 => ?_)
          refine FJ_ck ?_
          refine FJ_ck ?_
          exact fj_Ruin_failAll_J98 hT k3 hk3 _ hx0 _ hx1 _ _ _ _ (Fr_sI (Fr_sI (Fr_sI hFM10 hb15) hb18) hx0)
    · exact fj_Ruin_failAll_J98 hT k3 hk3 _ hx0 _ hx1 _ _ _ _ hFM10
theorem nj_Ruin_failAll_B3 {M0 : Mm} (k3 : Nat → Nat → Int32 → Int32 → Int32 → Mm → Option (Unit × Mm)) (hk3 : ∀ (x0 : Nat) (x1 : Nat) (x2 : Int32) (x3 : Int32) (x4 : Int32) (M : Mm) (hS : Sm M0 M), NJ M0 (k3 x0 x1 x2 x3 x4 M)) (x0 : Nat) (x1 : Nat) (x2 : Int32) (x3 : Int32) (x4 : Int32) (M : Mm) (hS : Sm M0 M) : NJ M0 (Ruin_failAll_B3 k3 x0 x1 x2 x3 x4 M) := by
  unfold Ruin_failAll_B3
  refine NJ_if ?_ ?_
  · exact NJ_leaf hS
  · refine NJ_ck ?_
    refine NJ_nn (fun b2 => ?_)
    refine NJ_ck ?_
    refine NJ_bd hS (nj_Ruin_owedTo _ _ _ _ _ _) (fun r4 M5 hSM5 => ?_)
    refine NJ_ck ?_
    refine NJ_nn (fun b8 => ?_)
    refine NJ_bd hSM5 (nj_Ruin_debtsOf _ _ _) (fun r9 M10 hSM10 => ?_)
    refine NJ_ck ?_
    refine NJ_nn (fun b12 => ?_)
    refine NJ_ck ?_
    refine NJ_if ?_ ?_
    · refine NJ_if ?_ ?_
      · exact nj_Ruin_failAll_J98 k3 hk3 _ _ _ _ _ _ hSM10
      · refine NJ_if ?_ ?_
        · exact nj_Ruin_failAll_J98 k3 hk3 _ _ _ _ _ _ hSM10
        · refine NJ_nn (fun b15 => ?_)
          refine NJ_ck ?_
          refine NJ_nn (fun b18 => ?_)
          refine NJ_ck ?_
          refine NJ_ck ?_
          exact nj_Ruin_failAll_J98 k3 hk3 _ _ _ _ _ _ (Sm_sI (Sm_sI (Sm_sI hSM10)))
    · exact nj_Ruin_failAll_J98 k3 hk3 _ _ _ _ _ _ hSM10
theorem fj_Ruin_failAll_L3 {D : Nat → Prop} {M0 : Mm} (hT : Tp D M0) : ∀ (n : Nat) (x0 : Nat) (hx0 : D x0) (x1 : Nat) (hx1 : D x1) (x2 : Int32) (x3 : Int32) (x4 : Int32) (M : Mm) (hF : Fr D M0 M), FJ D M0 (Ruin_failAll_L3 n x0 x1 x2 x3 x4 M) := by
  intro n
  induction n with
  | zero => intros; exact FJ_none
  | succ n ih => intro x0 hx0 x1 hx1 x2 x3 x4 M hF; exact fj_Ruin_failAll_B3 hT _ ih x0 hx0 x1 hx1 x2 x3 x4 M hF
theorem nj_Ruin_failAll_L3 {M0 : Mm} : ∀ (n : Nat) (x0 : Nat) (x1 : Nat) (x2 : Int32) (x3 : Int32) (x4 : Int32) (M : Mm) (hS : Sm M0 M), NJ M0 (Ruin_failAll_L3 n x0 x1 x2 x3 x4 M) := by
  intro n
  induction n with
  | zero => intros; exact NJ_none
  | succ n ih => intro x0 x1 x2 x3 x4 M hS; exact nj_Ruin_failAll_B3 _ ih x0 x1 x2 x3 x4 M hS
theorem fj_Ruin_failAll {D : Nat → Prop} {M : Mm} (hC : Cl D M) (hT : Tp D M) (a0 : Nat) (h0 : D a0) (a1 : Nat) (h1 : D a1) (a2 : Int32) (a3 : Int32) : FJ D M (Ruin_failAll M a0 a1 a2 a3) := by
  unfold Ruin_failAll
  exact fj_Ruin_failAll_L3 hT fu _ h0 _ h1 _ _ _ _ (Fr.rf hC)
theorem nj_Ruin_failAll (M : Mm) (a0 : Nat) (a1 : Nat) (a2 : Int32) (a3 : Int32) : NJ M (Ruin_failAll M a0 a1 a2 a3) := by
  unfold Ruin_failAll
  exact nj_Ruin_failAll_L3 fu _ _ _ _ _ _ Sm.rf
theorem fj_Ruin_reckon_B117 {D : Nat → Prop} {M0 : Mm} (hT : Tp D M0) (k117 : Nat → Nat → Int32 → Int32 → Mm → Option (Unit × Mm)) (hk117 : ∀ (x0 : Nat) (hx0 : D x0) (x1 : Nat) (hx1 : D x1) (x2 : Int32) (x6 : Int32) (M : Mm) (hF : Fr D M0 M), FJ D M0 (k117 x0 x1 x2 x6 M)) (x0 : Nat) (hx0 : D x0) (x1 : Nat) (hx1 : D x1) (x2 : Int32) (x6 : Int32) (M : Mm) (hF : Fr D M0 M) : FJ D M0 (Ruin_reckon_B117 k117 x0 x1 x2 x6 M) := by
  unfold Ruin_reckon_B117
  refine FJ_if ?_ ?_
  · exact FJ_leaf hF
  · refine FJ_ck ?_
    refine FJ_bd hT hF (fun gC gT => fj_Ruin_failAll gC gT _ hx0 _ hx1 _ _) (fun _ M7 hFM7 => ?_)
    refine FJ_ck ?_
    refine FJ_if ?_ ?_
    · exact FJ_leaf hFM7
    · exact hk117 _ hx0 _ hx1 _ _ _ (Fr_sI hFM7 hx0)
theorem nj_Ruin_reckon_B117 {M0 : Mm} (k117 : Nat → Nat → Int32 → Int32 → Mm → Option (Unit × Mm)) (hk117 : ∀ (x0 : Nat) (x1 : Nat) (x2 : Int32) (x6 : Int32) (M : Mm) (hS : Sm M0 M), NJ M0 (k117 x0 x1 x2 x6 M)) (x0 : Nat) (x1 : Nat) (x2 : Int32) (x6 : Int32) (M : Mm) (hS : Sm M0 M) : NJ M0 (Ruin_reckon_B117 k117 x0 x1 x2 x6 M) := by
  unfold Ruin_reckon_B117
  refine NJ_if ?_ ?_
  · exact NJ_leaf hS
  · refine NJ_ck ?_
    refine NJ_bd hS (nj_Ruin_failAll _ _ _ _ _) (fun _ M7 hSM7 => ?_)
    refine NJ_ck ?_
    refine NJ_if ?_ ?_
    · exact NJ_leaf hSM7
    · exact hk117 _ _ _ _ _ (Sm_sI hSM7)
theorem fj_Ruin_reckon_L117 {D : Nat → Prop} {M0 : Mm} (hT : Tp D M0) : ∀ (n : Nat) (x0 : Nat) (hx0 : D x0) (x1 : Nat) (hx1 : D x1) (x2 : Int32) (x6 : Int32) (M : Mm) (hF : Fr D M0 M), FJ D M0 (Ruin_reckon_L117 n x0 x1 x2 x6 M) := by
  intro n
  induction n with
  | zero => intros; exact FJ_none
  | succ n ih => intro x0 hx0 x1 hx1 x2 x6 M hF; exact fj_Ruin_reckon_B117 hT _ ih x0 hx0 x1 hx1 x2 x6 M hF
theorem nj_Ruin_reckon_L117 {M0 : Mm} : ∀ (n : Nat) (x0 : Nat) (x1 : Nat) (x2 : Int32) (x6 : Int32) (M : Mm) (hS : Sm M0 M), NJ M0 (Ruin_reckon_L117 n x0 x1 x2 x6 M) := by
  intro n
  induction n with
  | zero => intros; exact NJ_none
  | succ n ih => intro x0 x1 x2 x6 M hS; exact nj_Ruin_reckon_B117 _ ih x0 x1 x2 x6 M hS
theorem fj_Ruin_reckon_B57 {D : Nat → Prop} {M0 : Mm} (hT : Tp D M0) (k13 : Nat → Nat → Int32 → Nat → Int32 → Int32 → Int32 → Mm → Option (Unit × Mm)) (k57 : Nat → Nat → Int32 → Nat → Int32 → Int32 → Int32 → Int32 → Mm → Option (Unit × Mm)) (hk13 : ∀ (x0 : Nat) (hx0 : D x0) (x1 : Nat) (hx1 : D x1) (x2 : Int32) (x3 : Nat) (hx3 : D x3) (x4 : Int32) (x5 : Int32) (x6 : Int32) (M : Mm) (hF : Fr D M0 M), FJ D M0 (k13 x0 x1 x2 x3 x4 x5 x6 M)) (hk57 : ∀ (x0 : Nat) (hx0 : D x0) (x1 : Nat) (hx1 : D x1) (x2 : Int32) (x3 : Nat) (hx3 : D x3) (x4 : Int32) (x5 : Int32) (x6 : Int32) (x7 : Int32) (M : Mm) (hF : Fr D M0 M), FJ D M0 (k57 x0 x1 x2 x3 x4 x5 x6 x7 M)) (x0 : Nat) (hx0 : D x0) (x1 : Nat) (hx1 : D x1) (x2 : Int32) (x3 : Nat) (hx3 : D x3) (x4 : Int32) (x5 : Int32) (x6 : Int32) (x7 : Int32) (M : Mm) (hF : Fr D M0 M) : FJ D M0 (Ruin_reckon_B57 k13 k57 x0 x1 x2 x3 x4 x5 x6 x7 M) := by
  unfold Ruin_reckon_B57
  refine FJ_if ?_ ?_
  · exact hk13 _ hx0 _ hx1 _ _ hx3 _ _ _ _ hF
  · refine FJ_ck ?_
    refine FJ_nn hF hx0 (fun b28 hb28 => ?_)
    refine FJ_ck ?_
    refine FJ_ck ?_
    refine FJ_nn hF hx1 (fun b31 hb31 => ?_)
    refine FJ_ck ?_
    refine FJ_nn hF hb31 (fun b33 hb33 => ?_)
    refine FJ_ck ?_
    refine FJ_ck ?_
    refine FJ_nn hF hx3 (fun b36 hb36 => ?_)
    refine FJ_ck ?_
    refine FJ_bd hT hF (fun gC gT => fj_Store_share gC gT _ hb36) (fun r38 M39 hFM39 => ?_)
    refine FJ_ck ?_
    exact hk57 _ hx0 _ hx1 _ _ hx3 _ _ _ _ _ (Fr_sL hFM39 hb28)
theorem nj_Ruin_reckon_B57 {M0 : Mm} (k13 : Nat → Nat → Int32 → Nat → Int32 → Int32 → Int32 → Mm → Option (Unit × Mm)) (k57 : Nat → Nat → Int32 → Nat → Int32 → Int32 → Int32 → Int32 → Mm → Option (Unit × Mm)) (hk13 : ∀ (x0 : Nat) (x1 : Nat) (x2 : Int32) (x3 : Nat) (x4 : Int32) (x5 : Int32) (x6 : Int32) (M : Mm) (hS : Sm M0 M), NJ M0 (k13 x0 x1 x2 x3 x4 x5 x6 M)) (hk57 : ∀ (x0 : Nat) (x1 : Nat) (x2 : Int32) (x3 : Nat) (x4 : Int32) (x5 : Int32) (x6 : Int32) (x7 : Int32) (M : Mm) (hS : Sm M0 M), NJ M0 (k57 x0 x1 x2 x3 x4 x5 x6 x7 M)) (x0 : Nat) (x1 : Nat) (x2 : Int32) (x3 : Nat) (x4 : Int32) (x5 : Int32) (x6 : Int32) (x7 : Int32) (M : Mm) (hS : Sm M0 M) : NJ M0 (Ruin_reckon_B57 k13 k57 x0 x1 x2 x3 x4 x5 x6 x7 M) := by
  unfold Ruin_reckon_B57
  refine NJ_if ?_ ?_
  · exact hk13 _ _ _ _ _ _ _ _ hS
  · refine NJ_ck ?_
    refine NJ_nn (fun b28 => ?_)
    refine NJ_ck ?_
    refine NJ_ck ?_
    refine NJ_nn (fun b31 => ?_)
    refine NJ_ck ?_
    refine NJ_nn (fun b33 => ?_)
    refine NJ_ck ?_
    refine NJ_ck ?_
    refine NJ_nn (fun b36 => ?_)
    refine NJ_ck ?_
    refine NJ_bd hS (nj_Store_share _ _) (fun r38 M39 hSM39 => ?_)
    refine NJ_ck ?_
    exact hk57 _ _ _ _ _ _ _ _ _ (Sm_sL hSM39)
theorem fj_Ruin_reckon_L57 {D : Nat → Prop} {M0 : Mm} (hT : Tp D M0) (k13 : Nat → Nat → Int32 → Nat → Int32 → Int32 → Int32 → Mm → Option (Unit × Mm)) (hk13 : ∀ (x0 : Nat) (hx0 : D x0) (x1 : Nat) (hx1 : D x1) (x2 : Int32) (x3 : Nat) (hx3 : D x3) (x4 : Int32) (x5 : Int32) (x6 : Int32) (M : Mm) (hF : Fr D M0 M), FJ D M0 (k13 x0 x1 x2 x3 x4 x5 x6 M)) : ∀ (n : Nat) (x0 : Nat) (hx0 : D x0) (x1 : Nat) (hx1 : D x1) (x2 : Int32) (x3 : Nat) (hx3 : D x3) (x4 : Int32) (x5 : Int32) (x6 : Int32) (x7 : Int32) (M : Mm) (hF : Fr D M0 M), FJ D M0 (Ruin_reckon_L57 k13 n x0 x1 x2 x3 x4 x5 x6 x7 M) := by
  intro n
  induction n with
  | zero => intros; exact FJ_none
  | succ n ih => intro x0 hx0 x1 hx1 x2 x3 hx3 x4 x5 x6 x7 M hF; exact fj_Ruin_reckon_B57 hT k13 _ hk13 ih x0 hx0 x1 hx1 x2 x3 hx3 x4 x5 x6 x7 M hF
theorem nj_Ruin_reckon_L57 {M0 : Mm} (k13 : Nat → Nat → Int32 → Nat → Int32 → Int32 → Int32 → Mm → Option (Unit × Mm)) (hk13 : ∀ (x0 : Nat) (x1 : Nat) (x2 : Int32) (x3 : Nat) (x4 : Int32) (x5 : Int32) (x6 : Int32) (M : Mm) (hS : Sm M0 M), NJ M0 (k13 x0 x1 x2 x3 x4 x5 x6 M)) : ∀ (n : Nat) (x0 : Nat) (x1 : Nat) (x2 : Int32) (x3 : Nat) (x4 : Int32) (x5 : Int32) (x6 : Int32) (x7 : Int32) (M : Mm) (hS : Sm M0 M), NJ M0 (Ruin_reckon_L57 k13 n x0 x1 x2 x3 x4 x5 x6 x7 M) := by
  intro n
  induction n with
  | zero => intros; exact NJ_none
  | succ n ih => intro x0 x1 x2 x3 x4 x5 x6 x7 M hS; exact nj_Ruin_reckon_B57 k13 _ hk13 ih x0 x1 x2 x3 x4 x5 x6 x7 M hS
theorem fj_Ruin_reckon_B13 {D : Nat → Prop} {M0 : Mm} (hT : Tp D M0) (k13 : Nat → Nat → Int32 → Nat → Int32 → Int32 → Int32 → Mm → Option (Unit × Mm)) (hk13 : ∀ (x0 : Nat) (hx0 : D x0) (x1 : Nat) (hx1 : D x1) (x2 : Int32) (x3 : Nat) (hx3 : D x3) (x4 : Int32) (x5 : Int32) (x6 : Int32) (M : Mm) (hF : Fr D M0 M), FJ D M0 (k13 x0 x1 x2 x3 x4 x5 x6 M)) (x0 : Nat) (hx0 : D x0) (x1 : Nat) (hx1 : D x1) (x2 : Int32) (x3 : Nat) (hx3 : D x3) (x4 : Int32) (x5 : Int32) (x6 : Int32) (M : Mm) (hF : Fr D M0 M) : FJ D M0 (Ruin_reckon_B13 k13 x0 x1 x2 x3 x4 x5 x6 M) := by
  unfold Ruin_reckon_B13
  refine FJ_if ?_ ?_
  · exact fj_Ruin_reckon_L117 hT fu _ hx0 _ hx1 _ _ _ hF
  · refine FJ_ck ?_
    refine FJ_nn hF hx0 (fun b12 hb12 => ?_)
    refine FJ_ck ?_
    refine FJ_nn (Fr_sI hF hb12) hx0 (fun b15 hb15 => ?_)
    refine FJ_ck ?_
    refine FJ_nn (Fr_sI (Fr_sI hF hb12) hb15) hx0 (fun b18 hb18 => ?_)
    refine FJ_ck ?_
    refine FJ_nn (Fr_sI (Fr_sI hF hb12) hb15) hx1 (fun b20 hb20 => ?_)
    refine FJ_ck ?_
    refine FJ_bd hT (Fr_sI (Fr_sI hF hb12) hb15) (fun gC gT => fj_Math_max_L gC gT _ _) (fun r22 M23 hFM23 => ?_)
    refine FJ_ck ?_
    exact fj_Ruin_reckon_L57 hT k13 hk13 fu _ hx0 _ hx1 _ _ hx3 _ _ _ _ _ (Fr_sL hFM23 hb18)
theorem nj_Ruin_reckon_B13 {M0 : Mm} (k13 : Nat → Nat → Int32 → Nat → Int32 → Int32 → Int32 → Mm → Option (Unit × Mm)) (hk13 : ∀ (x0 : Nat) (x1 : Nat) (x2 : Int32) (x3 : Nat) (x4 : Int32) (x5 : Int32) (x6 : Int32) (M : Mm) (hS : Sm M0 M), NJ M0 (k13 x0 x1 x2 x3 x4 x5 x6 M)) (x0 : Nat) (x1 : Nat) (x2 : Int32) (x3 : Nat) (x4 : Int32) (x5 : Int32) (x6 : Int32) (M : Mm) (hS : Sm M0 M) : NJ M0 (Ruin_reckon_B13 k13 x0 x1 x2 x3 x4 x5 x6 M) := by
  unfold Ruin_reckon_B13
  refine NJ_if ?_ ?_
  · exact nj_Ruin_reckon_L117 fu _ _ _ _ _ hS
  · refine NJ_ck ?_
    refine NJ_nn (fun b12 => ?_)
    refine NJ_ck ?_
    refine NJ_nn (fun b15 => ?_)
    refine NJ_ck ?_
    refine NJ_nn (fun b18 => ?_)
    refine NJ_ck ?_
    refine NJ_nn (fun b20 => ?_)
    refine NJ_ck ?_
    refine NJ_bd (Sm_sI (Sm_sI hS)) (nj_Math_max_L _ _ _) (fun r22 M23 hSM23 => ?_)
    refine NJ_ck ?_
    exact nj_Ruin_reckon_L57 k13 hk13 fu _ _ _ _ _ _ _ _ _ (Sm_sL hSM23)
theorem fj_Ruin_reckon_L13 {D : Nat → Prop} {M0 : Mm} (hT : Tp D M0) : ∀ (n : Nat) (x0 : Nat) (hx0 : D x0) (x1 : Nat) (hx1 : D x1) (x2 : Int32) (x3 : Nat) (hx3 : D x3) (x4 : Int32) (x5 : Int32) (x6 : Int32) (M : Mm) (hF : Fr D M0 M), FJ D M0 (Ruin_reckon_L13 n x0 x1 x2 x3 x4 x5 x6 M) := by
  intro n
  induction n with
  | zero => intros; exact FJ_none
  | succ n ih => intro x0 hx0 x1 hx1 x2 x3 hx3 x4 x5 x6 M hF; exact fj_Ruin_reckon_B13 hT _ ih x0 hx0 x1 hx1 x2 x3 hx3 x4 x5 x6 M hF
theorem nj_Ruin_reckon_L13 {M0 : Mm} : ∀ (n : Nat) (x0 : Nat) (x1 : Nat) (x2 : Int32) (x3 : Nat) (x4 : Int32) (x5 : Int32) (x6 : Int32) (M : Mm) (hS : Sm M0 M), NJ M0 (Ruin_reckon_L13 n x0 x1 x2 x3 x4 x5 x6 M) := by
  intro n
  induction n with
  | zero => intros; exact NJ_none
  | succ n ih => intro x0 x1 x2 x3 x4 x5 x6 M hS; exact nj_Ruin_reckon_B13 _ ih x0 x1 x2 x3 x4 x5 x6 M hS
theorem fj_Ruin_reckon {D : Nat → Prop} {M : Mm} (hC : Cl D M) (hT : Tp D M) (a0 : Nat) (h0 : D a0) (a1 : Nat) (h1 : D a1) (a2 : Int32) (a3 : Nat) (h3 : D a3) (a4 : Int32) (a5 : Int32) : FJ D M (Ruin_reckon M a0 a1 a2 a3 a4 a5) := by
  unfold Ruin_reckon
  refine FJ_ck ?_
  exact fj_Ruin_reckon_L13 hT fu _ h0 _ h1 _ _ h3 _ _ _ _ (Fr_sI (Fr_sI (Fr.rf hC) h0) h0)
theorem nj_Ruin_reckon (M : Mm) (a0 : Nat) (a1 : Nat) (a2 : Int32) (a3 : Nat) (a4 : Int32) (a5 : Int32) : NJ M (Ruin_reckon M a0 a1 a2 a3 a4 a5) := by
  unfold Ruin_reckon
  refine NJ_ck ?_
  exact nj_Ruin_reckon_L13 fu _ _ _ _ _ _ _ _ (Sm_sI (Sm_sI Sm.rf))
theorem fj_Land_new {D : Nat → Prop} {M : Mm} (hC : Cl D M) (hT : Tp D M) (a0 : Nat) (h0 : D a0) : FJ D M (Land_new M a0) := by
  unfold Land_new
  refine FJ_ck ?_
  refine FJ_ck ?_
  refine FJ_ck ?_
  refine FJ_ck ?_
  refine FJ_ck ?_
  refine FJ_ck ?_
  refine FJ_nn (Fr_sI (Fr_sRs (Fr_nw hT (Fr_sRs (Fr_nw hT (Fr_sRs (Fr_nw hT (Fr_sRs (Fr_nw hT (Fr_sRs (Fr_nw hT (Fr_sRs (Fr_nw hT (Fr.rf hC)) h0 (hT _ (Fr.z (Fr.rf hC))))) h0 (hT _ (Fr.z (Fr_sRs (Fr_nw hT (Fr.rf hC)) h0 (hT _ (Fr.z (Fr.rf hC)))))))) h0 (hT _ (Fr.z (Fr_sRs (Fr_nw hT (Fr_sRs (Fr_nw hT (Fr.rf hC)) h0 (hT _ (Fr.z (Fr.rf hC))))) h0 (hT _ (Fr.z (Fr_sRs (Fr_nw hT (Fr.rf hC)) h0 (hT _ (Fr.z (Fr.rf hC))))))))))) h0 (hT _ (Fr.z (Fr_sRs (Fr_nw hT (Fr_sRs (Fr_nw hT (Fr_sRs (Fr_nw hT (Fr.rf hC)) h0 (hT _ (Fr.z (Fr.rf hC))))) h0 (hT _ (Fr.z (Fr_sRs (Fr_nw hT (Fr.rf hC)) h0 (hT _ (Fr.z (Fr.rf hC)))))))) h0 (hT _ (Fr.z (Fr_sRs (Fr_nw hT (Fr_sRs (Fr_nw hT (Fr.rf hC)) h0 (hT _ (Fr.z (Fr.rf hC))))) h0 (hT _ (Fr.z (Fr_sRs (Fr_nw hT (Fr.rf hC)) h0 (hT _ (Fr.z (Fr.rf hC)))))))))))))) h0 (hT _ (Fr.z (Fr_sRs (Fr_nw hT (Fr_sRs (Fr_nw hT (Fr_sRs (Fr_nw hT (Fr_sRs (Fr_nw hT (Fr.rf hC)) h0 (hT _ (Fr.z (Fr.rf hC))))) h0 (hT _ (Fr.z (Fr_sRs (Fr_nw hT (Fr.rf hC)) h0 (hT _ (Fr.z (Fr.rf hC)))))))) h0 (hT _ (Fr.z (Fr_sRs (Fr_nw hT (Fr_sRs (Fr_nw hT (Fr.rf hC)) h0 (hT _ (Fr.z (Fr.rf hC))))) h0 (hT _ (Fr.z (Fr_sRs (Fr_nw hT (Fr.rf hC)) h0 (hT _ (Fr.z (Fr.rf hC))))))))))) h0 (hT _ (Fr.z (Fr_sRs (Fr_nw hT (Fr_sRs (Fr_nw hT (Fr_sRs (Fr_nw hT (Fr.rf hC)) h0 (hT _ (Fr.z (Fr.rf hC))))) h0 (hT _ (Fr.z (Fr_sRs (Fr_nw hT (Fr.rf hC)) h0 (hT _ (Fr.z (Fr.rf hC)))))))) h0 (hT _ (Fr.z (Fr_sRs (Fr_nw hT (Fr_sRs (Fr_nw hT (Fr.rf hC)) h0 (hT _ (Fr.z (Fr.rf hC))))) h0 (hT _ (Fr.z (Fr_sRs (Fr_nw hT (Fr.rf hC)) h0 (hT _ (Fr.z (Fr.rf hC))))))))))))))))) h0 (hT _ (Fr.z (Fr_sRs (Fr_nw hT (Fr_sRs (Fr_nw hT (Fr_sRs (Fr_nw hT (Fr_sRs (Fr_nw hT (Fr_sRs (Fr_nw hT (Fr.rf hC)) h0 (hT _ (Fr.z (Fr.rf hC))))) h0 (hT _ (Fr.z (Fr_sRs (Fr_nw hT (Fr.rf hC)) h0 (hT _ (Fr.z (Fr.rf hC)))))))) h0 (hT _ (Fr.z (Fr_sRs (Fr_nw hT (Fr_sRs (Fr_nw hT (Fr.rf hC)) h0 (hT _ (Fr.z (Fr.rf hC))))) h0 (hT _ (Fr.z (Fr_sRs (Fr_nw hT (Fr.rf hC)) h0 (hT _ (Fr.z (Fr.rf hC))))))))))) h0 (hT _ (Fr.z (Fr_sRs (Fr_nw hT (Fr_sRs (Fr_nw hT (Fr_sRs (Fr_nw hT (Fr.rf hC)) h0 (hT _ (Fr.z (Fr.rf hC))))) h0 (hT _ (Fr.z (Fr_sRs (Fr_nw hT (Fr.rf hC)) h0 (hT _ (Fr.z (Fr.rf hC)))))))) h0 (hT _ (Fr.z (Fr_sRs (Fr_nw hT (Fr_sRs (Fr_nw hT (Fr.rf hC)) h0 (hT _ (Fr.z (Fr.rf hC))))) h0 (hT _ (Fr.z (Fr_sRs (Fr_nw hT (Fr.rf hC)) h0 (hT _ (Fr.z (Fr.rf hC)))))))))))))) h0 (hT _ (Fr.z (Fr_sRs (Fr_nw hT (Fr_sRs (Fr_nw hT (Fr_sRs (Fr_nw hT (Fr_sRs (Fr_nw hT (Fr.rf hC)) h0 (hT _ (Fr.z (Fr.rf hC))))) h0 (hT _ (Fr.z (Fr_sRs (Fr_nw hT (Fr.rf hC)) h0 (hT _ (Fr.z (Fr.rf hC)))))))) h0 (hT _ (Fr.z (Fr_sRs (Fr_nw hT (Fr_sRs (Fr_nw hT (Fr.rf hC)) h0 (hT _ (Fr.z (Fr.rf hC))))) h0 (hT _ (Fr.z (Fr_sRs (Fr_nw hT (Fr.rf hC)) h0 (hT _ (Fr.z (Fr.rf hC))))))))))) h0 (hT _ (Fr.z (Fr_sRs (Fr_nw hT (Fr_sRs (Fr_nw hT (Fr_sRs (Fr_nw hT (Fr.rf hC)) h0 (hT _ (Fr.z (Fr.rf hC))))) h0 (hT _ (Fr.z (Fr_sRs (Fr_nw hT (Fr.rf hC)) h0 (hT _ (Fr.z (Fr.rf hC)))))))) h0 (hT _ (Fr.z (Fr_sRs (Fr_nw hT (Fr_sRs (Fr_nw hT (Fr.rf hC)) h0 (hT _ (Fr.z (Fr.rf hC))))) h0 (hT _ (Fr.z (Fr_sRs (Fr_nw hT (Fr.rf hC)) h0 (hT _ (Fr.z (Fr.rf hC))))))))))))))))))) h0) h0 (fun b20 hb20 => ?_)
  refine FJ_bd hT (Fr_sI (Fr_sRs (Fr_nw hT (Fr_sRs (Fr_nw hT (Fr_sRs (Fr_nw hT (Fr_sRs (Fr_nw hT (Fr_sRs (Fr_nw hT (Fr_sRs (Fr_nw hT (Fr.rf hC)) h0 (hT _ (Fr.z (Fr.rf hC))))) h0 (hT _ (Fr.z (Fr_sRs (Fr_nw hT (Fr.rf hC)) h0 (hT _ (Fr.z (Fr.rf hC)))))))) h0 (hT _ (Fr.z (Fr_sRs (Fr_nw hT (Fr_sRs (Fr_nw hT (Fr.rf hC)) h0 (hT _ (Fr.z (Fr.rf hC))))) h0 (hT _ (Fr.z (Fr_sRs (Fr_nw hT (Fr.rf hC)) h0 (hT _ (Fr.z (Fr.rf hC))))))))))) h0 (hT _ (Fr.z (Fr_sRs (Fr_nw hT (Fr_sRs (Fr_nw hT (Fr_sRs (Fr_nw hT (Fr.rf hC)) h0 (hT _ (Fr.z (Fr.rf hC))))) h0 (hT _ (Fr.z (Fr_sRs (Fr_nw hT (Fr.rf hC)) h0 (hT _ (Fr.z (Fr.rf hC)))))))) h0 (hT _ (Fr.z (Fr_sRs (Fr_nw hT (Fr_sRs (Fr_nw hT (Fr.rf hC)) h0 (hT _ (Fr.z (Fr.rf hC))))) h0 (hT _ (Fr.z (Fr_sRs (Fr_nw hT (Fr.rf hC)) h0 (hT _ (Fr.z (Fr.rf hC)))))))))))))) h0 (hT _ (Fr.z (Fr_sRs (Fr_nw hT (Fr_sRs (Fr_nw hT (Fr_sRs (Fr_nw hT (Fr_sRs (Fr_nw hT (Fr.rf hC)) h0 (hT _ (Fr.z (Fr.rf hC))))) h0 (hT _ (Fr.z (Fr_sRs (Fr_nw hT (Fr.rf hC)) h0 (hT _ (Fr.z (Fr.rf hC)))))))) h0 (hT _ (Fr.z (Fr_sRs (Fr_nw hT (Fr_sRs (Fr_nw hT (Fr.rf hC)) h0 (hT _ (Fr.z (Fr.rf hC))))) h0 (hT _ (Fr.z (Fr_sRs (Fr_nw hT (Fr.rf hC)) h0 (hT _ (Fr.z (Fr.rf hC))))))))))) h0 (hT _ (Fr.z (Fr_sRs (Fr_nw hT (Fr_sRs (Fr_nw hT (Fr_sRs (Fr_nw hT (Fr.rf hC)) h0 (hT _ (Fr.z (Fr.rf hC))))) h0 (hT _ (Fr.z (Fr_sRs (Fr_nw hT (Fr.rf hC)) h0 (hT _ (Fr.z (Fr.rf hC)))))))) h0 (hT _ (Fr.z (Fr_sRs (Fr_nw hT (Fr_sRs (Fr_nw hT (Fr.rf hC)) h0 (hT _ (Fr.z (Fr.rf hC))))) h0 (hT _ (Fr.z (Fr_sRs (Fr_nw hT (Fr.rf hC)) h0 (hT _ (Fr.z (Fr.rf hC))))))))))))))))) h0 (hT _ (Fr.z (Fr_sRs (Fr_nw hT (Fr_sRs (Fr_nw hT (Fr_sRs (Fr_nw hT (Fr_sRs (Fr_nw hT (Fr_sRs (Fr_nw hT (Fr.rf hC)) h0 (hT _ (Fr.z (Fr.rf hC))))) h0 (hT _ (Fr.z (Fr_sRs (Fr_nw hT (Fr.rf hC)) h0 (hT _ (Fr.z (Fr.rf hC)))))))) h0 (hT _ (Fr.z (Fr_sRs (Fr_nw hT (Fr_sRs (Fr_nw hT (Fr.rf hC)) h0 (hT _ (Fr.z (Fr.rf hC))))) h0 (hT _ (Fr.z (Fr_sRs (Fr_nw hT (Fr.rf hC)) h0 (hT _ (Fr.z (Fr.rf hC))))))))))) h0 (hT _ (Fr.z (Fr_sRs (Fr_nw hT (Fr_sRs (Fr_nw hT (Fr_sRs (Fr_nw hT (Fr.rf hC)) h0 (hT _ (Fr.z (Fr.rf hC))))) h0 (hT _ (Fr.z (Fr_sRs (Fr_nw hT (Fr.rf hC)) h0 (hT _ (Fr.z (Fr.rf hC)))))))) h0 (hT _ (Fr.z (Fr_sRs (Fr_nw hT (Fr_sRs (Fr_nw hT (Fr.rf hC)) h0 (hT _ (Fr.z (Fr.rf hC))))) h0 (hT _ (Fr.z (Fr_sRs (Fr_nw hT (Fr.rf hC)) h0 (hT _ (Fr.z (Fr.rf hC)))))))))))))) h0 (hT _ (Fr.z (Fr_sRs (Fr_nw hT (Fr_sRs (Fr_nw hT (Fr_sRs (Fr_nw hT (Fr_sRs (Fr_nw hT (Fr.rf hC)) h0 (hT _ (Fr.z (Fr.rf hC))))) h0 (hT _ (Fr.z (Fr_sRs (Fr_nw hT (Fr.rf hC)) h0 (hT _ (Fr.z (Fr.rf hC)))))))) h0 (hT _ (Fr.z (Fr_sRs (Fr_nw hT (Fr_sRs (Fr_nw hT (Fr.rf hC)) h0 (hT _ (Fr.z (Fr.rf hC))))) h0 (hT _ (Fr.z (Fr_sRs (Fr_nw hT (Fr.rf hC)) h0 (hT _ (Fr.z (Fr.rf hC))))))))))) h0 (hT _ (Fr.z (Fr_sRs (Fr_nw hT (Fr_sRs (Fr_nw hT (Fr_sRs (Fr_nw hT (Fr.rf hC)) h0 (hT _ (Fr.z (Fr.rf hC))))) h0 (hT _ (Fr.z (Fr_sRs (Fr_nw hT (Fr.rf hC)) h0 (hT _ (Fr.z (Fr.rf hC)))))))) h0 (hT _ (Fr.z (Fr_sRs (Fr_nw hT (Fr_sRs (Fr_nw hT (Fr.rf hC)) h0 (hT _ (Fr.z (Fr.rf hC))))) h0 (hT _ (Fr.z (Fr_sRs (Fr_nw hT (Fr.rf hC)) h0 (hT _ (Fr.z (Fr.rf hC))))))))))))))))))) h0) (fun gC gT => fj_Arr_fill gC gT _ hb20 _) (fun _ M22 hFM22 => ?_)
  exact FJ_leaf hFM22
theorem fj_Land_addTown {D : Nat → Prop} {M : Mm} (hC : Cl D M) (hT : Tp D M) (a0 : Nat) (h0 : D a0) : FJ D M (Land_addTown M a0) := by
  unfold Land_addTown
  refine FJ_ck ?_
  refine FJ_if ?_ ?_
  · exact FJ_leaf (Fr_sI (Fr.rf hC) h0)
  · exact FJ_leaf (Fr.rf hC)
theorem nj_Land_addTown (M : Mm) (a0 : Nat) : NJ M (Land_addTown M a0) := by
  unfold Land_addTown
  refine NJ_ck ?_
  refine NJ_if ?_ ?_
  · exact NJ_leaf (Sm_sI Sm.rf)
  · exact NJ_leaf Sm.rf
theorem fj_Land_has {D : Nat → Prop} {M : Mm} (hC : Cl D M) (hT : Tp D M) (a0 : Nat) (h0 : D a0) (a1 : Int32) : FJ D M (Land_has M a0 a1) := by
  unfold Land_has
  refine FJ_if ?_ ?_
  · exact FJ_leaf (Fr.rf hC)
  · refine FJ_ck ?_
    refine FJ_if ?_ ?_
    · exact FJ_leaf (Fr.rf hC)
    · exact FJ_leaf (Fr.rf hC)
theorem nj_Land_has (M : Mm) (a0 : Nat) (a1 : Int32) : NJ M (Land_has M a0 a1) := by
  unfold Land_has
  refine NJ_if ?_ ?_
  · exact NJ_leaf Sm.rf
  · refine NJ_ck ?_
    refine NJ_if ?_ ?_
    · exact NJ_leaf Sm.rf
    · exact NJ_leaf Sm.rf
theorem fj_Hall_isWithin {D : Nat → Prop} {M : Mm} (hC : Cl D M) (hT : Tp D M) (a0 : Int32) (a1 : Int32) (a2 : Int32) : FJ D M (Hall_isWithin M a0 a1 a2) := by
  unfold Hall_isWithin
  refine FJ_if ?_ ?_
  · exact FJ_leaf (Fr.rf hC)
  · refine FJ_if ?_ ?_
    · exact FJ_leaf (Fr.rf hC)
    · exact FJ_leaf (Fr.rf hC)
theorem nj_Hall_isWithin (M : Mm) (a0 : Int32) (a1 : Int32) (a2 : Int32) : NJ M (Hall_isWithin M a0 a1 a2) := by
  unfold Hall_isWithin
  refine NJ_if ?_ ?_
  · exact NJ_leaf Sm.rf
  · refine NJ_if ?_ ?_
    · exact NJ_leaf Sm.rf
    · exact NJ_leaf Sm.rf
theorem fj_Land_setFog {D : Nat → Prop} {M : Mm} (hC : Cl D M) (hT : Tp D M) (a0 : Nat) (h0 : D a0) (a1 : Int32) (a2 : Int32) (a3 : Int32) : FJ D M (Land_setFog M a0 a1 a2 a3) := by
  unfold Land_setFog
  refine FJ_ck ?_
  refine FJ_bd hT (Fr.rf hC) (fun gC gT => fj_Land_has gC gT _ h0 _) (fun r2 M3 hFM3 => ?_)
  refine FJ_if ?_ ?_
  · exact FJ_leaf hFM3
  · refine FJ_if ?_ ?_
    · refine FJ_ck ?_
      refine FJ_nn hFM3 h0 (fun b16 hb16 => ?_)
      refine FJ_ck ?_
      exact FJ_leaf (Fr_sI hFM3 hb16)
    · refine FJ_bd hT hFM3 (fun gC gT => fj_Hall_isWithin gC gT _ _ _) (fun r4 M5 hFM5 => ?_)
      refine FJ_if ?_ ?_
      · exact FJ_leaf hFM5
      · refine FJ_bd hT hFM5 (fun gC gT => fj_Hall_isWithin gC gT _ _ _) (fun r6 M7 hFM7 => ?_)
        refine FJ_if ?_ ?_
        · exact FJ_leaf hFM7
        · refine FJ_ck ?_
          refine FJ_nn hFM7 h0 (fun b9 hb9 => ?_)
          refine FJ_ck ?_
          refine FJ_nn (Fr_sI hFM7 hb9) h0 (fun b12 hb12 => ?_)
          refine FJ_ck ?_
          exact FJ_leaf (Fr_sI (Fr_sI hFM7 hb9) hb12)
theorem nj_Land_setFog (M : Mm) (a0 : Nat) (a1 : Int32) (a2 : Int32) (a3 : Int32) : NJ M (Land_setFog M a0 a1 a2 a3) := by
  unfold Land_setFog
  refine NJ_ck ?_
  refine NJ_bd Sm.rf (nj_Land_has _ _ _) (fun r2 M3 hSM3 => ?_)
  refine NJ_if ?_ ?_
  · exact NJ_leaf hSM3
  · refine NJ_if ?_ ?_
    · refine NJ_ck ?_
      refine NJ_nn (fun b16 => ?_)
      refine NJ_ck ?_
      exact NJ_leaf (Sm_sI hSM3)
    · refine NJ_bd hSM3 (nj_Hall_isWithin _ _ _ _) (fun r4 M5 hSM5 => ?_)
      refine NJ_if ?_ ?_
      · exact NJ_leaf hSM5
      · refine NJ_bd hSM5 (nj_Hall_isWithin _ _ _ _) (fun r6 M7 hSM7 => ?_)
        refine NJ_if ?_ ?_
        · exact NJ_leaf hSM7
        · refine NJ_ck ?_
          refine NJ_nn (fun b9 => ?_)
          refine NJ_ck ?_
          refine NJ_nn (fun b12 => ?_)
          refine NJ_ck ?_
          exact NJ_leaf (Sm_sI (Sm_sI hSM7))
theorem fj_Land_setRoad {D : Nat → Prop} {M : Mm} (hC : Cl D M) (hT : Tp D M) (a0 : Nat) (h0 : D a0) (a1 : Int32) (a2 : Int32) (a3 : Int32) (a4 : Int32) : FJ D M (Land_setRoad M a0 a1 a2 a3 a4) := by
  unfold Land_setRoad
  refine FJ_ck ?_
  refine FJ_bd hT (Fr.rf hC) (fun gC gT => fj_Land_has gC gT _ h0 _) (fun r2 M3 hFM3 => ?_)
  refine FJ_if ?_ ?_
  · exact FJ_leaf hFM3
  · refine FJ_ck ?_
    refine FJ_bd hT hFM3 (fun gC gT => fj_Land_has gC gT _ h0 _) (fun r5 M6 hFM6 => ?_)
    refine FJ_if ?_ ?_
    · exact FJ_leaf hFM6
    · refine FJ_if ?_ ?_
      · exact FJ_leaf hFM6
      · refine FJ_bd hT hFM6 (fun gC gT => fj_Hall_isWithin gC gT _ _ _) (fun r7 M8 hFM8 => ?_)
        refine FJ_if ?_ ?_
        · exact FJ_leaf hFM8
        · refine FJ_bd hT hFM8 (fun gC gT => fj_Hall_isWithin gC gT _ _ _) (fun r9 M10 hFM10 => ?_)
          refine FJ_if ?_ ?_
          · exact FJ_leaf hFM10
          · refine FJ_ck ?_
            refine FJ_nn hFM10 h0 (fun b12 hb12 => ?_)
            refine FJ_ck ?_
            refine FJ_nn (Fr_sI hFM10 hb12) h0 (fun b15 hb15 => ?_)
            refine FJ_ck ?_
            refine FJ_nn (Fr_sI (Fr_sI hFM10 hb12) hb15) h0 (fun b18 hb18 => ?_)
            refine FJ_ck ?_
            refine FJ_nn (Fr_sI (Fr_sI (Fr_sI hFM10 hb12) hb15) hb18) h0 (fun b21 hb21 => ?_)
            refine FJ_ck ?_
            exact FJ_leaf (Fr_sI (Fr_sI (Fr_sI (Fr_sI hFM10 hb12) hb15) hb18) hb21)
theorem nj_Land_setRoad (M : Mm) (a0 : Nat) (a1 : Int32) (a2 : Int32) (a3 : Int32) (a4 : Int32) : NJ M (Land_setRoad M a0 a1 a2 a3 a4) := by
  unfold Land_setRoad
  refine NJ_ck ?_
  refine NJ_bd Sm.rf (nj_Land_has _ _ _) (fun r2 M3 hSM3 => ?_)
  refine NJ_if ?_ ?_
  · exact NJ_leaf hSM3
  · refine NJ_ck ?_
    refine NJ_bd hSM3 (nj_Land_has _ _ _) (fun r5 M6 hSM6 => ?_)
    refine NJ_if ?_ ?_
    · exact NJ_leaf hSM6
    · refine NJ_if ?_ ?_
      · exact NJ_leaf hSM6
      · refine NJ_bd hSM6 (nj_Hall_isWithin _ _ _ _) (fun r7 M8 hSM8 => ?_)
        refine NJ_if ?_ ?_
        · exact NJ_leaf hSM8
        · refine NJ_bd hSM8 (nj_Hall_isWithin _ _ _ _) (fun r9 M10 hSM10 => ?_)
          refine NJ_if ?_ ?_
          · exact NJ_leaf hSM10
          · refine NJ_ck ?_
            refine NJ_nn (fun b12 => ?_)
            refine NJ_ck ?_
            refine NJ_nn (fun b15 => ?_)
            refine NJ_ck ?_
            refine NJ_nn (fun b18 => ?_)
            refine NJ_ck ?_
            refine NJ_nn (fun b21 => ?_)
            refine NJ_ck ?_
            exact NJ_leaf (Sm_sI (Sm_sI (Sm_sI (Sm_sI hSM10))))
theorem fj_Land_earliestToPassOn_J54 {D : Nat → Prop} {M0 : Mm} (hT : Tp D M0) (k4 : Nat → Int32 → Int32 → Mm → Option (Int32 × Mm)) (hk4 : ∀ (x0 : Nat) (hx0 : D x0) (x1 : Int32) (x2 : Int32) (M : Mm) (hF : Fr D M0 M), FJ D M0 (k4 x0 x1 x2 M)) (x0 : Nat) (hx0 : D x0) (x1 : Int32) (x2 : Int32) (M : Mm) (hF : Fr D M0 M) : FJ D M0 (Land_earliestToPassOn_J54 k4 x0 x1 x2 M) := by
  unfold Land_earliestToPassOn_J54
  exact hk4 _ hx0 _ _ _ hF
theorem nj_Land_earliestToPassOn_J54 {M0 : Mm} (k4 : Nat → Int32 → Int32 → Mm → Option (Int32 × Mm)) (hk4 : ∀ (x0 : Nat) (x1 : Int32) (x2 : Int32) (M : Mm) (hS : Sm M0 M), NJ M0 (k4 x0 x1 x2 M)) (x0 : Nat) (x1 : Int32) (x2 : Int32) (M : Mm) (hS : Sm M0 M) : NJ M0 (Land_earliestToPassOn_J54 k4 x0 x1 x2 M) := by
  unfold Land_earliestToPassOn_J54
  exact hk4 _ _ _ _ hS
theorem fj_Land_earliestToPassOn_J52 {D : Nat → Prop} {M0 : Mm} (hT : Tp D M0) (k4 : Nat → Int32 → Int32 → Mm → Option (Int32 × Mm)) (hk4 : ∀ (x0 : Nat) (hx0 : D x0) (x1 : Int32) (x2 : Int32) (M : Mm) (hF : Fr D M0 M), FJ D M0 (k4 x0 x1 x2 M)) (x0 : Nat) (hx0 : D x0) (x2 : Int32) (M : Mm) (hF : Fr D M0 M) : FJ D M0 (Land_earliestToPassOn_J52 k4 x0 x2 M) := by
  unfold Land_earliestToPassOn_J52
  exact fj_Land_earliestToPassOn_J54 hT k4 hk4 _ hx0 _ _ _ hF
theorem nj_Land_earliestToPassOn_J52 {M0 : Mm} (k4 : Nat → Int32 → Int32 → Mm → Option (Int32 × Mm)) (hk4 : ∀ (x0 : Nat) (x1 : Int32) (x2 : Int32) (M : Mm) (hS : Sm M0 M), NJ M0 (k4 x0 x1 x2 M)) (x0 : Nat) (x2 : Int32) (M : Mm) (hS : Sm M0 M) : NJ M0 (Land_earliestToPassOn_J52 k4 x0 x2 M) := by
  unfold Land_earliestToPassOn_J52
  exact nj_Land_earliestToPassOn_J54 k4 hk4 _ _ _ _ hS
theorem fj_Land_earliestToPassOn_B4 {D : Nat → Prop} {M0 : Mm} (hT : Tp D M0) (k4 : Nat → Int32 → Int32 → Mm → Option (Int32 × Mm)) (hk4 : ∀ (x0 : Nat) (hx0 : D x0) (x1 : Int32) (x2 : Int32) (M : Mm) (hF : Fr D M0 M), FJ D M0 (k4 x0 x1 x2 M)) (x0 : Nat) (hx0 : D x0) (x1 : Int32) (x2 : Int32) (M : Mm) (hF : Fr D M0 M) : FJ D M0 (Land_earliestToPassOn_B4 k4 x0 x1 x2 M) := by
  unfold Land_earliestToPassOn_B4
  refine FJ_ck ?_
  refine FJ_if ?_ ?_
  · exact FJ_leaf hF
  · refine FJ_nn hF hx0 (fun b2 hb2 => ?_)
    refine FJ_ck ?_
    refine FJ_if ?_ ?_
    · refine FJ_nn hF hx0 (fun b5 hb5 => ?_)
      refine FJ_ck ?_
      refine FJ_if ?_ ?_
      · exact fj_Land_earliestToPassOn_J54 hT k4 hk4 _ hx0 _ _ _ hF
      · refine FJ_if ?_ ?_
        · exact fj_Land_earliestToPassOn_J52 hT k4 hk4 _ hx0 _ _ hF
        · refine FJ_nn hF hx0 (fun b7 hb7 => ?_)
          refine FJ_ck ?_
          refine FJ_nn hF hx0 (fun b9 hb9 => ?_)
          refine FJ_ck ?_
          refine FJ_if ?_ ?_
          · exact fj_Land_earliestToPassOn_J54 hT k4 hk4 _ hx0 _ _ _ hF
          · exact fj_Land_earliestToPassOn_J52 hT k4 hk4 _ hx0 _ _ hF
    · exact fj_Land_earliestToPassOn_J54 hT k4 hk4 _ hx0 _ _ _ hF
theorem nj_Land_earliestToPassOn_B4 {M0 : Mm} (k4 : Nat → Int32 → Int32 → Mm → Option (Int32 × Mm)) (hk4 : ∀ (x0 : Nat) (x1 : Int32) (x2 : Int32) (M : Mm) (hS : Sm M0 M), NJ M0 (k4 x0 x1 x2 M)) (x0 : Nat) (x1 : Int32) (x2 : Int32) (M : Mm) (hS : Sm M0 M) : NJ M0 (Land_earliestToPassOn_B4 k4 x0 x1 x2 M) := by
  unfold Land_earliestToPassOn_B4
  refine NJ_ck ?_
  refine NJ_if ?_ ?_
  · exact NJ_leaf hS
  · refine NJ_nn (fun b2 => ?_)
    refine NJ_ck ?_
    refine NJ_if ?_ ?_
    · refine NJ_nn (fun b5 => ?_)
      refine NJ_ck ?_
      refine NJ_if ?_ ?_
      · exact nj_Land_earliestToPassOn_J54 k4 hk4 _ _ _ _ hS
      · refine NJ_if ?_ ?_
        · exact nj_Land_earliestToPassOn_J52 k4 hk4 _ _ _ hS
        · refine NJ_nn (fun b7 => ?_)
          refine NJ_ck ?_
          refine NJ_nn (fun b9 => ?_)
          refine NJ_ck ?_
          refine NJ_if ?_ ?_
          · exact nj_Land_earliestToPassOn_J54 k4 hk4 _ _ _ _ hS
          · exact nj_Land_earliestToPassOn_J52 k4 hk4 _ _ _ hS
    · exact nj_Land_earliestToPassOn_J54 k4 hk4 _ _ _ _ hS
theorem fj_Land_earliestToPassOn_L4 {D : Nat → Prop} {M0 : Mm} (hT : Tp D M0) : ∀ (n : Nat) (x0 : Nat) (hx0 : D x0) (x1 : Int32) (x2 : Int32) (M : Mm) (hF : Fr D M0 M), FJ D M0 (Land_earliestToPassOn_L4 n x0 x1 x2 M) := by
  intro n
  induction n with
  | zero => intros; exact FJ_none
  | succ n ih => intro x0 hx0 x1 x2 M hF; exact fj_Land_earliestToPassOn_B4 hT _ ih x0 hx0 x1 x2 M hF
theorem nj_Land_earliestToPassOn_L4 {M0 : Mm} : ∀ (n : Nat) (x0 : Nat) (x1 : Int32) (x2 : Int32) (M : Mm) (hS : Sm M0 M), NJ M0 (Land_earliestToPassOn_L4 n x0 x1 x2 M) := by
  intro n
  induction n with
  | zero => intros; exact NJ_none
  | succ n ih => intro x0 x1 x2 M hS; exact nj_Land_earliestToPassOn_B4 _ ih x0 x1 x2 M hS
theorem fj_Land_earliestToPassOn {D : Nat → Prop} {M : Mm} (hC : Cl D M) (hT : Tp D M) (a0 : Nat) (h0 : D a0) : FJ D M (Land_earliestToPassOn M a0) := by
  unfold Land_earliestToPassOn
  exact fj_Land_earliestToPassOn_L4 hT fu _ h0 _ _ _ (Fr.rf hC)
theorem nj_Land_earliestToPassOn (M : Mm) (a0 : Nat) : NJ M (Land_earliestToPassOn M a0) := by
  unfold Land_earliestToPassOn
  exact nj_Land_earliestToPassOn_L4 fu _ _ _ _ Sm.rf
theorem fj_Land_pastNight {D : Nat → Prop} {M : Mm} (hC : Cl D M) (hT : Tp D M) (a0 : Int32) : FJ D M (Land_pastNight M a0) := by
  unfold Land_pastNight
  refine FJ_if ?_ ?_
  · refine FJ_if ?_ ?_
    · exact FJ_leaf (Fr.rf hC)
    · exact FJ_leaf (Fr.rf hC)
  · exact FJ_leaf (Fr.rf hC)
theorem nj_Land_pastNight (M : Mm) (a0 : Int32) : NJ M (Land_pastNight M a0) := by
  unfold Land_pastNight
  refine NJ_if ?_ ?_
  · refine NJ_if ?_ ?_
    · exact NJ_leaf Sm.rf
    · exact NJ_leaf Sm.rf
  · exact NJ_leaf Sm.rf
theorem fj_Land_pastFog {D : Nat → Prop} {M : Mm} (hC : Cl D M) (hT : Tp D M) (a0 : Nat) (h0 : D a0) (a1 : Int32) (a2 : Int32) : FJ D M (Land_pastFog M a0 a1 a2) := by
  unfold Land_pastFog
  refine FJ_ck ?_
  refine FJ_nn (Fr.rf hC) h0 (fun b2 hb2 => ?_)
  refine FJ_ck ?_
  refine FJ_if ?_ ?_
  · exact FJ_leaf (Fr.rf hC)
  · refine FJ_nn (Fr.rf hC) h0 (fun b5 hb5 => ?_)
    refine FJ_ck ?_
    refine FJ_if ?_ ?_
    · exact FJ_leaf (Fr.rf hC)
    · exact FJ_leaf (Fr.rf hC)
theorem nj_Land_pastFog (M : Mm) (a0 : Nat) (a1 : Int32) (a2 : Int32) : NJ M (Land_pastFog M a0 a1 a2) := by
  unfold Land_pastFog
  refine NJ_ck ?_
  refine NJ_nn (fun b2 => ?_)
  refine NJ_ck ?_
  refine NJ_if ?_ ?_
  · exact NJ_leaf Sm.rf
  · refine NJ_nn (fun b5 => ?_)
    refine NJ_ck ?_
    refine NJ_if ?_ ?_
    · exact NJ_leaf Sm.rf
    · exact NJ_leaf Sm.rf
theorem fj_Land_flagsSeen_B6 {D : Nat → Prop} {M0 : Mm} (hT : Tp D M0) (k6 : Nat → Int32 → Int32 → Int32 → Int32 → Int32 → Mm → Option (Int32 × Mm)) (hk6 : ∀ (x0 : Nat) (hx0 : D x0) (x1 : Int32) (x2 : Int32) (x3 : Int32) (x4 : Int32) (x5 : Int32) (M : Mm) (hF : Fr D M0 M), FJ D M0 (k6 x0 x1 x2 x3 x4 x5 M)) (x0 : Nat) (hx0 : D x0) (x1 : Int32) (x2 : Int32) (x3 : Int32) (x4 : Int32) (x5 : Int32) (M : Mm) (hF : Fr D M0 M) : FJ D M0 (Land_flagsSeen_B6 k6 x0 x1 x2 x3 x4 x5 M) := by
  unfold Land_flagsSeen_B6
  refine FJ_if ?_ ?_
  · exact FJ_leaf hF
  · refine FJ_if ?_ ?_
    · exact FJ_leaf hF
    · refine FJ_bd hT hF (fun gC gT => fj_Land_pastNight gC gT _) (fun r1 M2 hFM2 => ?_)
      refine FJ_ck ?_
      refine FJ_bd hT hFM2 (fun gC gT => fj_Land_pastFog gC gT _ hx0 _ _) (fun r4 M5 hFM5 => ?_)
      refine FJ_ck ?_
      refine FJ_bd hT hFM5 (fun gC gT => fj_Land_pastFog gC gT _ hx0 _ _) (fun r7 M8 hFM8 => ?_)
      refine FJ_if ?_ ?_
      · exact FJ_leaf hFM8
      · exact hk6 _ hx0 _ _ _ _ _ _ hFM8
theorem nj_Land_flagsSeen_B6 {M0 : Mm} (k6 : Nat → Int32 → Int32 → Int32 → Int32 → Int32 → Mm → Option (Int32 × Mm)) (hk6 : ∀ (x0 : Nat) (x1 : Int32) (x2 : Int32) (x3 : Int32) (x4 : Int32) (x5 : Int32) (M : Mm) (hS : Sm M0 M), NJ M0 (k6 x0 x1 x2 x3 x4 x5 M)) (x0 : Nat) (x1 : Int32) (x2 : Int32) (x3 : Int32) (x4 : Int32) (x5 : Int32) (M : Mm) (hS : Sm M0 M) : NJ M0 (Land_flagsSeen_B6 k6 x0 x1 x2 x3 x4 x5 M) := by
  unfold Land_flagsSeen_B6
  refine NJ_if ?_ ?_
  · exact NJ_leaf hS
  · refine NJ_if ?_ ?_
    · exact NJ_leaf hS
    · refine NJ_bd hS (nj_Land_pastNight _ _) (fun r1 M2 hSM2 => ?_)
      refine NJ_ck ?_
      refine NJ_bd hSM2 (nj_Land_pastFog _ _ _ _) (fun r4 M5 hSM5 => ?_)
      refine NJ_ck ?_
      refine NJ_bd hSM5 (nj_Land_pastFog _ _ _ _) (fun r7 M8 hSM8 => ?_)
      refine NJ_if ?_ ?_
      · exact NJ_leaf hSM8
      · exact hk6 _ _ _ _ _ _ _ hSM8
theorem fj_Land_flagsSeen_L6 {D : Nat → Prop} {M0 : Mm} (hT : Tp D M0) : ∀ (n : Nat) (x0 : Nat) (hx0 : D x0) (x1 : Int32) (x2 : Int32) (x3 : Int32) (x4 : Int32) (x5 : Int32) (M : Mm) (hF : Fr D M0 M), FJ D M0 (Land_flagsSeen_L6 n x0 x1 x2 x3 x4 x5 M) := by
  intro n
  induction n with
  | zero => intros; exact FJ_none
  | succ n ih => intro x0 hx0 x1 x2 x3 x4 x5 M hF; exact fj_Land_flagsSeen_B6 hT _ ih x0 hx0 x1 x2 x3 x4 x5 M hF
theorem nj_Land_flagsSeen_L6 {M0 : Mm} : ∀ (n : Nat) (x0 : Nat) (x1 : Int32) (x2 : Int32) (x3 : Int32) (x4 : Int32) (x5 : Int32) (M : Mm) (hS : Sm M0 M), NJ M0 (Land_flagsSeen_L6 n x0 x1 x2 x3 x4 x5 M) := by
  intro n
  induction n with
  | zero => intros; exact NJ_none
  | succ n ih => intro x0 x1 x2 x3 x4 x5 M hS; exact nj_Land_flagsSeen_B6 _ ih x0 x1 x2 x3 x4 x5 M hS
theorem fj_Land_flagsSeen {D : Nat → Prop} {M : Mm} (hC : Cl D M) (hT : Tp D M) (a0 : Nat) (h0 : D a0) (a1 : Int32) (a2 : Int32) (a3 : Int32) : FJ D M (Land_flagsSeen M a0 a1 a2 a3) := by
  unfold Land_flagsSeen
  exact fj_Land_flagsSeen_L6 hT fu _ h0 _ _ _ _ _ _ (Fr.rf hC)
theorem nj_Land_flagsSeen (M : Mm) (a0 : Nat) (a1 : Int32) (a2 : Int32) (a3 : Int32) : NJ M (Land_flagsSeen M a0 a1 a2 a3) := by
  unfold Land_flagsSeen
  exact nj_Land_flagsSeen_L6 fu _ _ _ _ _ _ _ Sm.rf
theorem fj_Land_arrival {D : Nat → Prop} {M : Mm} (hC : Cl D M) (hT : Tp D M) (a0 : Nat) (h0 : D a0) (a1 : Int32) (a2 : Int32) : FJ D M (Land_arrival M a0 a1 a2) := by
  unfold Land_arrival
  refine FJ_ck ?_
  refine FJ_nn (Fr.rf hC) h0 (fun b3 hb3 => ?_)
  refine FJ_ck ?_
  refine FJ_nn (Fr.rf hC) h0 (fun b6 hb6 => ?_)
  refine FJ_ck ?_
  refine FJ_nn (Fr.rf hC) h0 (fun b9 hb9 => ?_)
  refine FJ_ck ?_
  refine FJ_if ?_ ?_
  · exact FJ_leaf (Fr.rf hC)
  · refine FJ_bd hT (Fr.rf hC) (fun gC gT => fj_Land_flagsSeen gC gT _ h0 _ _ _) (fun r11 M12 hFM12 => ?_)
    refine FJ_if ?_ ?_
    · exact FJ_leaf hFM12
    · refine FJ_ck ?_
      refine FJ_nn hFM12 h0 (fun b14 hb14 => ?_)
      refine FJ_ck ?_
      refine FJ_bd hT hFM12 (fun gC gT => fj_Math_min_I gC gT _ _) (fun r16 M17 hFM17 => ?_)
      exact FJ_leaf hFM17
theorem nj_Land_arrival (M : Mm) (a0 : Nat) (a1 : Int32) (a2 : Int32) : NJ M (Land_arrival M a0 a1 a2) := by
  unfold Land_arrival
  refine NJ_ck ?_
  refine NJ_nn (fun b3 => ?_)
  refine NJ_ck ?_
  refine NJ_nn (fun b6 => ?_)
  refine NJ_ck ?_
  refine NJ_nn (fun b9 => ?_)
  refine NJ_ck ?_
  refine NJ_if ?_ ?_
  · exact NJ_leaf Sm.rf
  · refine NJ_bd Sm.rf (nj_Land_flagsSeen _ _ _ _ _) (fun r11 M12 hSM12 => ?_)
    refine NJ_if ?_ ?_
    · exact NJ_leaf hSM12
    · refine NJ_ck ?_
      refine NJ_nn (fun b14 => ?_)
      refine NJ_ck ?_
      refine NJ_bd hSM12 (nj_Math_min_I _ _ _) (fun r16 M17 hSM17 => ?_)
      exact NJ_leaf hSM17
theorem fj_Land_passOn_J61 {D : Nat → Prop} {M0 : Mm} (hT : Tp D M0) (k9 : Nat → Int32 → Int32 → Mm → Option (Unit × Mm)) (hk9 : ∀ (x0 : Nat) (hx0 : D x0) (x1 : Int32) (x2 : Int32) (M : Mm) (hF : Fr D M0 M), FJ D M0 (k9 x0 x1 x2 M)) (x0 : Nat) (hx0 : D x0) (x1 : Int32) (x2 : Int32) (M : Mm) (hF : Fr D M0 M) : FJ D M0 (Land_passOn_J61 k9 x0 x1 x2 M) := by
  unfold Land_passOn_J61
  exact hk9 _ hx0 _ _ _ hF
theorem nj_Land_passOn_J61 {M0 : Mm} (k9 : Nat → Int32 → Int32 → Mm → Option (Unit × Mm)) (hk9 : ∀ (x0 : Nat) (x1 : Int32) (x2 : Int32) (M : Mm) (hS : Sm M0 M), NJ M0 (k9 x0 x1 x2 M)) (x0 : Nat) (x1 : Int32) (x2 : Int32) (M : Mm) (hS : Sm M0 M) : NJ M0 (Land_passOn_J61 k9 x0 x1 x2 M) := by
  unfold Land_passOn_J61
  exact hk9 _ _ _ _ hS
theorem fj_Land_passOn_B9 {D : Nat → Prop} {M0 : Mm} (hT : Tp D M0) (k9 : Nat → Int32 → Int32 → Mm → Option (Unit × Mm)) (hk9 : ∀ (x0 : Nat) (hx0 : D x0) (x1 : Int32) (x2 : Int32) (M : Mm) (hF : Fr D M0 M), FJ D M0 (k9 x0 x1 x2 M)) (x0 : Nat) (hx0 : D x0) (x1 : Int32) (x2 : Int32) (M : Mm) (hF : Fr D M0 M) : FJ D M0 (Land_passOn_B9 k9 x0 x1 x2 M) := by
  unfold Land_passOn_B9
  refine FJ_ck ?_
  refine FJ_if ?_ ?_
  · exact FJ_leaf hF
  · refine FJ_nn hF hx0 (fun b6 hb6 => ?_)
    refine FJ_ck ?_
    refine FJ_if ?_ ?_
    · exact fj_Land_passOn_J61 hT k9 hk9 _ hx0 _ _ _ hF
    · refine FJ_nn hF hx0 (fun b9 hb9 => ?_)
      refine FJ_ck ?_
      refine FJ_if ?_ ?_
      · refine FJ_nn hF hx0 (fun b11 hb11 => ?_)
        refine FJ_nn hF hx0 (fun b12 hb12 => ?_)
        refine FJ_ck ?_
        refine FJ_bd hT hF (fun gC gT => fj_Land_arrival gC gT _ hx0 _ _) (fun r14 M15 hFM15 => ?_)
        refine FJ_bd hT hFM15 (fun gC gT => fj_Math_min_I gC gT _ _) (fun r16 M17 hFM17 => ?_)
        refine FJ_ck ?_
        exact fj_Land_passOn_J61 hT k9 hk9 _ hx0 _ _ _ (Fr_sI hFM17 hb11)
      · exact fj_Land_passOn_J61 hT k9 hk9 _ hx0 _ _ _ hF
theorem nj_Land_passOn_B9 {M0 : Mm} (k9 : Nat → Int32 → Int32 → Mm → Option (Unit × Mm)) (hk9 : ∀ (x0 : Nat) (x1 : Int32) (x2 : Int32) (M : Mm) (hS : Sm M0 M), NJ M0 (k9 x0 x1 x2 M)) (x0 : Nat) (x1 : Int32) (x2 : Int32) (M : Mm) (hS : Sm M0 M) : NJ M0 (Land_passOn_B9 k9 x0 x1 x2 M) := by
  unfold Land_passOn_B9
  refine NJ_ck ?_
  refine NJ_if ?_ ?_
  · exact NJ_leaf hS
  · refine NJ_nn (fun b6 => ?_)
    refine NJ_ck ?_
    refine NJ_if ?_ ?_
    · exact nj_Land_passOn_J61 k9 hk9 _ _ _ _ hS
    · refine NJ_nn (fun b9 => ?_)
      refine NJ_ck ?_
      refine NJ_if ?_ ?_
      · refine NJ_nn (fun b11 => ?_)
        refine NJ_nn (fun b12 => ?_)
        refine NJ_ck ?_
        refine NJ_bd hS (nj_Land_arrival _ _ _ _) (fun r14 M15 hSM15 => ?_)
        refine NJ_bd hSM15 (nj_Math_min_I _ _ _) (fun r16 M17 hSM17 => ?_)
        refine NJ_ck ?_
        exact nj_Land_passOn_J61 k9 hk9 _ _ _ _ (Sm_sI hSM17)
      · exact nj_Land_passOn_J61 k9 hk9 _ _ _ _ hS
theorem fj_Land_passOn_L9 {D : Nat → Prop} {M0 : Mm} (hT : Tp D M0) : ∀ (n : Nat) (x0 : Nat) (hx0 : D x0) (x1 : Int32) (x2 : Int32) (M : Mm) (hF : Fr D M0 M), FJ D M0 (Land_passOn_L9 n x0 x1 x2 M) := by
  intro n
  induction n with
  | zero => intros; exact FJ_none
  | succ n ih => intro x0 hx0 x1 x2 M hF; exact fj_Land_passOn_B9 hT _ ih x0 hx0 x1 x2 M hF
theorem nj_Land_passOn_L9 {M0 : Mm} : ∀ (n : Nat) (x0 : Nat) (x1 : Int32) (x2 : Int32) (M : Mm) (hS : Sm M0 M), NJ M0 (Land_passOn_L9 n x0 x1 x2 M) := by
  intro n
  induction n with
  | zero => intros; exact NJ_none
  | succ n ih => intro x0 x1 x2 M hS; exact nj_Land_passOn_B9 _ ih x0 x1 x2 M hS
theorem fj_Land_passOn {D : Nat → Prop} {M : Mm} (hC : Cl D M) (hT : Tp D M) (a0 : Nat) (h0 : D a0) (a1 : Int32) : FJ D M (Land_passOn M a0 a1) := by
  unfold Land_passOn
  refine FJ_ck ?_
  refine FJ_nn (Fr.rf hC) h0 (fun b2 hb2 => ?_)
  refine FJ_ck ?_
  exact fj_Land_passOn_L9 hT fu _ h0 _ _ _ (Fr_sI (Fr.rf hC) hb2)
theorem nj_Land_passOn (M : Mm) (a0 : Nat) (a1 : Int32) : NJ M (Land_passOn M a0 a1) := by
  unfold Land_passOn
  refine NJ_ck ?_
  refine NJ_nn (fun b2 => ?_)
  refine NJ_ck ?_
  exact nj_Land_passOn_L9 fu _ _ _ _ (Sm_sI Sm.rf)
theorem fj_Land_spread_B47 {D : Nat → Prop} {M0 : Mm} (hT : Tp D M0) (k47 : Nat → Int32 → Mm → Option (Unit × Mm)) (hk47 : ∀ (x0 : Nat) (hx0 : D x0) (x3 : Int32) (M : Mm) (hF : Fr D M0 M), FJ D M0 (k47 x0 x3 M)) (x0 : Nat) (hx0 : D x0) (x3 : Int32) (M : Mm) (hF : Fr D M0 M) : FJ D M0 (Land_spread_B47 k47 x0 x3 M) := by
  unfold Land_spread_B47
  refine FJ_ck ?_
  refine FJ_if ?_ ?_
  · exact FJ_leaf hF
  · refine FJ_bd hT hF (fun gC gT => fj_Land_earliestToPassOn gC gT _ hx0) (fun r9 M10 hFM10 => ?_)
    refine FJ_if ?_ ?_
    · exact FJ_leaf hFM10
    · refine FJ_ck ?_
      refine FJ_bd hT hFM10 (fun gC gT => fj_Land_passOn gC gT _ hx0 _) (fun _ M13 hFM13 => ?_)
      exact hk47 _ hx0 _ _ hFM13
theorem nj_Land_spread_B47 {M0 : Mm} (k47 : Nat → Int32 → Mm → Option (Unit × Mm)) (hk47 : ∀ (x0 : Nat) (x3 : Int32) (M : Mm) (hS : Sm M0 M), NJ M0 (k47 x0 x3 M)) (x0 : Nat) (x3 : Int32) (M : Mm) (hS : Sm M0 M) : NJ M0 (Land_spread_B47 k47 x0 x3 M) := by
  unfold Land_spread_B47
  refine NJ_ck ?_
  refine NJ_if ?_ ?_
  · exact NJ_leaf hS
  · refine NJ_bd hS (nj_Land_earliestToPassOn _ _) (fun r9 M10 hSM10 => ?_)
    refine NJ_if ?_ ?_
    · exact NJ_leaf hSM10
    · refine NJ_ck ?_
      refine NJ_bd hSM10 (nj_Land_passOn _ _ _) (fun _ M13 hSM13 => ?_)
      exact hk47 _ _ _ hSM13
theorem fj_Land_spread_L47 {D : Nat → Prop} {M0 : Mm} (hT : Tp D M0) : ∀ (n : Nat) (x0 : Nat) (hx0 : D x0) (x3 : Int32) (M : Mm) (hF : Fr D M0 M), FJ D M0 (Land_spread_L47 n x0 x3 M) := by
  intro n
  induction n with
  | zero => intros; exact FJ_none
  | succ n ih => intro x0 hx0 x3 M hF; exact fj_Land_spread_B47 hT _ ih x0 hx0 x3 M hF
theorem nj_Land_spread_L47 {M0 : Mm} : ∀ (n : Nat) (x0 : Nat) (x3 : Int32) (M : Mm) (hS : Sm M0 M), NJ M0 (Land_spread_L47 n x0 x3 M) := by
  intro n
  induction n with
  | zero => intros; exact NJ_none
  | succ n ih => intro x0 x3 M hS; exact nj_Land_spread_B47 _ ih x0 x3 M hS
theorem fj_Land_spread_B2 {D : Nat → Prop} {M0 : Mm} (hT : Tp D M0) (k2 : Nat → Int32 → Int32 → Int32 → Mm → Option (Unit × Mm)) (hk2 : ∀ (x0 : Nat) (hx0 : D x0) (x1 : Int32) (x2 : Int32) (x3 : Int32) (M : Mm) (hF : Fr D M0 M), FJ D M0 (k2 x0 x1 x2 x3 M)) (x0 : Nat) (hx0 : D x0) (x1 : Int32) (x2 : Int32) (x3 : Int32) (M : Mm) (hF : Fr D M0 M) : FJ D M0 (Land_spread_B2 k2 x0 x1 x2 x3 M) := by
  unfold Land_spread_B2
  refine FJ_if ?_ ?_
  · refine FJ_ck ?_
    refine FJ_bd hT hF (fun gC gT => fj_Land_has gC gT _ hx0 _) (fun r2 M3 hFM3 => ?_)
    refine FJ_if ?_ ?_
    · exact FJ_leaf hFM3
    · refine FJ_ck ?_
      refine FJ_nn hFM3 hx0 (fun b5 hb5 => ?_)
      refine FJ_ck ?_
      exact fj_Land_spread_L47 hT fu _ hx0 _ _ (Fr_sI hFM3 hb5)
  · refine FJ_ck ?_
    refine FJ_nn hF hx0 (fun b16 hb16 => ?_)
    refine FJ_ck ?_
    refine FJ_nn (Fr_sI hF hb16) hx0 (fun b19 hb19 => ?_)
    refine FJ_ck ?_
    exact hk2 _ hx0 _ _ _ _ (Fr_sI (Fr_sI hF hb16) hb19)
theorem nj_Land_spread_B2 {M0 : Mm} (k2 : Nat → Int32 → Int32 → Int32 → Mm → Option (Unit × Mm)) (hk2 : ∀ (x0 : Nat) (x1 : Int32) (x2 : Int32) (x3 : Int32) (M : Mm) (hS : Sm M0 M), NJ M0 (k2 x0 x1 x2 x3 M)) (x0 : Nat) (x1 : Int32) (x2 : Int32) (x3 : Int32) (M : Mm) (hS : Sm M0 M) : NJ M0 (Land_spread_B2 k2 x0 x1 x2 x3 M) := by
  unfold Land_spread_B2
  refine NJ_if ?_ ?_
  · refine NJ_ck ?_
    refine NJ_bd hS (nj_Land_has _ _ _) (fun r2 M3 hSM3 => ?_)
    refine NJ_if ?_ ?_
    · exact NJ_leaf hSM3
    · refine NJ_ck ?_
      refine NJ_nn (fun b5 => ?_)
      refine NJ_ck ?_
      exact nj_Land_spread_L47 fu _ _ _ (Sm_sI hSM3)
  · refine NJ_ck ?_
    refine NJ_nn (fun b16 => ?_)
    refine NJ_ck ?_
    refine NJ_nn (fun b19 => ?_)
    refine NJ_ck ?_
    exact hk2 _ _ _ _ _ (Sm_sI (Sm_sI hS))
theorem fj_Land_spread_L2 {D : Nat → Prop} {M0 : Mm} (hT : Tp D M0) : ∀ (n : Nat) (x0 : Nat) (hx0 : D x0) (x1 : Int32) (x2 : Int32) (x3 : Int32) (M : Mm) (hF : Fr D M0 M), FJ D M0 (Land_spread_L2 n x0 x1 x2 x3 M) := by
  intro n
  induction n with
  | zero => intros; exact FJ_none
  | succ n ih => intro x0 hx0 x1 x2 x3 M hF; exact fj_Land_spread_B2 hT _ ih x0 hx0 x1 x2 x3 M hF
theorem nj_Land_spread_L2 {M0 : Mm} : ∀ (n : Nat) (x0 : Nat) (x1 : Int32) (x2 : Int32) (x3 : Int32) (M : Mm) (hS : Sm M0 M), NJ M0 (Land_spread_L2 n x0 x1 x2 x3 M) := by
  intro n
  induction n with
  | zero => intros; exact NJ_none
  | succ n ih => intro x0 x1 x2 x3 M hS; exact nj_Land_spread_B2 _ ih x0 x1 x2 x3 M hS
theorem fj_Land_spread {D : Nat → Prop} {M : Mm} (hC : Cl D M) (hT : Tp D M) (a0 : Nat) (h0 : D a0) (a1 : Int32) (a2 : Int32) : FJ D M (Land_spread M a0 a1 a2) := by
  unfold Land_spread
  exact fj_Land_spread_L2 hT fu _ h0 _ _ _ _ (Fr.rf hC)
theorem nj_Land_spread (M : Mm) (a0 : Nat) (a1 : Int32) (a2 : Int32) : NJ M (Land_spread M a0 a1 a2) := by
  unfold Land_spread
  exact nj_Land_spread_L2 fu _ _ _ _ _ Sm.rf
theorem fj_Land_minuteIn {D : Nat → Prop} {M : Mm} (hC : Cl D M) (hT : Tp D M) (a0 : Nat) (h0 : D a0) (a1 : Int32) : FJ D M (Land_minuteIn M a0 a1) := by
  unfold Land_minuteIn
  refine FJ_ck ?_
  refine FJ_bd hT (Fr.rf hC) (fun gC gT => fj_Land_has gC gT _ h0 _) (fun r2 M3 hFM3 => ?_)
  refine FJ_if ?_ ?_
  · exact FJ_leaf hFM3
  · refine FJ_ck ?_
    refine FJ_nn hFM3 h0 (fun b5 hb5 => ?_)
    refine FJ_ck ?_
    refine FJ_if ?_ ?_
    · exact FJ_leaf hFM3
    · refine FJ_nn hFM3 h0 (fun b7 hb7 => ?_)
      refine FJ_ck ?_
      exact FJ_leaf hFM3
theorem nj_Land_minuteIn (M : Mm) (a0 : Nat) (a1 : Int32) : NJ M (Land_minuteIn M a0 a1) := by
  unfold Land_minuteIn
  refine NJ_ck ?_
  refine NJ_bd Sm.rf (nj_Land_has _ _ _) (fun r2 M3 hSM3 => ?_)
  refine NJ_if ?_ ?_
  · exact NJ_leaf hSM3
  · refine NJ_ck ?_
    refine NJ_nn (fun b5 => ?_)
    refine NJ_ck ?_
    refine NJ_if ?_ ?_
    · exact NJ_leaf hSM3
    · refine NJ_nn (fun b7 => ?_)
      refine NJ_ck ?_
      exact NJ_leaf hSM3
theorem fj_Session_new {D : Nat → Prop} {M : Mm} (hC : Cl D M) (hT : Tp D M) (a0 : Nat) (h0 : D a0) (a1 : Int32) (a2 : Int32) : FJ D M (Session_new M a0 a1 a2) := by
  unfold Session_new
  refine FJ_ck ?_
  refine FJ_ck ?_
  refine FJ_ck ?_
  refine FJ_ck ?_
  exact FJ_leaf (Fr_sI (Fr_sI (Fr_sRs (Fr_nw hT (Fr_sRs (Fr_nw hT (Fr_sRs (Fr_nw hT (Fr_sI (Fr_sI (Fr.rf hC) h0) h0)) h0 (hT _ (Fr.z (Fr_sI (Fr_sI (Fr.rf hC) h0) h0))))) h0 (hT _ (Fr.z (Fr_sRs (Fr_nw hT (Fr_sI (Fr_sI (Fr.rf hC) h0) h0)) h0 (hT _ (Fr.z (Fr_sI (Fr_sI (Fr.rf hC) h0) h0)))))))) h0 (hT _ (Fr.z (Fr_sRs (Fr_nw hT (Fr_sRs (Fr_nw hT (Fr_sI (Fr_sI (Fr.rf hC) h0) h0)) h0 (hT _ (Fr.z (Fr_sI (Fr_sI (Fr.rf hC) h0) h0))))) h0 (hT _ (Fr.z (Fr_sRs (Fr_nw hT (Fr_sI (Fr_sI (Fr.rf hC) h0) h0)) h0 (hT _ (Fr.z (Fr_sI (Fr_sI (Fr.rf hC) h0) h0)))))))))) h0) h0)
theorem fj_Session_addCry {D : Nat → Prop} {M : Mm} (hC : Cl D M) (hT : Tp D M) (a0 : Nat) (h0 : D a0) (a1 : Nat) (h1 : D a1) : FJ D M (Session_addCry M a0 a1) := by
  unfold Session_addCry
  refine FJ_ck ?_
  refine FJ_if ?_ ?_
  · refine FJ_nn (Fr.rf hC) h0 (fun b2 hb2 => ?_)
    refine FJ_ck ?_
    refine FJ_ck ?_
    exact FJ_leaf (Fr_sI (Fr_sRs (Fr.rf hC) hb2 h1) h0)
  · exact FJ_leaf (Fr.rf hC)
theorem fj_Session_bestPartner_J64 {D : Nat → Prop} {M0 : Mm} (hT : Tp D M0) (k5 : Nat → Int32 → Nat → Int32 → Int32 → Mm → Option (Int32 × Mm)) (hk5 : ∀ (x0 : Nat) (hx0 : D x0) (x1 : Int32) (x2 : Nat) (hx2 : D x2) (x3 : Int32) (x4 : Int32) (M : Mm) (hF : Fr D M0 M), FJ D M0 (k5 x0 x1 x2 x3 x4 M)) (x0 : Nat) (hx0 : D x0) (x1 : Int32) (x2 : Nat) (hx2 : D x2) (x3 : Int32) (x4 : Int32) (M : Mm) (hF : Fr D M0 M) : FJ D M0 (Session_bestPartner_J64 k5 x0 x1 x2 x3 x4 M) := by
  unfold Session_bestPartner_J64
  exact hk5 _ hx0 _ _ hx2 _ _ _ hF
theorem nj_Session_bestPartner_J64 {M0 : Mm} (k5 : Nat → Int32 → Nat → Int32 → Int32 → Mm → Option (Int32 × Mm)) (hk5 : ∀ (x0 : Nat) (x1 : Int32) (x2 : Nat) (x3 : Int32) (x4 : Int32) (M : Mm) (hS : Sm M0 M), NJ M0 (k5 x0 x1 x2 x3 x4 M)) (x0 : Nat) (x1 : Int32) (x2 : Nat) (x3 : Int32) (x4 : Int32) (M : Mm) (hS : Sm M0 M) : NJ M0 (Session_bestPartner_J64 k5 x0 x1 x2 x3 x4 M) := by
  unfold Session_bestPartner_J64
  exact hk5 _ _ _ _ _ _ hS
theorem fj_Session_bestPartner_J61 {D : Nat → Prop} {M0 : Mm} (hT : Tp D M0) (k5 : Nat → Int32 → Nat → Int32 → Int32 → Mm → Option (Int32 × Mm)) (hk5 : ∀ (x0 : Nat) (hx0 : D x0) (x1 : Int32) (x2 : Nat) (hx2 : D x2) (x3 : Int32) (x4 : Int32) (M : Mm) (hF : Fr D M0 M), FJ D M0 (k5 x0 x1 x2 x3 x4 M)) (x0 : Nat) (hx0 : D x0) (x1 : Int32) (x2 : Nat) (hx2 : D x2) (x4 : Int32) (M : Mm) (hF : Fr D M0 M) : FJ D M0 (Session_bestPartner_J61 k5 x0 x1 x2 x4 M) := by
  unfold Session_bestPartner_J61
  exact fj_Session_bestPartner_J64 hT k5 hk5 _ hx0 _ _ hx2 _ _ _ hF
theorem nj_Session_bestPartner_J61 {M0 : Mm} (k5 : Nat → Int32 → Nat → Int32 → Int32 → Mm → Option (Int32 × Mm)) (hk5 : ∀ (x0 : Nat) (x1 : Int32) (x2 : Nat) (x3 : Int32) (x4 : Int32) (M : Mm) (hS : Sm M0 M), NJ M0 (k5 x0 x1 x2 x3 x4 M)) (x0 : Nat) (x1 : Int32) (x2 : Nat) (x4 : Int32) (M : Mm) (hS : Sm M0 M) : NJ M0 (Session_bestPartner_J61 k5 x0 x1 x2 x4 M) := by
  unfold Session_bestPartner_J61
  exact nj_Session_bestPartner_J64 k5 hk5 _ _ _ _ _ _ hS
theorem fj_Session_bestPartner_B5 {D : Nat → Prop} {M0 : Mm} (hT : Tp D M0) (k5 : Nat → Int32 → Nat → Int32 → Int32 → Mm → Option (Int32 × Mm)) (hk5 : ∀ (x0 : Nat) (hx0 : D x0) (x1 : Int32) (x2 : Nat) (hx2 : D x2) (x3 : Int32) (x4 : Int32) (M : Mm) (hF : Fr D M0 M), FJ D M0 (k5 x0 x1 x2 x3 x4 M)) (x0 : Nat) (hx0 : D x0) (x1 : Int32) (x2 : Nat) (hx2 : D x2) (x3 : Int32) (x4 : Int32) (M : Mm) (hF : Fr D M0 M) : FJ D M0 (Session_bestPartner_B5 k5 x0 x1 x2 x3 x4 M) := by
  unfold Session_bestPartner_B5
  refine FJ_if ?_ ?_
  · exact FJ_leaf hF
  · refine FJ_ck ?_
    refine FJ_if ?_ ?_
    · exact fj_Session_bestPartner_J64 hT k5 hk5 _ hx0 _ _ hx2 _ _ _ hF
    · refine FJ_ck ?_
      refine FJ_nn hF hx0 (fun b4 hb4 => ?_)
      refine FJ_ck ?_
      refine FJ_nn hF hb4 (fun b6 hb6 => ?_)
      refine FJ_nn hF hx0 (fun b7 hb7 => ?_)
      refine FJ_ck ?_
      refine FJ_nn hF hb7 (fun b9 hb9 => ?_)
      refine FJ_ck ?_
      refine FJ_bd hT hF (fun gC gT => fj_Cry_meets gC gT _ hb6 _ hb9) (fun r11 M12 hFM12 => ?_)
      refine FJ_if ?_ ?_
      · exact fj_Session_bestPartner_J64 hT k5 hk5 _ hx0 _ _ hx2 _ _ _ hFM12
      · refine FJ_if ?_ ?_
        · exact fj_Session_bestPartner_J61 hT k5 hk5 _ hx0 _ _ hx2 _ _ hFM12
        · refine FJ_ck ?_
          refine FJ_nn hFM12 hx0 (fun b14 hb14 => ?_)
          refine FJ_ck ?_
          refine FJ_nn hFM12 hb14 (fun b16 hb16 => ?_)
          refine FJ_nn hFM12 hx0 (fun b17 hb17 => ?_)
          refine FJ_ck ?_
          refine FJ_nn hFM12 hb17 (fun b19 hb19 => ?_)
          refine FJ_ck ?_
          refine FJ_bd hT hFM12 (fun gC gT => fj_Cry_isBetterThan gC gT _ hb16 _ hb19) (fun r21 M22 hFM22 => ?_)
          refine FJ_if ?_ ?_
          · exact fj_Session_bestPartner_J64 hT k5 hk5 _ hx0 _ _ hx2 _ _ _ hFM22
          · exact fj_Session_bestPartner_J61 hT k5 hk5 _ hx0 _ _ hx2 _ _ hFM22
theorem nj_Session_bestPartner_B5 {M0 : Mm} (k5 : Nat → Int32 → Nat → Int32 → Int32 → Mm → Option (Int32 × Mm)) (hk5 : ∀ (x0 : Nat) (x1 : Int32) (x2 : Nat) (x3 : Int32) (x4 : Int32) (M : Mm) (hS : Sm M0 M), NJ M0 (k5 x0 x1 x2 x3 x4 M)) (x0 : Nat) (x1 : Int32) (x2 : Nat) (x3 : Int32) (x4 : Int32) (M : Mm) (hS : Sm M0 M) : NJ M0 (Session_bestPartner_B5 k5 x0 x1 x2 x3 x4 M) := by
  unfold Session_bestPartner_B5
  refine NJ_if ?_ ?_
  · exact NJ_leaf hS
  · refine NJ_ck ?_
    refine NJ_if ?_ ?_
    · exact nj_Session_bestPartner_J64 k5 hk5 _ _ _ _ _ _ hS
    · refine NJ_ck ?_
      refine NJ_nn (fun b4 => ?_)
      refine NJ_ck ?_
      refine NJ_nn (fun b6 => ?_)
      refine NJ_nn (fun b7 => ?_)
      refine NJ_ck ?_
      refine NJ_nn (fun b9 => ?_)
      refine NJ_ck ?_
      refine NJ_bd hS (nj_Cry_meets _ _ _) (fun r11 M12 hSM12 => ?_)
      refine NJ_if ?_ ?_
      · exact nj_Session_bestPartner_J64 k5 hk5 _ _ _ _ _ _ hSM12
      · refine NJ_if ?_ ?_
        · exact nj_Session_bestPartner_J61 k5 hk5 _ _ _ _ _ hSM12
        · refine NJ_ck ?_
          refine NJ_nn (fun b14 => ?_)
          refine NJ_ck ?_
          refine NJ_nn (fun b16 => ?_)
          refine NJ_nn (fun b17 => ?_)
          refine NJ_ck ?_
          refine NJ_nn (fun b19 => ?_)
          refine NJ_ck ?_
          refine NJ_bd hSM12 (nj_Cry_isBetterThan _ _ _) (fun r21 M22 hSM22 => ?_)
          refine NJ_if ?_ ?_
          · exact nj_Session_bestPartner_J64 k5 hk5 _ _ _ _ _ _ hSM22
          · exact nj_Session_bestPartner_J61 k5 hk5 _ _ _ _ _ hSM22
theorem fj_Session_bestPartner_L5 {D : Nat → Prop} {M0 : Mm} (hT : Tp D M0) : ∀ (n : Nat) (x0 : Nat) (hx0 : D x0) (x1 : Int32) (x2 : Nat) (hx2 : D x2) (x3 : Int32) (x4 : Int32) (M : Mm) (hF : Fr D M0 M), FJ D M0 (Session_bestPartner_L5 n x0 x1 x2 x3 x4 M) := by
  intro n
  induction n with
  | zero => intros; exact FJ_none
  | succ n ih => intro x0 hx0 x1 x2 hx2 x3 x4 M hF; exact fj_Session_bestPartner_B5 hT _ ih x0 hx0 x1 x2 hx2 x3 x4 M hF
theorem nj_Session_bestPartner_L5 {M0 : Mm} : ∀ (n : Nat) (x0 : Nat) (x1 : Int32) (x2 : Nat) (x3 : Int32) (x4 : Int32) (M : Mm) (hS : Sm M0 M), NJ M0 (Session_bestPartner_L5 n x0 x1 x2 x3 x4 M) := by
  intro n
  induction n with
  | zero => intros; exact NJ_none
  | succ n ih => intro x0 x1 x2 x3 x4 M hS; exact nj_Session_bestPartner_B5 _ ih x0 x1 x2 x3 x4 M hS
theorem fj_Session_bestPartner {D : Nat → Prop} {M : Mm} (hC : Cl D M) (hT : Tp D M) (a0 : Nat) (h0 : D a0) (a1 : Int32) (a2 : Nat) (h2 : D a2) : FJ D M (Session_bestPartner M a0 a1 a2) := by
  unfold Session_bestPartner
  exact fj_Session_bestPartner_L5 hT fu _ h0 _ _ h2 _ _ _ (Fr.rf hC)
theorem nj_Session_bestPartner (M : Mm) (a0 : Nat) (a1 : Int32) (a2 : Nat) : NJ M (Session_bestPartner M a0 a1 a2) := by
  unfold Session_bestPartner
  exact nj_Session_bestPartner_L5 fu _ _ _ _ _ _ Sm.rf
theorem fj_Session_strike {D : Nat → Prop} {M : Mm} (hC : Cl D M) (hT : Tp D M) (a0 : Int32) (a1 : Int32) (a2 : Nat) (h2 : D a2) : FJ D M (Session_strike M a0 a1 a2) := by
  unfold Session_strike
  refine FJ_ck ?_
  refine FJ_ck ?_
  refine FJ_bd hT (Fr.rf hC) (fun gC gT => fj_Math_min_I gC gT _ _) (fun r3 M4 hFM4 => ?_)
  refine FJ_ck ?_
  refine FJ_ck ?_
  exact FJ_leaf (Fr_sI (Fr_sI hFM4 h2) h2)
theorem nj_Session_strike (M : Mm) (a0 : Int32) (a1 : Int32) (a2 : Nat) : NJ M (Session_strike M a0 a1 a2) := by
  unfold Session_strike
  refine NJ_ck ?_
  refine NJ_ck ?_
  refine NJ_bd Sm.rf (nj_Math_min_I _ _ _) (fun r3 M4 hSM4 => ?_)
  refine NJ_ck ?_
  refine NJ_ck ?_
  exact NJ_leaf (Sm_sI (Sm_sI hSM4))
theorem fj_Session_meet_B30 {D : Nat → Prop} {M0 : Mm} (hT : Tp D M0) (k30 : Nat → Int32 → Int32 → Mm → Option (Unit × Mm)) (hk30 : ∀ (x0 : Nat) (hx0 : D x0) (x1 : Int32) (x2 : Int32) (M : Mm) (hF : Fr D M0 M), FJ D M0 (k30 x0 x1 x2 M)) (x0 : Nat) (hx0 : D x0) (x1 : Int32) (x2 : Int32) (M : Mm) (hF : Fr D M0 M) : FJ D M0 (Session_meet_B30 k30 x0 x1 x2 M) := by
  unfold Session_meet_B30
  refine FJ_ck ?_
  refine FJ_if ?_ ?_
  · exact FJ_leaf hF
  · refine FJ_nn hF hx0 (fun b10 hb10 => ?_)
    refine FJ_ck ?_
    refine FJ_if ?_ ?_
    · exact FJ_leaf hF
    · refine FJ_nn hF hx0 (fun b12 hb12 => ?_)
      refine FJ_bd hT hF (fun gC gT => fj_Session_bestPartner gC gT _ hx0 _ _ hb12) (fun r13 M14 hFM14 => ?_)
      refine FJ_if ?_ ?_
      · exact FJ_leaf hFM14
      · refine FJ_ck ?_
        refine FJ_if ?_ ?_
        · refine FJ_nn hFM14 hx0 (fun b16 hb16 => ?_)
          refine FJ_bd hT hFM14 (fun gC gT => fj_Session_strike gC gT _ _ _ hb16) (fun r17 M18 hFM18 => ?_)
          refine FJ_ck ?_
          refine FJ_nn hFM18 hx0 (fun b20 hb20 => ?_)
          refine FJ_ck ?_
          refine FJ_nn (Fr_nw hT hFM18) hx0 (fun b23 hb23 => ?_)
          refine FJ_ck ?_
          refine FJ_nn (Fr_nw hT hFM18) hb23 (fun b25 hb25 => ?_)
          refine FJ_nn (Fr_nw hT hFM18) hx0 (fun b26 hb26 => ?_)
          refine FJ_ck ?_
          refine FJ_nn (Fr_nw hT hFM18) hb26 (fun b28 hb28 => ?_)
          refine FJ_bd hT (Fr_nw hT hFM18) (fun gC gT => fj_Bargain_new gC gT _ (hT _ (Fr.z hFM18)) _ hb25 _ hb28 _) (fun _ M30 hFM30 => ?_)
          refine FJ_ck ?_
          refine FJ_ck ?_
          refine FJ_ck ?_
          exact hk30 _ hx0 _ _ _ (Fr_sI (Fr_sRs hFM30 hb20 (hT _ (Fr.z hFM18))) hx0)
        · exact FJ_leaf hFM14
theorem fj_Session_meet_L30 {D : Nat → Prop} {M0 : Mm} (hT : Tp D M0) : ∀ (n : Nat) (x0 : Nat) (hx0 : D x0) (x1 : Int32) (x2 : Int32) (M : Mm) (hF : Fr D M0 M), FJ D M0 (Session_meet_L30 n x0 x1 x2 M) := by
  intro n
  induction n with
  | zero => intros; exact FJ_none
  | succ n ih => intro x0 hx0 x1 x2 M hF; exact fj_Session_meet_B30 hT _ ih x0 hx0 x1 x2 M hF
theorem fj_Session_meet {D : Nat → Prop} {M : Mm} (hC : Cl D M) (hT : Tp D M) (a0 : Nat) (h0 : D a0) (a1 : Int32) : FJ D M (Session_meet M a0 a1) := by
  unfold Session_meet
  refine FJ_if ?_ ?_
  · exact FJ_leaf (Fr.rf hC)
  · refine FJ_ck ?_
    refine FJ_if ?_ ?_
    · refine FJ_nn (Fr.rf hC) h0 (fun b2 hb2 => ?_)
      refine FJ_nn (Fr.rf hC) h0 (fun b3 hb3 => ?_)
      refine FJ_ck ?_
      refine FJ_nn (Fr.rf hC) hb3 (fun b5 hb5 => ?_)
      refine FJ_ck ?_
      refine FJ_ck ?_
      exact fj_Session_meet_L30 hT fu _ h0 _ _ _ (Fr_sI (Fr.rf hC) hb2)
    · exact FJ_leaf (Fr.rf hC)
theorem fj_Session_takeBack {D : Nat → Prop} {M : Mm} (hC : Cl D M) (hT : Tp D M) (a0 : Nat) (h0 : D a0) (a1 : Int32) : FJ D M (Session_takeBack M a0 a1) := by
  unfold Session_takeBack
  refine FJ_if ?_ ?_
  · exact FJ_leaf (Fr.rf hC)
  · refine FJ_ck ?_
    refine FJ_if ?_ ?_
    · exact FJ_leaf (Fr.rf hC)
    · refine FJ_nn (Fr.rf hC) h0 (fun b2 hb2 => ?_)
      refine FJ_ck ?_
      refine FJ_if ?_ ?_
      · exact FJ_leaf (Fr.rf hC)
      · refine FJ_nn (Fr.rf hC) h0 (fun b4 hb4 => ?_)
        refine FJ_ck ?_
        refine FJ_nn (Fr.rf hC) h0 (fun b7 hb7 => ?_)
        refine FJ_ck ?_
        refine FJ_nn (Fr_sI (Fr.rf hC) hb7) h0 (fun b10 hb10 => ?_)
        refine FJ_ck ?_
        refine FJ_nn (Fr_sI (Fr.rf hC) hb7) hb10 (fun b12 hb12 => ?_)
        refine FJ_ck ?_
        exact FJ_leaf (Fr_sI (Fr_sI (Fr.rf hC) hb7) hb12)
theorem nj_Session_takeBack (M : Mm) (a0 : Nat) (a1 : Int32) : NJ M (Session_takeBack M a0 a1) := by
  unfold Session_takeBack
  refine NJ_if ?_ ?_
  · exact NJ_leaf Sm.rf
  · refine NJ_ck ?_
    refine NJ_if ?_ ?_
    · exact NJ_leaf Sm.rf
    · refine NJ_nn (fun b2 => ?_)
      refine NJ_ck ?_
      refine NJ_if ?_ ?_
      · exact NJ_leaf Sm.rf
      · refine NJ_nn (fun b4 => ?_)
        refine NJ_ck ?_
        refine NJ_nn (fun b7 => ?_)
        refine NJ_ck ?_
        refine NJ_nn (fun b10 => ?_)
        refine NJ_ck ?_
        refine NJ_nn (fun b12 => ?_)
        refine NJ_ck ?_
        exact NJ_leaf (Sm_sI (Sm_sI Sm.rf))
theorem fj_Session_hasBargain {D : Nat → Prop} {M : Mm} (hC : Cl D M) (hT : Tp D M) (a0 : Nat) (h0 : D a0) (a1 : Int32) : FJ D M (Session_hasBargain M a0 a1) := by
  unfold Session_hasBargain
  refine FJ_if ?_ ?_
  · exact FJ_leaf (Fr.rf hC)
  · refine FJ_ck ?_
    refine FJ_if ?_ ?_
    · exact FJ_leaf (Fr.rf hC)
    · exact FJ_leaf (Fr.rf hC)
theorem nj_Session_hasBargain (M : Mm) (a0 : Nat) (a1 : Int32) : NJ M (Session_hasBargain M a0 a1) := by
  unfold Session_hasBargain
  refine NJ_if ?_ ?_
  · exact NJ_leaf Sm.rf
  · refine NJ_ck ?_
    refine NJ_if ?_ ?_
    · exact NJ_leaf Sm.rf
    · exact NJ_leaf Sm.rf
theorem fj_Session_end_J105 {D : Nat → Prop} {M0 : Mm} (hT : Tp D M0) (k66 : Nat → Int32 → Mm → Option (Unit × Mm)) (hk66 : ∀ (x0 : Nat) (hx0 : D x0) (x3 : Int32) (M : Mm) (hF : Fr D M0 M), FJ D M0 (k66 x0 x3 M)) (x0 : Nat) (hx0 : D x0) (x3 : Int32) (M : Mm) (hF : Fr D M0 M) : FJ D M0 (Session_end_J105 k66 x0 x3 M) := by
  unfold Session_end_J105
  exact hk66 _ hx0 _ _ hF
theorem nj_Session_end_J105 {M0 : Mm} (k66 : Nat → Int32 → Mm → Option (Unit × Mm)) (hk66 : ∀ (x0 : Nat) (x3 : Int32) (M : Mm) (hS : Sm M0 M), NJ M0 (k66 x0 x3 M)) (x0 : Nat) (x3 : Int32) (M : Mm) (hS : Sm M0 M) : NJ M0 (Session_end_J105 k66 x0 x3 M) := by
  unfold Session_end_J105
  exact hk66 _ _ _ hS
theorem fj_Session_end_B66 {D : Nat → Prop} {M0 : Mm} (hT : Tp D M0) (k66 : Nat → Int32 → Mm → Option (Unit × Mm)) (hk66 : ∀ (x0 : Nat) (hx0 : D x0) (x3 : Int32) (M : Mm) (hF : Fr D M0 M), FJ D M0 (k66 x0 x3 M)) (x0 : Nat) (hx0 : D x0) (x3 : Int32) (M : Mm) (hF : Fr D M0 M) : FJ D M0 (Session_end_B66 k66 x0 x3 M) := by
  unfold Session_end_B66
  refine FJ_ck ?_
  refine FJ_if ?_ ?_
  · exact FJ_leaf hF
  · refine FJ_nn hF hx0 (fun b15 hb15 => ?_)
    refine FJ_ck ?_
    refine FJ_nn hF hb15 (fun b17 hb17 => ?_)
    refine FJ_ck ?_
    refine FJ_bd hT hF (fun gC gT => fj_Bargain_judge gC gT _ hb17) (fun _ M20 hFM20 => ?_)
    refine FJ_ck ?_
    refine FJ_nn hFM20 hx0 (fun b22 hb22 => ?_)
    refine FJ_ck ?_
    refine FJ_nn hFM20 hb22 (fun b24 hb24 => ?_)
    refine FJ_ck ?_
    refine FJ_if ?_ ?_
    · exact fj_Session_end_J105 hT k66 hk66 _ hx0 _ _ hFM20
    · exact fj_Session_end_J105 hT k66 hk66 _ hx0 _ _ (Fr_sI hFM20 hx0)
theorem nj_Session_end_B66 {M0 : Mm} (k66 : Nat → Int32 → Mm → Option (Unit × Mm)) (hk66 : ∀ (x0 : Nat) (x3 : Int32) (M : Mm) (hS : Sm M0 M), NJ M0 (k66 x0 x3 M)) (x0 : Nat) (x3 : Int32) (M : Mm) (hS : Sm M0 M) : NJ M0 (Session_end_B66 k66 x0 x3 M) := by
  unfold Session_end_B66
  refine NJ_ck ?_
  refine NJ_if ?_ ?_
  · exact NJ_leaf hS
  · refine NJ_nn (fun b15 => ?_)
    refine NJ_ck ?_
    refine NJ_nn (fun b17 => ?_)
    refine NJ_ck ?_
    refine NJ_bd hS (nj_Bargain_judge _ _) (fun _ M20 hSM20 => ?_)
    refine NJ_ck ?_
    refine NJ_nn (fun b22 => ?_)
    refine NJ_ck ?_
    refine NJ_nn (fun b24 => ?_)
    refine NJ_ck ?_
    refine NJ_if ?_ ?_
    · exact nj_Session_end_J105 k66 hk66 _ _ _ hSM20
    · exact nj_Session_end_J105 k66 hk66 _ _ _ (Sm_sI hSM20)
theorem fj_Session_end_L66 {D : Nat → Prop} {M0 : Mm} (hT : Tp D M0) : ∀ (n : Nat) (x0 : Nat) (hx0 : D x0) (x3 : Int32) (M : Mm) (hF : Fr D M0 M), FJ D M0 (Session_end_L66 n x0 x3 M) := by
  intro n
  induction n with
  | zero => intros; exact FJ_none
  | succ n ih => intro x0 hx0 x3 M hF; exact fj_Session_end_B66 hT _ ih x0 hx0 x3 M hF
theorem nj_Session_end_L66 {M0 : Mm} : ∀ (n : Nat) (x0 : Nat) (x3 : Int32) (M : Mm) (hS : Sm M0 M), NJ M0 (Session_end_L66 n x0 x3 M) := by
  intro n
  induction n with
  | zero => intros; exact NJ_none
  | succ n ih => intro x0 x3 M hS; exact nj_Session_end_B66 _ ih x0 x3 M hS
theorem fj_Session_end {D : Nat → Prop} {M : Mm} (hC : Cl D M) (hT : Tp D M) (a0 : Nat) (h0 : D a0) (a1 : Int32) (a2 : Int32) : FJ D M (Session_end M a0 a1 a2) := by
  unfold Session_end
  refine FJ_ck ?_
  refine FJ_if ?_ ?_
  · exact FJ_leaf (Fr_sI (Fr_sI (Fr_sI (Fr.rf hC) h0) h0) h0)
  · refine FJ_nn (Fr_sI (Fr_sI (Fr_sI (Fr.rf hC) h0) h0) h0) h0 (fun b5 hb5 => ?_)
    refine FJ_ck ?_
    refine FJ_nn (Fr_sI (Fr_sI (Fr_sI (Fr.rf hC) h0) h0) h0) hb5 (fun b7 hb7 => ?_)
    refine FJ_ck ?_
    refine FJ_if ?_ ?_
    · refine FJ_nn (Fr_sI (Fr_sI (Fr_sI (Fr.rf hC) h0) h0) h0) h0 (fun b9 hb9 => ?_)
      refine FJ_ck ?_
      refine FJ_nn (Fr_sI (Fr_sI (Fr_sI (Fr.rf hC) h0) h0) h0) hb9 (fun b11 hb11 => ?_)
      refine FJ_ck ?_
      exact fj_Session_end_L66 hT fu _ h0 _ _ (Fr_sI (Fr_sI (Fr_sI (Fr_sI (Fr.rf hC) h0) h0) h0) h0)
    · exact FJ_leaf (Fr_sI (Fr_sI (Fr_sI (Fr.rf hC) h0) h0) h0)
theorem nj_Session_end (M : Mm) (a0 : Nat) (a1 : Int32) (a2 : Int32) : NJ M (Session_end M a0 a1 a2) := by
  unfold Session_end
  refine NJ_ck ?_
  refine NJ_if ?_ ?_
  · exact NJ_leaf (Sm_sI (Sm_sI (Sm_sI Sm.rf)))
  · refine NJ_nn (fun b5 => ?_)
    refine NJ_ck ?_
    refine NJ_nn (fun b7 => ?_)
    refine NJ_ck ?_
    refine NJ_if ?_ ?_
    · refine NJ_nn (fun b9 => ?_)
      refine NJ_ck ?_
      refine NJ_nn (fun b11 => ?_)
      refine NJ_ck ?_
      exact nj_Session_end_L66 fu _ _ _ (Sm_sI (Sm_sI (Sm_sI (Sm_sI Sm.rf))))
    · exact NJ_leaf (Sm_sI (Sm_sI (Sm_sI Sm.rf)))
theorem fj_Session_bestPrice_J59 {D : Nat → Prop} {M0 : Mm} (hT : Tp D M0) (k4 : Nat → Int32 → Int32 → Int32 → Mm → Option (Int32 × Mm)) (hk4 : ∀ (x0 : Nat) (hx0 : D x0) (x1 : Int32) (x2 : Int32) (x3 : Int32) (M : Mm) (hF : Fr D M0 M), FJ D M0 (k4 x0 x1 x2 x3 M)) (x0 : Nat) (hx0 : D x0) (x1 : Int32) (x2 : Int32) (x3 : Int32) (M : Mm) (hF : Fr D M0 M) : FJ D M0 (Session_bestPrice_J59 k4 x0 x1 x2 x3 M) := by
  unfold Session_bestPrice_J59
  exact hk4 _ hx0 _ _ _ _ hF
theorem nj_Session_bestPrice_J59 {M0 : Mm} (k4 : Nat → Int32 → Int32 → Int32 → Mm → Option (Int32 × Mm)) (hk4 : ∀ (x0 : Nat) (x1 : Int32) (x2 : Int32) (x3 : Int32) (M : Mm) (hS : Sm M0 M), NJ M0 (k4 x0 x1 x2 x3 M)) (x0 : Nat) (x1 : Int32) (x2 : Int32) (x3 : Int32) (M : Mm) (hS : Sm M0 M) : NJ M0 (Session_bestPrice_J59 k4 x0 x1 x2 x3 M) := by
  unfold Session_bestPrice_J59
  exact hk4 _ _ _ _ _ hS
theorem fj_Session_bestPrice_J57 {D : Nat → Prop} {M0 : Mm} (hT : Tp D M0) (k4 : Nat → Int32 → Int32 → Int32 → Mm → Option (Int32 × Mm)) (hk4 : ∀ (x0 : Nat) (hx0 : D x0) (x1 : Int32) (x2 : Int32) (x3 : Int32) (M : Mm) (hF : Fr D M0 M), FJ D M0 (k4 x0 x1 x2 x3 M)) (x0 : Nat) (hx0 : D x0) (x1 : Int32) (x3 : Int32) (M : Mm) (hF : Fr D M0 M) : FJ D M0 (Session_bestPrice_J57 k4 x0 x1 x3 M) := by
  unfold Session_bestPrice_J57
  exact fj_Session_bestPrice_J59 hT k4 hk4 _ hx0 _ _ _ _ hF
theorem nj_Session_bestPrice_J57 {M0 : Mm} (k4 : Nat → Int32 → Int32 → Int32 → Mm → Option (Int32 × Mm)) (hk4 : ∀ (x0 : Nat) (x1 : Int32) (x2 : Int32) (x3 : Int32) (M : Mm) (hS : Sm M0 M), NJ M0 (k4 x0 x1 x2 x3 M)) (x0 : Nat) (x1 : Int32) (x3 : Int32) (M : Mm) (hS : Sm M0 M) : NJ M0 (Session_bestPrice_J57 k4 x0 x1 x3 M) := by
  unfold Session_bestPrice_J57
  exact nj_Session_bestPrice_J59 k4 hk4 _ _ _ _ _ hS
theorem fj_Session_bestPrice_B4 {D : Nat → Prop} {M0 : Mm} (hT : Tp D M0) (k4 : Nat → Int32 → Int32 → Int32 → Mm → Option (Int32 × Mm)) (hk4 : ∀ (x0 : Nat) (hx0 : D x0) (x1 : Int32) (x2 : Int32) (x3 : Int32) (M : Mm) (hF : Fr D M0 M), FJ D M0 (k4 x0 x1 x2 x3 M)) (x0 : Nat) (hx0 : D x0) (x1 : Int32) (x2 : Int32) (x3 : Int32) (M : Mm) (hF : Fr D M0 M) : FJ D M0 (Session_bestPrice_B4 k4 x0 x1 x2 x3 M) := by
  unfold Session_bestPrice_B4
  refine FJ_ck ?_
  refine FJ_if ?_ ?_
  · refine FJ_if ?_ ?_
    · exact FJ_leaf hF
    · refine FJ_nn hF hx0 (fun b2 hb2 => ?_)
      refine FJ_ck ?_
      refine FJ_nn hF hb2 (fun b4 hb4 => ?_)
      refine FJ_ck ?_
      exact FJ_leaf hF
  · refine FJ_nn hF hx0 (fun b6 hb6 => ?_)
    refine FJ_ck ?_
    refine FJ_if ?_ ?_
    · exact fj_Session_bestPrice_J59 hT k4 hk4 _ hx0 _ _ _ _ hF
    · refine FJ_nn hF hx0 (fun b9 hb9 => ?_)
      refine FJ_ck ?_
      refine FJ_nn hF hb9 (fun b11 hb11 => ?_)
      refine FJ_ck ?_
      refine FJ_if ?_ ?_
      · refine FJ_if ?_ ?_
        · exact fj_Session_bestPrice_J57 hT k4 hk4 _ hx0 _ _ _ hF
        · refine FJ_nn hF hx0 (fun b13 hb13 => ?_)
          refine FJ_ck ?_
          refine FJ_nn hF hb13 (fun b15 hb15 => ?_)
          refine FJ_nn hF hx0 (fun b16 hb16 => ?_)
          refine FJ_ck ?_
          refine FJ_nn hF hb16 (fun b18 hb18 => ?_)
          refine FJ_ck ?_
          refine FJ_bd hT hF (fun gC gT => fj_Cry_isBetterThan gC gT _ hb15 _ hb18) (fun r20 M21 hFM21 => ?_)
          refine FJ_if ?_ ?_
          · exact fj_Session_bestPrice_J59 hT k4 hk4 _ hx0 _ _ _ _ hFM21
          · exact fj_Session_bestPrice_J57 hT k4 hk4 _ hx0 _ _ _ hFM21
      · exact fj_Session_bestPrice_J59 hT k4 hk4 _ hx0 _ _ _ _ hF
theorem nj_Session_bestPrice_B4 {M0 : Mm} (k4 : Nat → Int32 → Int32 → Int32 → Mm → Option (Int32 × Mm)) (hk4 : ∀ (x0 : Nat) (x1 : Int32) (x2 : Int32) (x3 : Int32) (M : Mm) (hS : Sm M0 M), NJ M0 (k4 x0 x1 x2 x3 M)) (x0 : Nat) (x1 : Int32) (x2 : Int32) (x3 : Int32) (M : Mm) (hS : Sm M0 M) : NJ M0 (Session_bestPrice_B4 k4 x0 x1 x2 x3 M) := by
  unfold Session_bestPrice_B4
  refine NJ_ck ?_
  refine NJ_if ?_ ?_
  · refine NJ_if ?_ ?_
    · exact NJ_leaf hS
    · refine NJ_nn (fun b2 => ?_)
      refine NJ_ck ?_
      refine NJ_nn (fun b4 => ?_)
      refine NJ_ck ?_
      exact NJ_leaf hS
  · refine NJ_nn (fun b6 => ?_)
    refine NJ_ck ?_
    refine NJ_if ?_ ?_
    · exact nj_Session_bestPrice_J59 k4 hk4 _ _ _ _ _ hS
    · refine NJ_nn (fun b9 => ?_)
      refine NJ_ck ?_
      refine NJ_nn (fun b11 => ?_)
      refine NJ_ck ?_
      refine NJ_if ?_ ?_
      · refine NJ_if ?_ ?_
        · exact nj_Session_bestPrice_J57 k4 hk4 _ _ _ _ hS
        · refine NJ_nn (fun b13 => ?_)
          refine NJ_ck ?_
          refine NJ_nn (fun b15 => ?_)
          refine NJ_nn (fun b16 => ?_)
          refine NJ_ck ?_
          refine NJ_nn (fun b18 => ?_)
          refine NJ_ck ?_
          refine NJ_bd hS (nj_Cry_isBetterThan _ _ _) (fun r20 M21 hSM21 => ?_)
          refine NJ_if ?_ ?_
          · exact nj_Session_bestPrice_J59 k4 hk4 _ _ _ _ _ hSM21
          · exact nj_Session_bestPrice_J57 k4 hk4 _ _ _ _ hSM21
      · exact nj_Session_bestPrice_J59 k4 hk4 _ _ _ _ _ hS
theorem fj_Session_bestPrice_L4 {D : Nat → Prop} {M0 : Mm} (hT : Tp D M0) : ∀ (n : Nat) (x0 : Nat) (hx0 : D x0) (x1 : Int32) (x2 : Int32) (x3 : Int32) (M : Mm) (hF : Fr D M0 M), FJ D M0 (Session_bestPrice_L4 n x0 x1 x2 x3 M) := by
  intro n
  induction n with
  | zero => intros; exact FJ_none
  | succ n ih => intro x0 hx0 x1 x2 x3 M hF; exact fj_Session_bestPrice_B4 hT _ ih x0 hx0 x1 x2 x3 M hF
theorem nj_Session_bestPrice_L4 {M0 : Mm} : ∀ (n : Nat) (x0 : Nat) (x1 : Int32) (x2 : Int32) (x3 : Int32) (M : Mm) (hS : Sm M0 M), NJ M0 (Session_bestPrice_L4 n x0 x1 x2 x3 M) := by
  intro n
  induction n with
  | zero => intros; exact NJ_none
  | succ n ih => intro x0 x1 x2 x3 M hS; exact nj_Session_bestPrice_B4 _ ih x0 x1 x2 x3 M hS
theorem fj_Session_bestPrice {D : Nat → Prop} {M : Mm} (hC : Cl D M) (hT : Tp D M) (a0 : Nat) (h0 : D a0) (a1 : Int32) : FJ D M (Session_bestPrice M a0 a1) := by
  unfold Session_bestPrice
  exact fj_Session_bestPrice_L4 hT fu _ h0 _ _ _ _ (Fr.rf hC)
theorem nj_Session_bestPrice (M : Mm) (a0 : Nat) (a1 : Int32) : NJ M (Session_bestPrice M a0 a1) := by
  unfold Session_bestPrice
  exact nj_Session_bestPrice_L4 fu _ _ _ _ _ Sm.rf
theorem fj_Session_lotsAt_J52 {D : Nat → Prop} {M0 : Mm} (hT : Tp D M0) (k5 : Nat → Int32 → Int32 → Int32 → Int32 → Mm → Option (Int32 × Mm)) (hk5 : ∀ (x0 : Nat) (hx0 : D x0) (x1 : Int32) (x2 : Int32) (x3 : Int32) (x4 : Int32) (M : Mm) (hF : Fr D M0 M), FJ D M0 (k5 x0 x1 x2 x3 x4 M)) (x0 : Nat) (hx0 : D x0) (x1 : Int32) (x2 : Int32) (x3 : Int32) (x4 : Int32) (M : Mm) (hF : Fr D M0 M) : FJ D M0 (Session_lotsAt_J52 k5 x0 x1 x2 x3 x4 M) := by
  unfold Session_lotsAt_J52
  exact hk5 _ hx0 _ _ _ _ _ hF
theorem nj_Session_lotsAt_J52 {M0 : Mm} (k5 : Nat → Int32 → Int32 → Int32 → Int32 → Mm → Option (Int32 × Mm)) (hk5 : ∀ (x0 : Nat) (x1 : Int32) (x2 : Int32) (x3 : Int32) (x4 : Int32) (M : Mm) (hS : Sm M0 M), NJ M0 (k5 x0 x1 x2 x3 x4 M)) (x0 : Nat) (x1 : Int32) (x2 : Int32) (x3 : Int32) (x4 : Int32) (M : Mm) (hS : Sm M0 M) : NJ M0 (Session_lotsAt_J52 k5 x0 x1 x2 x3 x4 M) := by
  unfold Session_lotsAt_J52
  exact hk5 _ _ _ _ _ _ hS
theorem fj_Session_lotsAt_B5 {D : Nat → Prop} {M0 : Mm} (hT : Tp D M0) (k5 : Nat → Int32 → Int32 → Int32 → Int32 → Mm → Option (Int32 × Mm)) (hk5 : ∀ (x0 : Nat) (hx0 : D x0) (x1 : Int32) (x2 : Int32) (x3 : Int32) (x4 : Int32) (M : Mm) (hF : Fr D M0 M), FJ D M0 (k5 x0 x1 x2 x3 x4 M)) (x0 : Nat) (hx0 : D x0) (x1 : Int32) (x2 : Int32) (x3 : Int32) (x4 : Int32) (M : Mm) (hF : Fr D M0 M) : FJ D M0 (Session_lotsAt_B5 k5 x0 x1 x2 x3 x4 M) := by
  unfold Session_lotsAt_B5
  refine FJ_ck ?_
  refine FJ_if ?_ ?_
  · exact FJ_leaf hF
  · refine FJ_nn hF hx0 (fun b2 hb2 => ?_)
    refine FJ_ck ?_
    refine FJ_nn hF hb2 (fun b4 hb4 => ?_)
    refine FJ_ck ?_
    refine FJ_if ?_ ?_
    · refine FJ_nn hF hx0 (fun b7 hb7 => ?_)
      refine FJ_ck ?_
      refine FJ_nn hF hb7 (fun b9 hb9 => ?_)
      refine FJ_ck ?_
      refine FJ_if ?_ ?_
      · refine FJ_nn hF hx0 (fun b11 hb11 => ?_)
        refine FJ_ck ?_
        exact fj_Session_lotsAt_J52 hT k5 hk5 _ hx0 _ _ _ _ _ hF
      · exact fj_Session_lotsAt_J52 hT k5 hk5 _ hx0 _ _ _ _ _ hF
    · exact fj_Session_lotsAt_J52 hT k5 hk5 _ hx0 _ _ _ _ _ hF
theorem nj_Session_lotsAt_B5 {M0 : Mm} (k5 : Nat → Int32 → Int32 → Int32 → Int32 → Mm → Option (Int32 × Mm)) (hk5 : ∀ (x0 : Nat) (x1 : Int32) (x2 : Int32) (x3 : Int32) (x4 : Int32) (M : Mm) (hS : Sm M0 M), NJ M0 (k5 x0 x1 x2 x3 x4 M)) (x0 : Nat) (x1 : Int32) (x2 : Int32) (x3 : Int32) (x4 : Int32) (M : Mm) (hS : Sm M0 M) : NJ M0 (Session_lotsAt_B5 k5 x0 x1 x2 x3 x4 M) := by
  unfold Session_lotsAt_B5
  refine NJ_ck ?_
  refine NJ_if ?_ ?_
  · exact NJ_leaf hS
  · refine NJ_nn (fun b2 => ?_)
    refine NJ_ck ?_
    refine NJ_nn (fun b4 => ?_)
    refine NJ_ck ?_
    refine NJ_if ?_ ?_
    · refine NJ_nn (fun b7 => ?_)
      refine NJ_ck ?_
      refine NJ_nn (fun b9 => ?_)
      refine NJ_ck ?_
      refine NJ_if ?_ ?_
      · refine NJ_nn (fun b11 => ?_)
        refine NJ_ck ?_
        exact nj_Session_lotsAt_J52 k5 hk5 _ _ _ _ _ _ hS
      · exact nj_Session_lotsAt_J52 k5 hk5 _ _ _ _ _ _ hS
    · exact nj_Session_lotsAt_J52 k5 hk5 _ _ _ _ _ _ hS
theorem fj_Session_lotsAt_L5 {D : Nat → Prop} {M0 : Mm} (hT : Tp D M0) : ∀ (n : Nat) (x0 : Nat) (hx0 : D x0) (x1 : Int32) (x2 : Int32) (x3 : Int32) (x4 : Int32) (M : Mm) (hF : Fr D M0 M), FJ D M0 (Session_lotsAt_L5 n x0 x1 x2 x3 x4 M) := by
  intro n
  induction n with
  | zero => intros; exact FJ_none
  | succ n ih => intro x0 hx0 x1 x2 x3 x4 M hF; exact fj_Session_lotsAt_B5 hT _ ih x0 hx0 x1 x2 x3 x4 M hF
theorem nj_Session_lotsAt_L5 {M0 : Mm} : ∀ (n : Nat) (x0 : Nat) (x1 : Int32) (x2 : Int32) (x3 : Int32) (x4 : Int32) (M : Mm) (hS : Sm M0 M), NJ M0 (Session_lotsAt_L5 n x0 x1 x2 x3 x4 M) := by
  intro n
  induction n with
  | zero => intros; exact NJ_none
  | succ n ih => intro x0 x1 x2 x3 x4 M hS; exact nj_Session_lotsAt_B5 _ ih x0 x1 x2 x3 x4 M hS
theorem fj_Session_lotsAt {D : Nat → Prop} {M : Mm} (hC : Cl D M) (hT : Tp D M) (a0 : Nat) (h0 : D a0) (a1 : Int32) (a2 : Int32) : FJ D M (Session_lotsAt M a0 a1 a2) := by
  unfold Session_lotsAt
  exact fj_Session_lotsAt_L5 hT fu _ h0 _ _ _ _ _ (Fr.rf hC)
theorem nj_Session_lotsAt (M : Mm) (a0 : Nat) (a1 : Int32) (a2 : Int32) : NJ M (Session_lotsAt M a0 a1 a2) := by
  unfold Session_lotsAt
  exact nj_Session_lotsAt_L5 fu _ _ _ _ _ _ Sm.rf
theorem fj_Session_dropTakenBack_J24 {D : Nat → Prop} {M0 : Mm} (hT : Tp D M0) (k2 : Nat → Int32 → Nat → Int32 → Mm → Option (Unit × Mm)) (hk2 : ∀ (x0 : Nat) (hx0 : D x0) (x1 : Int32) (x2 : Nat) (hx2 : D x2) (x3 : Int32) (M : Mm) (hF : Fr D M0 M), FJ D M0 (k2 x0 x1 x2 x3 M)) (x0 : Nat) (hx0 : D x0) (x1 : Int32) (x2 : Nat) (hx2 : D x2) (x3 : Int32) (M : Mm) (hF : Fr D M0 M) : FJ D M0 (Session_dropTakenBack_J24 k2 x0 x1 x2 x3 M) := by
  unfold Session_dropTakenBack_J24
  exact hk2 _ hx0 _ _ hx2 _ _ hF
theorem nj_Session_dropTakenBack_J24 {M0 : Mm} (k2 : Nat → Int32 → Nat → Int32 → Mm → Option (Unit × Mm)) (hk2 : ∀ (x0 : Nat) (x1 : Int32) (x2 : Nat) (x3 : Int32) (M : Mm) (hS : Sm M0 M), NJ M0 (k2 x0 x1 x2 x3 M)) (x0 : Nat) (x1 : Int32) (x2 : Nat) (x3 : Int32) (M : Mm) (hS : Sm M0 M) : NJ M0 (Session_dropTakenBack_J24 k2 x0 x1 x2 x3 M) := by
  unfold Session_dropTakenBack_J24
  exact hk2 _ _ _ _ _ hS
theorem fj_Session_dropTakenBack_B2 {D : Nat → Prop} {M0 : Mm} (hT : Tp D M0) (k2 : Nat → Int32 → Nat → Int32 → Mm → Option (Unit × Mm)) (hk2 : ∀ (x0 : Nat) (hx0 : D x0) (x1 : Int32) (x2 : Nat) (hx2 : D x2) (x3 : Int32) (M : Mm) (hF : Fr D M0 M), FJ D M0 (k2 x0 x1 x2 x3 M)) (x0 : Nat) (hx0 : D x0) (x1 : Int32) (x2 : Nat) (hx2 : D x2) (x3 : Int32) (M : Mm) (hF : Fr D M0 M) : FJ D M0 (Session_dropTakenBack_B2 k2 x0 x1 x2 x3 M) := by
  unfold Session_dropTakenBack_B2
  refine FJ_if ?_ ?_
  · exact FJ_leaf hF
  · refine FJ_ck ?_
    refine FJ_nn hF hx0 (fun b2 hb2 => ?_)
    refine FJ_ck ?_
    refine FJ_nn hF hb2 (fun b4 hb4 => ?_)
    refine FJ_ck ?_
    refine FJ_if ?_ ?_
    · refine FJ_ck ?_
      exact fj_Session_dropTakenBack_J24 hT k2 hk2 _ hx0 _ _ hx2 _ _ (Fr_sI hF hx2)
    · exact fj_Session_dropTakenBack_J24 hT k2 hk2 _ hx0 _ _ hx2 _ _ hF
theorem nj_Session_dropTakenBack_B2 {M0 : Mm} (k2 : Nat → Int32 → Nat → Int32 → Mm → Option (Unit × Mm)) (hk2 : ∀ (x0 : Nat) (x1 : Int32) (x2 : Nat) (x3 : Int32) (M : Mm) (hS : Sm M0 M), NJ M0 (k2 x0 x1 x2 x3 M)) (x0 : Nat) (x1 : Int32) (x2 : Nat) (x3 : Int32) (M : Mm) (hS : Sm M0 M) : NJ M0 (Session_dropTakenBack_B2 k2 x0 x1 x2 x3 M) := by
  unfold Session_dropTakenBack_B2
  refine NJ_if ?_ ?_
  · exact NJ_leaf hS
  · refine NJ_ck ?_
    refine NJ_nn (fun b2 => ?_)
    refine NJ_ck ?_
    refine NJ_nn (fun b4 => ?_)
    refine NJ_ck ?_
    refine NJ_if ?_ ?_
    · refine NJ_ck ?_
      exact nj_Session_dropTakenBack_J24 k2 hk2 _ _ _ _ _ (Sm_sI hS)
    · exact nj_Session_dropTakenBack_J24 k2 hk2 _ _ _ _ _ hS
theorem fj_Session_dropTakenBack_L2 {D : Nat → Prop} {M0 : Mm} (hT : Tp D M0) : ∀ (n : Nat) (x0 : Nat) (hx0 : D x0) (x1 : Int32) (x2 : Nat) (hx2 : D x2) (x3 : Int32) (M : Mm) (hF : Fr D M0 M), FJ D M0 (Session_dropTakenBack_L2 n x0 x1 x2 x3 M) := by
  intro n
  induction n with
  | zero => intros; exact FJ_none
  | succ n ih => intro x0 hx0 x1 x2 hx2 x3 M hF; exact fj_Session_dropTakenBack_B2 hT _ ih x0 hx0 x1 x2 hx2 x3 M hF
theorem nj_Session_dropTakenBack_L2 {M0 : Mm} : ∀ (n : Nat) (x0 : Nat) (x1 : Int32) (x2 : Nat) (x3 : Int32) (M : Mm) (hS : Sm M0 M), NJ M0 (Session_dropTakenBack_L2 n x0 x1 x2 x3 M) := by
  intro n
  induction n with
  | zero => intros; exact NJ_none
  | succ n ih => intro x0 x1 x2 x3 M hS; exact nj_Session_dropTakenBack_B2 _ ih x0 x1 x2 x3 M hS
theorem fj_Session_dropTakenBack {D : Nat → Prop} {M : Mm} (hC : Cl D M) (hT : Tp D M) (a0 : Nat) (h0 : D a0) (a1 : Int32) (a2 : Nat) (h2 : D a2) : FJ D M (Session_dropTakenBack M a0 a1 a2) := by
  unfold Session_dropTakenBack
  exact fj_Session_dropTakenBack_L2 hT fu _ h0 _ _ h2 _ _ (Fr.rf hC)
theorem nj_Session_dropTakenBack (M : Mm) (a0 : Nat) (a1 : Int32) (a2 : Nat) : NJ M (Session_dropTakenBack M a0 a1 a2) := by
  unfold Session_dropTakenBack
  exact nj_Session_dropTakenBack_L2 fu _ _ _ _ _ Sm.rf
theorem fj_Session_meetAgain_B5 {D : Nat → Prop} {M0 : Mm} (hT : Tp D M0) (k5 : Nat → Int32 → Nat → Int32 → Int32 → Mm → Option (Int32 × Mm)) (hk5 : ∀ (x0 : Nat) (hx0 : D x0) (x1 : Int32) (x2 : Nat) (hx2 : D x2) (x3 : Int32) (x4 : Int32) (M : Mm) (hF : Fr D M0 M), FJ D M0 (k5 x0 x1 x2 x3 x4 M)) (x0 : Nat) (hx0 : D x0) (x1 : Int32) (x2 : Nat) (hx2 : D x2) (x3 : Int32) (x4 : Int32) (M : Mm) (hF : Fr D M0 M) : FJ D M0 (Session_meetAgain_B5 k5 x0 x1 x2 x3 x4 M) := by
  unfold Session_meetAgain_B5
  refine FJ_ck ?_
  refine FJ_if ?_ ?_
  · exact FJ_leaf hF
  · refine FJ_ck ?_
    refine FJ_if ?_ ?_
    · exact FJ_leaf hF
    · refine FJ_bd hT hF (fun gC gT => fj_Session_bestPartner gC gT _ hx0 _ _ hx2) (fun r3 M4 hFM4 => ?_)
      refine FJ_if ?_ ?_
      · exact FJ_leaf hFM4
      · refine FJ_bd hT hFM4 (fun gC gT => fj_Session_strike gC gT _ _ _ hx2) (fun r5 M6 hFM6 => ?_)
        refine FJ_ck ?_
        refine FJ_nn hFM6 hx0 (fun b8 hb8 => ?_)
        refine FJ_ck ?_
        refine FJ_nn hFM6 hb8 (fun b10 hb10 => ?_)
        refine FJ_ck ?_
        exact hk5 _ hx0 _ _ hx2 _ _ _ hFM6
theorem nj_Session_meetAgain_B5 {M0 : Mm} (k5 : Nat → Int32 → Nat → Int32 → Int32 → Mm → Option (Int32 × Mm)) (hk5 : ∀ (x0 : Nat) (x1 : Int32) (x2 : Nat) (x3 : Int32) (x4 : Int32) (M : Mm) (hS : Sm M0 M), NJ M0 (k5 x0 x1 x2 x3 x4 M)) (x0 : Nat) (x1 : Int32) (x2 : Nat) (x3 : Int32) (x4 : Int32) (M : Mm) (hS : Sm M0 M) : NJ M0 (Session_meetAgain_B5 k5 x0 x1 x2 x3 x4 M) := by
  unfold Session_meetAgain_B5
  refine NJ_ck ?_
  refine NJ_if ?_ ?_
  · exact NJ_leaf hS
  · refine NJ_ck ?_
    refine NJ_if ?_ ?_
    · exact NJ_leaf hS
    · refine NJ_bd hS (nj_Session_bestPartner _ _ _ _) (fun r3 M4 hSM4 => ?_)
      refine NJ_if ?_ ?_
      · exact NJ_leaf hSM4
      · refine NJ_bd hSM4 (nj_Session_strike _ _ _ _) (fun r5 M6 hSM6 => ?_)
        refine NJ_ck ?_
        refine NJ_nn (fun b8 => ?_)
        refine NJ_ck ?_
        refine NJ_nn (fun b10 => ?_)
        refine NJ_ck ?_
        exact hk5 _ _ _ _ _ _ hSM6
theorem fj_Session_meetAgain_L5 {D : Nat → Prop} {M0 : Mm} (hT : Tp D M0) : ∀ (n : Nat) (x0 : Nat) (hx0 : D x0) (x1 : Int32) (x2 : Nat) (hx2 : D x2) (x3 : Int32) (x4 : Int32) (M : Mm) (hF : Fr D M0 M), FJ D M0 (Session_meetAgain_L5 n x0 x1 x2 x3 x4 M) := by
  intro n
  induction n with
  | zero => intros; exact FJ_none
  | succ n ih => intro x0 hx0 x1 x2 hx2 x3 x4 M hF; exact fj_Session_meetAgain_B5 hT _ ih x0 hx0 x1 x2 hx2 x3 x4 M hF
theorem nj_Session_meetAgain_L5 {M0 : Mm} : ∀ (n : Nat) (x0 : Nat) (x1 : Int32) (x2 : Nat) (x3 : Int32) (x4 : Int32) (M : Mm) (hS : Sm M0 M), NJ M0 (Session_meetAgain_L5 n x0 x1 x2 x3 x4 M) := by
  intro n
  induction n with
  | zero => intros; exact NJ_none
  | succ n ih => intro x0 x1 x2 x3 x4 M hS; exact nj_Session_meetAgain_B5 _ ih x0 x1 x2 x3 x4 M hS
theorem fj_Session_meetAgain {D : Nat → Prop} {M : Mm} (hC : Cl D M) (hT : Tp D M) (a0 : Nat) (h0 : D a0) (a1 : Int32) (a2 : Nat) (h2 : D a2) : FJ D M (Session_meetAgain M a0 a1 a2) := by
  unfold Session_meetAgain
  exact fj_Session_meetAgain_L5 hT fu _ h0 _ _ h2 _ _ _ (Fr.rf hC)
theorem nj_Session_meetAgain (M : Mm) (a0 : Nat) (a1 : Int32) (a2 : Nat) : NJ M (Session_meetAgain M a0 a1 a2) := by
  unfold Session_meetAgain
  exact nj_Session_meetAgain_L5 fu _ _ _ _ _ _ Sm.rf
theorem fj_Session_otherClose_J103 {D : Nat → Prop} {M0 : Mm} (hT : Tp D M0) (k6 : Nat → Int32 → Int32 → Nat → Int32 → Int32 → Mm → Option (Int32 × Mm)) (hk6 : ∀ (x0 : Nat) (hx0 : D x0) (x1 : Int32) (x2 : Int32) (x3 : Nat) (hx3 : D x3) (x4 : Int32) (x5 : Int32) (M : Mm) (hF : Fr D M0 M), FJ D M0 (k6 x0 x1 x2 x3 x4 x5 M)) (x0 : Nat) (hx0 : D x0) (x1 : Int32) (x2 : Int32) (x3 : Nat) (hx3 : D x3) (x4 : Int32) (x5 : Int32) (M : Mm) (hF : Fr D M0 M) : FJ D M0 (Session_otherClose_J103 k6 x0 x1 x2 x3 x4 x5 M) := by
  unfold Session_otherClose_J103
  exact hk6 _ hx0 _ _ _ hx3 _ _ _ hF
theorem nj_Session_otherClose_J103 {M0 : Mm} (k6 : Nat → Int32 → Int32 → Nat → Int32 → Int32 → Mm → Option (Int32 × Mm)) (hk6 : ∀ (x0 : Nat) (x1 : Int32) (x2 : Int32) (x3 : Nat) (x4 : Int32) (x5 : Int32) (M : Mm) (hS : Sm M0 M), NJ M0 (k6 x0 x1 x2 x3 x4 x5 M)) (x0 : Nat) (x1 : Int32) (x2 : Int32) (x3 : Nat) (x4 : Int32) (x5 : Int32) (M : Mm) (hS : Sm M0 M) : NJ M0 (Session_otherClose_J103 k6 x0 x1 x2 x3 x4 x5 M) := by
  unfold Session_otherClose_J103
  exact hk6 _ _ _ _ _ _ _ hS
theorem fj_Session_otherClose_J101 {D : Nat → Prop} {M0 : Mm} (hT : Tp D M0) (k6 : Nat → Int32 → Int32 → Nat → Int32 → Int32 → Mm → Option (Int32 × Mm)) (hk6 : ∀ (x0 : Nat) (hx0 : D x0) (x1 : Int32) (x2 : Int32) (x3 : Nat) (hx3 : D x3) (x4 : Int32) (x5 : Int32) (M : Mm) (hF : Fr D M0 M), FJ D M0 (k6 x0 x1 x2 x3 x4 x5 M)) (x0 : Nat) (hx0 : D x0) (x1 : Int32) (x2 : Int32) (x3 : Nat) (hx3 : D x3) (x5 : Int32) (s0 : Int32) (M : Mm) (hF : Fr D M0 M) : FJ D M0 (Session_otherClose_J101 k6 x0 x1 x2 x3 x5 s0 M) := by
  unfold Session_otherClose_J101
  exact fj_Session_otherClose_J103 hT k6 hk6 _ hx0 _ _ _ hx3 _ _ _ hF
theorem nj_Session_otherClose_J101 {M0 : Mm} (k6 : Nat → Int32 → Int32 → Nat → Int32 → Int32 → Mm → Option (Int32 × Mm)) (hk6 : ∀ (x0 : Nat) (x1 : Int32) (x2 : Int32) (x3 : Nat) (x4 : Int32) (x5 : Int32) (M : Mm) (hS : Sm M0 M), NJ M0 (k6 x0 x1 x2 x3 x4 x5 M)) (x0 : Nat) (x1 : Int32) (x2 : Int32) (x3 : Nat) (x5 : Int32) (s0 : Int32) (M : Mm) (hS : Sm M0 M) : NJ M0 (Session_otherClose_J101 k6 x0 x1 x2 x3 x5 s0 M) := by
  unfold Session_otherClose_J101
  exact nj_Session_otherClose_J103 k6 hk6 _ _ _ _ _ _ _ hS
theorem fj_Session_otherClose_J57 {D : Nat → Prop} {M0 : Mm} (hT : Tp D M0) (k6 : Nat → Int32 → Int32 → Nat → Int32 → Int32 → Mm → Option (Int32 × Mm)) (hk6 : ∀ (x0 : Nat) (hx0 : D x0) (x1 : Int32) (x2 : Int32) (x3 : Nat) (hx3 : D x3) (x4 : Int32) (x5 : Int32) (M : Mm) (hF : Fr D M0 M), FJ D M0 (k6 x0 x1 x2 x3 x4 x5 M)) (x0 : Nat) (hx0 : D x0) (x1 : Int32) (x2 : Int32) (x3 : Nat) (hx3 : D x3) (x4 : Int32) (x5 : Int32) (s0 : Int32) (s1 : Int32) (s2 : Nat) (hs2 : D s2) (M : Mm) (hF : Fr D M0 M) : FJ D M0 (Session_otherClose_J57 k6 x0 x1 x2 x3 x4 x5 s0 s1 s2 M) := by
  unfold Session_otherClose_J57
  refine FJ_ck ?_
  refine FJ_ck ?_
  refine FJ_bd hT (Fr_sI hF hs2) (fun gC gT => fj_Session_meetAgain gC gT _ hx0 _ _ hx3) (fun r14 M15 hFM15 => ?_)
  refine FJ_if ?_ ?_
  · exact fj_Session_otherClose_J103 hT k6 hk6 _ hx0 _ _ _ hx3 _ _ _ hFM15
  · refine FJ_ck ?_
    refine FJ_nn hFM15 hx0 (fun b18 hb18 => ?_)
    refine FJ_ck ?_
    refine FJ_nn hFM15 hb18 (fun b20 hb20 => ?_)
    refine FJ_ck ?_
    refine FJ_if ?_ ?_
    · exact fj_Session_otherClose_J101 hT k6 hk6 _ hx0 _ _ _ hx3 _ _ _ hFM15
    · exact fj_Session_otherClose_J101 hT k6 hk6 _ hx0 _ _ _ hx3 _ _ _ hFM15
theorem nj_Session_otherClose_J57 {M0 : Mm} (k6 : Nat → Int32 → Int32 → Nat → Int32 → Int32 → Mm → Option (Int32 × Mm)) (hk6 : ∀ (x0 : Nat) (x1 : Int32) (x2 : Int32) (x3 : Nat) (x4 : Int32) (x5 : Int32) (M : Mm) (hS : Sm M0 M), NJ M0 (k6 x0 x1 x2 x3 x4 x5 M)) (x0 : Nat) (x1 : Int32) (x2 : Int32) (x3 : Nat) (x4 : Int32) (x5 : Int32) (s0 : Int32) (s1 : Int32) (s2 : Nat) (M : Mm) (hS : Sm M0 M) : NJ M0 (Session_otherClose_J57 k6 x0 x1 x2 x3 x4 x5 s0 s1 s2 M) := by
  unfold Session_otherClose_J57
  refine NJ_ck ?_
  refine NJ_ck ?_
  refine NJ_bd (Sm_sI hS) (nj_Session_meetAgain _ _ _ _) (fun r14 M15 hSM15 => ?_)
  refine NJ_if ?_ ?_
  · exact nj_Session_otherClose_J103 k6 hk6 _ _ _ _ _ _ _ hSM15
  · refine NJ_ck ?_
    refine NJ_nn (fun b18 => ?_)
    refine NJ_ck ?_
    refine NJ_nn (fun b20 => ?_)
    refine NJ_ck ?_
    refine NJ_if ?_ ?_
    · exact nj_Session_otherClose_J101 k6 hk6 _ _ _ _ _ _ _ hSM15
    · exact nj_Session_otherClose_J101 k6 hk6 _ _ _ _ _ _ _ hSM15
theorem fj_Session_otherClose_B6 {D : Nat → Prop} {M0 : Mm} (hT : Tp D M0) (k6 : Nat → Int32 → Int32 → Nat → Int32 → Int32 → Mm → Option (Int32 × Mm)) (hk6 : ∀ (x0 : Nat) (hx0 : D x0) (x1 : Int32) (x2 : Int32) (x3 : Nat) (hx3 : D x3) (x4 : Int32) (x5 : Int32) (M : Mm) (hF : Fr D M0 M), FJ D M0 (k6 x0 x1 x2 x3 x4 x5 M)) (x0 : Nat) (hx0 : D x0) (x1 : Int32) (x2 : Int32) (x3 : Nat) (hx3 : D x3) (x4 : Int32) (x5 : Int32) (M : Mm) (hF : Fr D M0 M) : FJ D M0 (Session_otherClose_B6 k6 x0 x1 x2 x3 x4 x5 M) := by
  unfold Session_otherClose_B6
  refine FJ_ck ?_
  refine FJ_if ?_ ?_
  · exact FJ_leaf hF
  · refine FJ_bd hT hF (fun gC gT => fj_Session_dropTakenBack gC gT _ hx0 _ _ hx3) (fun _ M3 hFM3 => ?_)
    refine FJ_ck ?_
    refine FJ_nn hFM3 hx0 (fun b5 hb5 => ?_)
    refine FJ_ck ?_
    refine FJ_nn hFM3 hb5 (fun b7 hb7 => ?_)
    refine FJ_ck ?_
    refine FJ_bd hT hFM3 (fun gC gT => fj_Hall_isWithin gC gT _ _ _) (fun r9 M10 hFM10 => ?_)
    refine FJ_if ?_ ?_
    · exact fj_Session_otherClose_J57 hT k6 hk6 _ hx0 _ _ _ hx3 _ _ _ _ _ hx3 _ hFM10
    · refine FJ_ck ?_
      refine FJ_nn hFM10 hx0 (fun b23 hb23 => ?_)
      refine FJ_ck ?_
      refine FJ_nn hFM10 hb23 (fun b25 hb25 => ?_)
      refine FJ_ck ?_
      exact fj_Session_otherClose_J57 hT k6 hk6 _ hx0 _ _ _ hx3 _ _ _ _ _ hx3 _ hFM10
theorem nj_Session_otherClose_B6 {M0 : Mm} (k6 : Nat → Int32 → Int32 → Nat → Int32 → Int32 → Mm → Option (Int32 × Mm)) (hk6 : ∀ (x0 : Nat) (x1 : Int32) (x2 : Int32) (x3 : Nat) (x4 : Int32) (x5 : Int32) (M : Mm) (hS : Sm M0 M), NJ M0 (k6 x0 x1 x2 x3 x4 x5 M)) (x0 : Nat) (x1 : Int32) (x2 : Int32) (x3 : Nat) (x4 : Int32) (x5 : Int32) (M : Mm) (hS : Sm M0 M) : NJ M0 (Session_otherClose_B6 k6 x0 x1 x2 x3 x4 x5 M) := by
  unfold Session_otherClose_B6
  refine NJ_ck ?_
  refine NJ_if ?_ ?_
  · exact NJ_leaf hS
  · refine NJ_bd hS (nj_Session_dropTakenBack _ _ _ _) (fun _ M3 hSM3 => ?_)
    refine NJ_ck ?_
    refine NJ_nn (fun b5 => ?_)
    refine NJ_ck ?_
    refine NJ_nn (fun b7 => ?_)
    refine NJ_ck ?_
    refine NJ_bd hSM3 (nj_Hall_isWithin _ _ _ _) (fun r9 M10 hSM10 => ?_)
    refine NJ_if ?_ ?_
    · exact nj_Session_otherClose_J57 k6 hk6 _ _ _ _ _ _ _ _ _ _ hSM10
    · refine NJ_ck ?_
      refine NJ_nn (fun b23 => ?_)
      refine NJ_ck ?_
      refine NJ_nn (fun b25 => ?_)
      refine NJ_ck ?_
      exact nj_Session_otherClose_J57 k6 hk6 _ _ _ _ _ _ _ _ _ _ hSM10
theorem fj_Session_otherClose_L6 {D : Nat → Prop} {M0 : Mm} (hT : Tp D M0) : ∀ (n : Nat) (x0 : Nat) (hx0 : D x0) (x1 : Int32) (x2 : Int32) (x3 : Nat) (hx3 : D x3) (x4 : Int32) (x5 : Int32) (M : Mm) (hF : Fr D M0 M), FJ D M0 (Session_otherClose_L6 n x0 x1 x2 x3 x4 x5 M) := by
  intro n
  induction n with
  | zero => intros; exact FJ_none
  | succ n ih => intro x0 hx0 x1 x2 x3 hx3 x4 x5 M hF; exact fj_Session_otherClose_B6 hT _ ih x0 hx0 x1 x2 x3 hx3 x4 x5 M hF
theorem nj_Session_otherClose_L6 {M0 : Mm} : ∀ (n : Nat) (x0 : Nat) (x1 : Int32) (x2 : Int32) (x3 : Nat) (x4 : Int32) (x5 : Int32) (M : Mm) (hS : Sm M0 M), NJ M0 (Session_otherClose_L6 n x0 x1 x2 x3 x4 x5 M) := by
  intro n
  induction n with
  | zero => intros; exact NJ_none
  | succ n ih => intro x0 x1 x2 x3 x4 x5 M hS; exact nj_Session_otherClose_B6 _ ih x0 x1 x2 x3 x4 x5 M hS
theorem fj_Session_otherClose {D : Nat → Prop} {M : Mm} (hC : Cl D M) (hT : Tp D M) (a0 : Nat) (h0 : D a0) (a1 : Int32) (a2 : Int32) (a3 : Nat) (h3 : D a3) : FJ D M (Session_otherClose M a0 a1 a2 a3) := by
  unfold Session_otherClose
  exact fj_Session_otherClose_L6 hT fu _ h0 _ _ _ h3 _ _ _ (Fr.rf hC)
theorem nj_Session_otherClose (M : Mm) (a0 : Nat) (a1 : Int32) (a2 : Int32) (a3 : Nat) : NJ M (Session_otherClose M a0 a1 a2 a3) := by
  unfold Session_otherClose
  exact nj_Session_otherClose_L6 fu _ _ _ _ _ _ _ Sm.rf
theorem fj_Hall_town {D : Nat → Prop} {M : Mm} (hC : Cl D M) (hT : Tp D M) (a0 : Nat) (h0 : D a0) : FJ D M (Hall_town M a0) := by
  unfold Hall_town
  refine FJ_ck ?_
  refine FJ_nn (Fr.rf hC) h0 (fun b2 hb2 => ?_)
  refine FJ_ck ?_
  refine FJ_bd hT (Fr.rf hC) (fun gC gT => fj_Land_addTown gC gT _ hb2) (fun r4 M5 hFM5 => ?_)
  exact FJ_leaf hFM5
theorem nj_Hall_town (M : Mm) (a0 : Nat) : NJ M (Hall_town M a0) := by
  unfold Hall_town
  refine NJ_ck ?_
  refine NJ_nn (fun b2 => ?_)
  refine NJ_ck ?_
  refine NJ_bd Sm.rf (nj_Land_addTown _ _) (fun r4 M5 hSM5 => ?_)
  exact NJ_leaf hSM5
theorem fj_Hall_fog {D : Nat → Prop} {M : Mm} (hC : Cl D M) (hT : Tp D M) (a0 : Nat) (h0 : D a0) (a1 : Int32) (a2 : Int32) (a3 : Int32) : FJ D M (Hall_fog M a0 a1 a2 a3) := by
  unfold Hall_fog
  refine FJ_ck ?_
  refine FJ_nn (Fr.rf hC) h0 (fun b2 hb2 => ?_)
  refine FJ_ck ?_
  refine FJ_bd hT (Fr.rf hC) (fun gC gT => fj_Land_setFog gC gT _ hb2 _ _ _) (fun r4 M5 hFM5 => ?_)
  refine FJ_ck ?_
  exact FJ_leaf hFM5
theorem nj_Hall_fog (M : Mm) (a0 : Nat) (a1 : Int32) (a2 : Int32) (a3 : Int32) : NJ M (Hall_fog M a0 a1 a2 a3) := by
  unfold Hall_fog
  refine NJ_ck ?_
  refine NJ_nn (fun b2 => ?_)
  refine NJ_ck ?_
  refine NJ_bd Sm.rf (nj_Land_setFog _ _ _ _ _) (fun r4 M5 hSM5 => ?_)
  refine NJ_ck ?_
  exact NJ_leaf hSM5
theorem fj_Hall_road {D : Nat → Prop} {M : Mm} (hC : Cl D M) (hT : Tp D M) (a0 : Nat) (h0 : D a0) (a1 : Int32) (a2 : Int32) (a3 : Int32) (a4 : Int32) : FJ D M (Hall_road M a0 a1 a2 a3 a4) := by
  unfold Hall_road
  refine FJ_ck ?_
  refine FJ_nn (Fr.rf hC) h0 (fun b2 hb2 => ?_)
  refine FJ_ck ?_
  refine FJ_bd hT (Fr.rf hC) (fun gC gT => fj_Land_setRoad gC gT _ hb2 _ _ _ _) (fun r4 M5 hFM5 => ?_)
  refine FJ_ck ?_
  exact FJ_leaf hFM5
theorem nj_Hall_road (M : Mm) (a0 : Nat) (a1 : Int32) (a2 : Int32) (a3 : Int32) (a4 : Int32) : NJ M (Hall_road M a0 a1 a2 a3 a4) := by
  unfold Hall_road
  refine NJ_ck ?_
  refine NJ_nn (fun b2 => ?_)
  refine NJ_ck ?_
  refine NJ_bd Sm.rf (nj_Land_setRoad _ _ _ _ _ _) (fun r4 M5 hSM5 => ?_)
  refine NJ_ck ?_
  exact NJ_leaf hSM5
theorem fj_Hall_news {D : Nat → Prop} {M : Mm} (hC : Cl D M) (hT : Tp D M) (a0 : Nat) (h0 : D a0) (a1 : Int32) (a2 : Int32) (a3 : Int32) : FJ D M (Hall_news M a0 a1 a2 a3) := by
  unfold Hall_news
  refine FJ_ck ?_
  refine FJ_nn (Fr.rf hC) h0 (fun b2 hb2 => ?_)
  refine FJ_ck ?_
  refine FJ_bd hT (Fr.rf hC) (fun gC gT => fj_Land_has gC gT _ hb2 _) (fun r4 M5 hFM5 => ?_)
  refine FJ_if ?_ ?_
  · exact FJ_leaf hFM5
  · refine FJ_ck ?_
    refine FJ_nn hFM5 h0 (fun b7 hb7 => ?_)
    refine FJ_ck ?_
    refine FJ_bd hT hFM5 (fun gC gT => fj_Land_has gC gT _ hb7 _) (fun r9 M10 hFM10 => ?_)
    refine FJ_if ?_ ?_
    · exact FJ_leaf hFM10
    · refine FJ_bd hT hFM10 (fun gC gT => fj_Hall_isWithin gC gT _ _ _) (fun r11 M12 hFM12 => ?_)
      refine FJ_if ?_ ?_
      · exact FJ_leaf hFM12
      · refine FJ_ck ?_
        refine FJ_nn hFM12 h0 (fun b14 hb14 => ?_)
        refine FJ_ck ?_
        refine FJ_bd hT hFM12 (fun gC gT => fj_Land_spread gC gT _ hb14 _ _) (fun _ M17 hFM17 => ?_)
        refine FJ_ck ?_
        refine FJ_nn hFM17 h0 (fun b19 hb19 => ?_)
        refine FJ_ck ?_
        refine FJ_bd hT hFM17 (fun gC gT => fj_Land_minuteIn gC gT _ hb19 _) (fun r21 M22 hFM22 => ?_)
        exact FJ_leaf hFM22
theorem nj_Hall_news (M : Mm) (a0 : Nat) (a1 : Int32) (a2 : Int32) (a3 : Int32) : NJ M (Hall_news M a0 a1 a2 a3) := by
  unfold Hall_news
  refine NJ_ck ?_
  refine NJ_nn (fun b2 => ?_)
  refine NJ_ck ?_
  refine NJ_bd Sm.rf (nj_Land_has _ _ _) (fun r4 M5 hSM5 => ?_)
  refine NJ_if ?_ ?_
  · exact NJ_leaf hSM5
  · refine NJ_ck ?_
    refine NJ_nn (fun b7 => ?_)
    refine NJ_ck ?_
    refine NJ_bd hSM5 (nj_Land_has _ _ _) (fun r9 M10 hSM10 => ?_)
    refine NJ_if ?_ ?_
    · exact NJ_leaf hSM10
    · refine NJ_bd hSM10 (nj_Hall_isWithin _ _ _ _) (fun r11 M12 hSM12 => ?_)
      refine NJ_if ?_ ?_
      · exact NJ_leaf hSM12
      · refine NJ_ck ?_
        refine NJ_nn (fun b14 => ?_)
        refine NJ_ck ?_
        refine NJ_bd hSM12 (nj_Land_spread _ _ _ _) (fun _ M17 hSM17 => ?_)
        refine NJ_ck ?_
        refine NJ_nn (fun b19 => ?_)
        refine NJ_ck ?_
        refine NJ_bd hSM17 (nj_Land_minuteIn _ _ _) (fun r21 M22 hSM22 => ?_)
        exact NJ_leaf hSM22
theorem fj_Hall_person {D : Nat → Prop} {M : Mm} (hC : Cl D M) (hT : Tp D M) (a0 : Nat) (h0 : D a0) (a1 : Int32) : FJ D M (Hall_person M a0 a1) := by
  unfold Hall_person
  refine FJ_ck ?_
  refine FJ_nn (Fr.rf hC) h0 (fun b2 hb2 => ?_)
  refine FJ_ck ?_
  refine FJ_bd hT (Fr.rf hC) (fun gC gT => fj_Land_has gC gT _ hb2 _) (fun r4 M5 hFM5 => ?_)
  refine FJ_if ?_ ?_
  · exact FJ_leaf hFM5
  · refine FJ_ck ?_
    refine FJ_if ?_ ?_
    · refine FJ_nn hFM5 h0 (fun b7 hb7 => ?_)
      refine FJ_bd hT (Fr_nw hT hFM5) (fun gC gT => fj_Person_new gC gT _ (hT _ (Fr.z hFM5)) _) (fun _ M10 hFM10 => ?_)
      refine FJ_ck ?_
      refine FJ_ck ?_
      refine FJ_ck ?_
      exact FJ_leaf (Fr_sI (Fr_sRs hFM10 hb7 (hT _ (Fr.z hFM5))) h0)
    · exact FJ_leaf hFM5
theorem fj_Hall_minuteHeard {D : Nat → Prop} {M : Mm} (hC : Cl D M) (hT : Tp D M) (a0 : Nat) (h0 : D a0) (a1 : Int32) : FJ D M (Hall_minuteHeard M a0 a1) := by
  unfold Hall_minuteHeard
  refine FJ_ck ?_
  refine FJ_nn (Fr.rf hC) h0 (fun b2 hb2 => ?_)
  refine FJ_nn (Fr.rf hC) h0 (fun b3 hb3 => ?_)
  refine FJ_ck ?_
  refine FJ_nn (Fr.rf hC) hb3 (fun b5 hb5 => ?_)
  refine FJ_ck ?_
  refine FJ_ck ?_
  refine FJ_bd hT (Fr.rf hC) (fun gC gT => fj_Land_minuteIn gC gT _ hb2 _) (fun r8 M9 hFM9 => ?_)
  exact FJ_leaf hFM9
theorem nj_Hall_minuteHeard (M : Mm) (a0 : Nat) (a1 : Int32) : NJ M (Hall_minuteHeard M a0 a1) := by
  unfold Hall_minuteHeard
  refine NJ_ck ?_
  refine NJ_nn (fun b2 => ?_)
  refine NJ_nn (fun b3 => ?_)
  refine NJ_ck ?_
  refine NJ_nn (fun b5 => ?_)
  refine NJ_ck ?_
  refine NJ_ck ?_
  refine NJ_bd Sm.rf (nj_Land_minuteIn _ _ _) (fun r8 M9 hSM9 => ?_)
  exact NJ_leaf hSM9
