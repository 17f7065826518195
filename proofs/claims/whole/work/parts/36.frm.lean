theorem fj_Hall_heardAhead_J55 {D : Nat → Prop} {M0 : Mm} (hT : Tp D M0) (k11 : Nat → Int32 → Int32 → Int32 → Int32 → Mm → Option (Int32 × Mm)) (hk11 : ∀ (x0 : Nat) (hx0 : D x0) (x1 : Int32) (x2 : Int32) (x3 : Int32) (x4 : Int32) (M : Mm) (hF : Fr D M0 M), FJ D M0 (k11 x0 x1 x2 x3 x4 M)) (x0 : Nat) (hx0 : D x0) (x1 : Int32) (x2 : Int32) (x3 : Int32) (x4 : Int32) (M : Mm) (hF : Fr D M0 M) : FJ D M0 (Hall_heardAhead_J55 k11 x0 x1 x2 x3 x4 M) := by
  unfold Hall_heardAhead_J55
  exact hk11 _ hx0 _ _ _ _ _ hF
theorem nj_Hall_heardAhead_J55 {M0 : Mm} (k11 : Nat → Int32 → Int32 → Int32 → Int32 → Mm → Option (Int32 × Mm)) (hk11 : ∀ (x0 : Nat) (x1 : Int32) (x2 : Int32) (x3 : Int32) (x4 : Int32) (M : Mm) (hS : Sm M0 M), NJ M0 (k11 x0 x1 x2 x3 x4 M)) (x0 : Nat) (x1 : Int32) (x2 : Int32) (x3 : Int32) (x4 : Int32) (M : Mm) (hS : Sm M0 M) : NJ M0 (Hall_heardAhead_J55 k11 x0 x1 x2 x3 x4 M) := by
  unfold Hall_heardAhead_J55
  exact hk11 _ _ _ _ _ _ hS
theorem fj_Hall_heardAhead_J52 {D : Nat → Prop} {M0 : Mm} (hT : Tp D M0) (k11 : Nat → Int32 → Int32 → Int32 → Int32 → Mm → Option (Int32 × Mm)) (hk11 : ∀ (x0 : Nat) (hx0 : D x0) (x1 : Int32) (x2 : Int32) (x3 : Int32) (x4 : Int32) (M : Mm) (hF : Fr D M0 M), FJ D M0 (k11 x0 x1 x2 x3 x4 M)) (x0 : Nat) (hx0 : D x0) (x1 : Int32) (x2 : Int32) (x3 : Int32) (x4 : Int32) (M : Mm) (hF : Fr D M0 M) : FJ D M0 (Hall_heardAhead_J52 k11 x0 x1 x2 x3 x4 M) := by
  unfold Hall_heardAhead_J52
  exact fj_Hall_heardAhead_J55 hT k11 hk11 _ hx0 _ _ _ _ _ hF
theorem nj_Hall_heardAhead_J52 {M0 : Mm} (k11 : Nat → Int32 → Int32 → Int32 → Int32 → Mm → Option (Int32 × Mm)) (hk11 : ∀ (x0 : Nat) (x1 : Int32) (x2 : Int32) (x3 : Int32) (x4 : Int32) (M : Mm) (hS : Sm M0 M), NJ M0 (k11 x0 x1 x2 x3 x4 M)) (x0 : Nat) (x1 : Int32) (x2 : Int32) (x3 : Int32) (x4 : Int32) (M : Mm) (hS : Sm M0 M) : NJ M0 (Hall_heardAhead_J52 k11 x0 x1 x2 x3 x4 M) := by
  unfold Hall_heardAhead_J52
  exact nj_Hall_heardAhead_J55 k11 hk11 _ _ _ _ _ _ hS
theorem fj_Hall_heardAhead_B11 {D : Nat → Prop} {M0 : Mm} (hT : Tp D M0) (k11 : Nat → Int32 → Int32 → Int32 → Int32 → Mm → Option (Int32 × Mm)) (hk11 : ∀ (x0 : Nat) (hx0 : D x0) (x1 : Int32) (x2 : Int32) (x3 : Int32) (x4 : Int32) (M : Mm) (hF : Fr D M0 M), FJ D M0 (k11 x0 x1 x2 x3 x4 M)) (x0 : Nat) (hx0 : D x0) (x1 : Int32) (x2 : Int32) (x3 : Int32) (x4 : Int32) (M : Mm) (hF : Fr D M0 M) : FJ D M0 (Hall_heardAhead_B11 k11 x0 x1 x2 x3 x4 M) := by
  unfold Hall_heardAhead_B11
  refine FJ_ck ?_
  refine FJ_if ?_ ?_
  · exact FJ_leaf hF
  · refine FJ_bd hT hF (fun gC gT => fj_Hall_minuteHeard gC gT _ hx0 _) (fun r5 M6 hFM6 => ?_)
    refine FJ_if ?_ ?_
    · exact fj_Hall_heardAhead_J55 hT k11 hk11 _ hx0 _ _ _ _ _ hFM6
    · refine FJ_if ?_ ?_
      · exact fj_Hall_heardAhead_J52 hT k11 hk11 _ hx0 _ _ _ _ _ hFM6
      · refine FJ_if ?_ ?_
        · refine FJ_if ?_ ?_
          · exact fj_Hall_heardAhead_J55 hT k11 hk11 _ hx0 _ _ _ _ _ hFM6
          · exact fj_Hall_heardAhead_J52 hT k11 hk11 _ hx0 _ _ _ _ _ hFM6
        · exact fj_Hall_heardAhead_J55 hT k11 hk11 _ hx0 _ _ _ _ _ hFM6
theorem nj_Hall_heardAhead_B11 {M0 : Mm} (k11 : Nat → Int32 → Int32 → Int32 → Int32 → Mm → Option (Int32 × Mm)) (hk11 : ∀ (x0 : Nat) (x1 : Int32) (x2 : Int32) (x3 : Int32) (x4 : Int32) (M : Mm) (hS : Sm M0 M), NJ M0 (k11 x0 x1 x2 x3 x4 M)) (x0 : Nat) (x1 : Int32) (x2 : Int32) (x3 : Int32) (x4 : Int32) (M : Mm) (hS : Sm M0 M) : NJ M0 (Hall_heardAhead_B11 k11 x0 x1 x2 x3 x4 M) := by
  unfold Hall_heardAhead_B11
  refine NJ_ck ?_
  refine NJ_if ?_ ?_
  · exact NJ_leaf hS
  · refine NJ_bd hS (nj_Hall_minuteHeard _ _ _) (fun r5 M6 hSM6 => ?_)
    refine NJ_if ?_ ?_
    · exact nj_Hall_heardAhead_J55 k11 hk11 _ _ _ _ _ _ hSM6
    · refine NJ_if ?_ ?_
      · exact nj_Hall_heardAhead_J52 k11 hk11 _ _ _ _ _ _ hSM6
      · refine NJ_if ?_ ?_
        · refine NJ_if ?_ ?_
          · exact nj_Hall_heardAhead_J55 k11 hk11 _ _ _ _ _ _ hSM6
          · exact nj_Hall_heardAhead_J52 k11 hk11 _ _ _ _ _ _ hSM6
        · exact nj_Hall_heardAhead_J55 k11 hk11 _ _ _ _ _ _ hSM6
theorem fj_Hall_heardAhead_L11 {D : Nat → Prop} {M0 : Mm} (hT : Tp D M0) : ∀ (n : Nat) (x0 : Nat) (hx0 : D x0) (x1 : Int32) (x2 : Int32) (x3 : Int32) (x4 : Int32) (M : Mm) (hF : Fr D M0 M), FJ D M0 (Hall_heardAhead_L11 n x0 x1 x2 x3 x4 M) := by
  intro n
  induction n with
  | zero => intros; exact FJ_none
  | succ n ih => intro x0 hx0 x1 x2 x3 x4 M hF; exact fj_Hall_heardAhead_B11 hT _ ih x0 hx0 x1 x2 x3 x4 M hF
theorem nj_Hall_heardAhead_L11 {M0 : Mm} : ∀ (n : Nat) (x0 : Nat) (x1 : Int32) (x2 : Int32) (x3 : Int32) (x4 : Int32) (M : Mm) (hS : Sm M0 M), NJ M0 (Hall_heardAhead_L11 n x0 x1 x2 x3 x4 M) := by
  intro n
  induction n with
  | zero => intros; exact NJ_none
  | succ n ih => intro x0 x1 x2 x3 x4 M hS; exact nj_Hall_heardAhead_B11 _ ih x0 x1 x2 x3 x4 M hS
theorem fj_Hall_heardAhead {D : Nat → Prop} {M : Mm} (hC : Cl D M) (hT : Tp D M) (a0 : Nat) (h0 : D a0) (a1 : Int32) : FJ D M (Hall_heardAhead M a0 a1) := by
  unfold Hall_heardAhead
  refine FJ_ck ?_
  refine FJ_bd hT (Fr.rf hC) (fun gC gT => fj_Hall_minuteHeard gC gT _ h0 _) (fun r2 M3 hFM3 => ?_)
  exact fj_Hall_heardAhead_L11 hT fu _ h0 _ _ _ _ _ hFM3
theorem nj_Hall_heardAhead (M : Mm) (a0 : Nat) (a1 : Int32) : NJ M (Hall_heardAhead M a0 a1) := by
  unfold Hall_heardAhead
  refine NJ_ck ?_
  refine NJ_bd Sm.rf (nj_Hall_minuteHeard _ _ _) (fun r2 M3 hSM3 => ?_)
  exact nj_Hall_heardAhead_L11 fu _ _ _ _ _ _ hSM3
theorem fj_Hall_hears_J81 {D : Nat → Prop} {M0 : Mm} (hT : Tp D M0) (k49 : Nat → Int32 → Int32 → Mm → Option (Int32 × Mm)) (hk49 : ∀ (x0 : Nat) (hx0 : D x0) (x3 : Int32) (x4 : Int32) (M : Mm) (hF : Fr D M0 M), FJ D M0 (k49 x0 x3 x4 M)) (x0 : Nat) (hx0 : D x0) (x3 : Int32) (x4 : Int32) (M : Mm) (hF : Fr D M0 M) : FJ D M0 (Hall_hears_J81 k49 x0 x3 x4 M) := by
  unfold Hall_hears_J81
  exact hk49 _ hx0 _ _ _ hF
theorem nj_Hall_hears_J81 {M0 : Mm} (k49 : Nat → Int32 → Int32 → Mm → Option (Int32 × Mm)) (hk49 : ∀ (x0 : Nat) (x3 : Int32) (x4 : Int32) (M : Mm) (hS : Sm M0 M), NJ M0 (k49 x0 x3 x4 M)) (x0 : Nat) (x3 : Int32) (x4 : Int32) (M : Mm) (hS : Sm M0 M) : NJ M0 (Hall_hears_J81 k49 x0 x3 x4 M) := by
  unfold Hall_hears_J81
  exact hk49 _ _ _ _ hS
theorem fj_Hall_hears_B49 {D : Nat → Prop} {M0 : Mm} (hT : Tp D M0) (k49 : Nat → Int32 → Int32 → Mm → Option (Int32 × Mm)) (hk49 : ∀ (x0 : Nat) (hx0 : D x0) (x3 : Int32) (x4 : Int32) (M : Mm) (hF : Fr D M0 M), FJ D M0 (k49 x0 x3 x4 M)) (x0 : Nat) (hx0 : D x0) (x3 : Int32) (x4 : Int32) (M : Mm) (hF : Fr D M0 M) : FJ D M0 (Hall_hears_B49 k49 x0 x3 x4 M) := by
  unfold Hall_hears_B49
  refine FJ_ck ?_
  refine FJ_if ?_ ?_
  · exact FJ_leaf hF
  · refine FJ_bd hT hF (fun gC gT => fj_Hall_minuteHeard gC gT _ hx0 _) (fun r17 M18 hFM18 => ?_)
    refine FJ_if ?_ ?_
    · exact fj_Hall_hears_J81 hT k49 hk49 _ hx0 _ _ _ hFM18
    · refine FJ_ck ?_
      refine FJ_bd hT hFM18 (fun gC gT => fj_Hall_heardAhead gC gT _ hx0 _) (fun r21 M22 hFM22 => ?_)
      refine FJ_if ?_ ?_
      · exact FJ_leaf hFM22
      · exact fj_Hall_hears_J81 hT k49 hk49 _ hx0 _ _ _ hFM22
theorem nj_Hall_hears_B49 {M0 : Mm} (k49 : Nat → Int32 → Int32 → Mm → Option (Int32 × Mm)) (hk49 : ∀ (x0 : Nat) (x3 : Int32) (x4 : Int32) (M : Mm) (hS : Sm M0 M), NJ M0 (k49 x0 x3 x4 M)) (x0 : Nat) (x3 : Int32) (x4 : Int32) (M : Mm) (hS : Sm M0 M) : NJ M0 (Hall_hears_B49 k49 x0 x3 x4 M) := by
  unfold Hall_hears_B49
  refine NJ_ck ?_
  refine NJ_if ?_ ?_
  · exact NJ_leaf hS
  · refine NJ_bd hS (nj_Hall_minuteHeard _ _ _) (fun r17 M18 hSM18 => ?_)
    refine NJ_if ?_ ?_
    · exact nj_Hall_hears_J81 k49 hk49 _ _ _ _ hSM18
    · refine NJ_ck ?_
      refine NJ_bd hSM18 (nj_Hall_heardAhead _ _ _) (fun r21 M22 hSM22 => ?_)
      refine NJ_if ?_ ?_
      · exact NJ_leaf hSM22
      · exact nj_Hall_hears_J81 k49 hk49 _ _ _ _ hSM22
theorem fj_Hall_hears_L49 {D : Nat → Prop} {M0 : Mm} (hT : Tp D M0) : ∀ (n : Nat) (x0 : Nat) (hx0 : D x0) (x3 : Int32) (x4 : Int32) (M : Mm) (hF : Fr D M0 M), FJ D M0 (Hall_hears_L49 n x0 x3 x4 M) := by
  intro n
  induction n with
  | zero => intros; exact FJ_none
  | succ n ih => intro x0 hx0 x3 x4 M hF; exact fj_Hall_hears_B49 hT _ ih x0 hx0 x3 x4 M hF
theorem nj_Hall_hears_L49 {M0 : Mm} : ∀ (n : Nat) (x0 : Nat) (x3 : Int32) (x4 : Int32) (M : Mm) (hS : Sm M0 M), NJ M0 (Hall_hears_L49 n x0 x3 x4 M) := by
  intro n
  induction n with
  | zero => intros; exact NJ_none
  | succ n ih => intro x0 x3 x4 M hS; exact nj_Hall_hears_B49 _ ih x0 x3 x4 M hS
theorem fj_Hall_hears {D : Nat → Prop} {M : Mm} (hC : Cl D M) (hT : Tp D M) (a0 : Nat) (h0 : D a0) (a1 : Int32) (a2 : Int32) (a3 : Int32) : FJ D M (Hall_hears M a0 a1 a2 a3) := by
  unfold Hall_hears
  refine FJ_ck ?_
  refine FJ_nn (Fr.rf hC) h0 (fun b2 hb2 => ?_)
  refine FJ_ck ?_
  refine FJ_bd hT (Fr.rf hC) (fun gC gT => fj_Land_has gC gT _ hb2 _) (fun r4 M5 hFM5 => ?_)
  refine FJ_if ?_ ?_
  · exact FJ_leaf hFM5
  · refine FJ_bd hT hFM5 (fun gC gT => fj_Hall_isWithin gC gT _ _ _) (fun r6 M7 hFM7 => ?_)
    refine FJ_if ?_ ?_
    · exact FJ_leaf hFM7
    · refine FJ_ck ?_
      refine FJ_bd hT hFM7 (fun gC gT => fj_Hall_isWithin gC gT _ _ _) (fun r9 M10 hFM10 => ?_)
      refine FJ_if ?_ ?_
      · exact FJ_leaf hFM10
      · refine FJ_ck ?_
        refine FJ_nn hFM10 h0 (fun b12 hb12 => ?_)
        refine FJ_ck ?_
        refine FJ_bd hT hFM10 (fun gC gT => fj_Land_spread gC gT _ hb12 _ _) (fun _ M15 hFM15 => ?_)
        exact fj_Hall_hears_L49 hT fu _ h0 _ _ _ hFM15
theorem nj_Hall_hears (M : Mm) (a0 : Nat) (a1 : Int32) (a2 : Int32) (a3 : Int32) : NJ M (Hall_hears M a0 a1 a2 a3) := by
  unfold Hall_hears
  refine NJ_ck ?_
  refine NJ_nn (fun b2 => ?_)
  refine NJ_ck ?_
  refine NJ_bd Sm.rf (nj_Land_has _ _ _) (fun r4 M5 hSM5 => ?_)
  refine NJ_if ?_ ?_
  · exact NJ_leaf hSM5
  · refine NJ_bd hSM5 (nj_Hall_isWithin _ _ _ _) (fun r6 M7 hSM7 => ?_)
    refine NJ_if ?_ ?_
    · exact NJ_leaf hSM7
    · refine NJ_ck ?_
      refine NJ_bd hSM7 (nj_Hall_isWithin _ _ _ _) (fun r9 M10 hSM10 => ?_)
      refine NJ_if ?_ ?_
      · exact NJ_leaf hSM10
      · refine NJ_ck ?_
        refine NJ_nn (fun b12 => ?_)
        refine NJ_ck ?_
        refine NJ_bd hSM10 (nj_Land_spread _ _ _ _) (fun _ M15 hSM15 => ?_)
        exact nj_Hall_hears_L49 fu _ _ _ _ hSM15
theorem fj_Hall_store {D : Nat → Prop} {M : Mm} (hC : Cl D M) (hT : Tp D M) (a0 : Nat) (h0 : D a0) : FJ D M (Hall_store M a0) := by
  unfold Hall_store
  refine FJ_ck ?_
  refine FJ_if ?_ ?_
  · refine FJ_nn (Fr.rf hC) h0 (fun b2 hb2 => ?_)
    refine FJ_bd hT (Fr_nw hT (Fr.rf hC)) (fun gC gT => fj_Store_new gC gT _ (hT _ (Fr.z (Fr.rf hC)))) (fun _ M5 hFM5 => ?_)
    refine FJ_ck ?_
    refine FJ_ck ?_
    refine FJ_ck ?_
    exact FJ_leaf (Fr_sI (Fr_sRs hFM5 hb2 (hT _ (Fr.z (Fr.rf hC)))) h0)
  · exact FJ_leaf (Fr.rf hC)
theorem fj_Hall_isStore {D : Nat → Prop} {M : Mm} (hC : Cl D M) (hT : Tp D M) (a0 : Nat) (h0 : D a0) (a1 : Int32) : FJ D M (Hall_isStore M a0 a1) := by
  unfold Hall_isStore
  refine FJ_if ?_ ?_
  · exact FJ_leaf (Fr.rf hC)
  · refine FJ_ck ?_
    refine FJ_if ?_ ?_
    · exact FJ_leaf (Fr.rf hC)
    · exact FJ_leaf (Fr.rf hC)
theorem nj_Hall_isStore (M : Mm) (a0 : Nat) (a1 : Int32) : NJ M (Hall_isStore M a0 a1) := by
  unfold Hall_isStore
  refine NJ_if ?_ ?_
  · exact NJ_leaf Sm.rf
  · refine NJ_ck ?_
    refine NJ_if ?_ ?_
    · exact NJ_leaf Sm.rf
    · exact NJ_leaf Sm.rf
theorem fj_Hall_isPerson {D : Nat → Prop} {M : Mm} (hC : Cl D M) (hT : Tp D M) (a0 : Nat) (h0 : D a0) (a1 : Int32) : FJ D M (Hall_isPerson M a0 a1) := by
  unfold Hall_isPerson
  refine FJ_if ?_ ?_
  · exact FJ_leaf (Fr.rf hC)
  · refine FJ_ck ?_
    refine FJ_if ?_ ?_
    · exact FJ_leaf (Fr.rf hC)
    · exact FJ_leaf (Fr.rf hC)
theorem nj_Hall_isPerson (M : Mm) (a0 : Nat) (a1 : Int32) : NJ M (Hall_isPerson M a0 a1) := by
  unfold Hall_isPerson
  refine NJ_if ?_ ?_
  · exact NJ_leaf Sm.rf
  · refine NJ_ck ?_
    refine NJ_if ?_ ?_
    · exact NJ_leaf Sm.rf
    · exact NJ_leaf Sm.rf
theorem fj_Hall_issue {D : Nat → Prop} {M : Mm} (hC : Cl D M) (hT : Tp D M) (a0 : Nat) (h0 : D a0) (a1 : Int32) (a2 : Int32) (a3 : Int32) (a4 : Int32) : FJ D M (Hall_issue M a0 a1 a2 a3 a4) := by
  unfold Hall_issue
  refine FJ_ck ?_
  refine FJ_bd hT (Fr.rf hC) (fun gC gT => fj_Hall_isStore gC gT _ h0 _) (fun r2 M3 hFM3 => ?_)
  refine FJ_if ?_ ?_
  · exact FJ_leaf hFM3
  · refine FJ_ck ?_
    refine FJ_bd hT hFM3 (fun gC gT => fj_Hall_isPerson gC gT _ h0 _) (fun r5 M6 hFM6 => ?_)
    refine FJ_if ?_ ?_
    · exact FJ_leaf hFM6
    · refine FJ_bd hT hFM6 (fun gC gT => fj_Hall_isWithin gC gT _ _ _) (fun r7 M8 hFM8 => ?_)
      refine FJ_if ?_ ?_
      · exact FJ_leaf hFM8
      · refine FJ_bd hT hFM8 (fun gC gT => fj_Hall_isWithin gC gT _ _ _) (fun r9 M10 hFM10 => ?_)
        refine FJ_if ?_ ?_
        · exact FJ_leaf hFM10
        · refine FJ_ck ?_
          refine FJ_if ?_ ?_
          · refine FJ_nn (Fr_sI hFM10 h0) h0 (fun b13 hb13 => ?_)
            refine FJ_ck ?_
            refine FJ_nn (Fr_sI hFM10 h0) hb13 (fun b15 hb15 => ?_)
            refine FJ_ck ?_
            refine FJ_nn (Fr_sI hFM10 h0) hb15 (fun b17 hb17 => ?_)
            refine FJ_ck ?_
            refine FJ_nn (Fr_sI (Fr_sI hFM10 h0) hb17) h0 (fun b20 hb20 => ?_)
            refine FJ_ck ?_
            refine FJ_nn (Fr_sI (Fr_sI hFM10 h0) hb17) hb20 (fun b22 hb22 => ?_)
            refine FJ_ck ?_
            refine FJ_bd hT (Fr_sI (Fr_sI hFM10 h0) hb17) (fun gC gT => fj_Store_addIssue gC gT _ hb22 _ _) (fun _ M25 hFM25 => ?_)
            refine FJ_ck ?_
            refine FJ_nn hFM25 h0 (fun b27 hb27 => ?_)
            refine FJ_ck ?_
            refine FJ_nn hFM25 hb27 (fun b29 hb29 => ?_)
            refine FJ_ck ?_
            refine FJ_bd hT hFM25 (fun gC gT => fj_Store_out gC gT _ hb29) (fun r31 M32 hFM32 => ?_)
            exact FJ_leaf hFM32
          · exact FJ_leaf hFM10
theorem nj_Hall_issue (M : Mm) (a0 : Nat) (a1 : Int32) (a2 : Int32) (a3 : Int32) (a4 : Int32) : NJ M (Hall_issue M a0 a1 a2 a3 a4) := by
  unfold Hall_issue
  refine NJ_ck ?_
  refine NJ_bd Sm.rf (nj_Hall_isStore _ _ _) (fun r2 M3 hSM3 => ?_)
  refine NJ_if ?_ ?_
  · exact NJ_leaf hSM3
  · refine NJ_ck ?_
    refine NJ_bd hSM3 (nj_Hall_isPerson _ _ _) (fun r5 M6 hSM6 => ?_)
    refine NJ_if ?_ ?_
    · exact NJ_leaf hSM6
    · refine NJ_bd hSM6 (nj_Hall_isWithin _ _ _ _) (fun r7 M8 hSM8 => ?_)
      refine NJ_if ?_ ?_
      · exact NJ_leaf hSM8
      · refine NJ_bd hSM8 (nj_Hall_isWithin _ _ _ _) (fun r9 M10 hSM10 => ?_)
        refine NJ_if ?_ ?_
        · exact NJ_leaf hSM10
        · refine NJ_ck ?_
          refine NJ_if ?_ ?_
          · refine NJ_nn (fun b13 => ?_)
            refine NJ_ck ?_
            refine NJ_nn (fun b15 => ?_)
            refine NJ_ck ?_
            refine NJ_nn (fun b17 => ?_)
            refine NJ_ck ?_
            refine NJ_nn (fun b20 => ?_)
            refine NJ_ck ?_
            refine NJ_nn (fun b22 => ?_)
            refine NJ_ck ?_
            refine NJ_bd (Sm_sI (Sm_sI hSM10)) (nj_Store_addIssue _ _ _ _) (fun _ M25 hSM25 => ?_)
            refine NJ_ck ?_
            refine NJ_nn (fun b27 => ?_)
            refine NJ_ck ?_
            refine NJ_nn (fun b29 => ?_)
            refine NJ_ck ?_
            refine NJ_bd hSM25 (nj_Store_out _ _) (fun r31 M32 hSM32 => ?_)
            exact NJ_leaf hSM32
          · exact NJ_leaf hSM10
theorem fj_Hall_holdsPaper {D : Nat → Prop} {M : Mm} (hC : Cl D M) (hT : Tp D M) (a0 : Nat) (h0 : D a0) (a1 : Int32) (a2 : Int32) (a3 : Int32) : FJ D M (Hall_holdsPaper M a0 a1 a2 a3) := by
  unfold Hall_holdsPaper
  refine FJ_ck ?_
  refine FJ_bd hT (Fr.rf hC) (fun gC gT => fj_Hall_isPerson gC gT _ h0 _) (fun r2 M3 hFM3 => ?_)
  refine FJ_if ?_ ?_
  · exact FJ_leaf hFM3
  · refine FJ_ck ?_
    refine FJ_bd hT hFM3 (fun gC gT => fj_Hall_isStore gC gT _ h0 _) (fun r5 M6 hFM6 => ?_)
    refine FJ_if ?_ ?_
    · exact FJ_leaf hFM6
    · refine FJ_if ?_ ?_
      · exact FJ_leaf hFM6
      · refine FJ_ck ?_
        refine FJ_nn hFM6 h0 (fun b8 hb8 => ?_)
        refine FJ_ck ?_
        refine FJ_nn hFM6 hb8 (fun b10 hb10 => ?_)
        refine FJ_ck ?_
        refine FJ_nn hFM6 hb10 (fun b12 hb12 => ?_)
        refine FJ_ck ?_
        refine FJ_if ?_ ?_
        · exact FJ_leaf hFM6
        · exact FJ_leaf hFM6
theorem nj_Hall_holdsPaper (M : Mm) (a0 : Nat) (a1 : Int32) (a2 : Int32) (a3 : Int32) : NJ M (Hall_holdsPaper M a0 a1 a2 a3) := by
  unfold Hall_holdsPaper
  refine NJ_ck ?_
  refine NJ_bd Sm.rf (nj_Hall_isPerson _ _ _) (fun r2 M3 hSM3 => ?_)
  refine NJ_if ?_ ?_
  · exact NJ_leaf hSM3
  · refine NJ_ck ?_
    refine NJ_bd hSM3 (nj_Hall_isStore _ _ _) (fun r5 M6 hSM6 => ?_)
    refine NJ_if ?_ ?_
    · exact NJ_leaf hSM6
    · refine NJ_if ?_ ?_
      · exact NJ_leaf hSM6
      · refine NJ_ck ?_
        refine NJ_nn (fun b8 => ?_)
        refine NJ_ck ?_
        refine NJ_nn (fun b10 => ?_)
        refine NJ_ck ?_
        refine NJ_nn (fun b12 => ?_)
        refine NJ_ck ?_
        refine NJ_if ?_ ?_
        · exact NJ_leaf hSM6
        · exact NJ_leaf hSM6
theorem fj_Hall_give {D : Nat → Prop} {M : Mm} (hC : Cl D M) (hT : Tp D M) (a0 : Nat) (h0 : D a0) (a1 : Int32) (a2 : Int32) (a3 : Int32) (a4 : Int32) : FJ D M (Hall_give M a0 a1 a2 a3 a4) := by
  unfold Hall_give
  refine FJ_ck ?_
  refine FJ_bd hT (Fr.rf hC) (fun gC gT => fj_Hall_isPerson gC gT _ h0 _) (fun r2 M3 hFM3 => ?_)
  refine FJ_if ?_ ?_
  · exact FJ_leaf hFM3
  · refine FJ_ck ?_
    refine FJ_bd hT hFM3 (fun gC gT => fj_Hall_holdsPaper gC gT _ h0 _ _ _) (fun r5 M6 hFM6 => ?_)
    refine FJ_if ?_ ?_
    · exact FJ_leaf hFM6
    · refine FJ_ck ?_
      refine FJ_nn hFM6 h0 (fun b8 hb8 => ?_)
      refine FJ_ck ?_
      refine FJ_nn hFM6 hb8 (fun b10 hb10 => ?_)
      refine FJ_ck ?_
      refine FJ_nn hFM6 hb10 (fun b12 hb12 => ?_)
      refine FJ_ck ?_
      refine FJ_nn (Fr_sI hFM6 hb12) h0 (fun b15 hb15 => ?_)
      refine FJ_ck ?_
      refine FJ_nn (Fr_sI hFM6 hb12) hb15 (fun b17 hb17 => ?_)
      refine FJ_ck ?_
      refine FJ_nn (Fr_sI hFM6 hb12) hb17 (fun b19 hb19 => ?_)
      refine FJ_ck ?_
      exact FJ_leaf (Fr_sI (Fr_sI hFM6 hb12) hb19)
theorem nj_Hall_give (M : Mm) (a0 : Nat) (a1 : Int32) (a2 : Int32) (a3 : Int32) (a4 : Int32) : NJ M (Hall_give M a0 a1 a2 a3 a4) := by
  unfold Hall_give
  refine NJ_ck ?_
  refine NJ_bd Sm.rf (nj_Hall_isPerson _ _ _) (fun r2 M3 hSM3 => ?_)
  refine NJ_if ?_ ?_
  · exact NJ_leaf hSM3
  · refine NJ_ck ?_
    refine NJ_bd hSM3 (nj_Hall_holdsPaper _ _ _ _ _) (fun r5 M6 hSM6 => ?_)
    refine NJ_if ?_ ?_
    · exact NJ_leaf hSM6
    · refine NJ_ck ?_
      refine NJ_nn (fun b8 => ?_)
      refine NJ_ck ?_
      refine NJ_nn (fun b10 => ?_)
      refine NJ_ck ?_
      refine NJ_nn (fun b12 => ?_)
      refine NJ_ck ?_
      refine NJ_nn (fun b15 => ?_)
      refine NJ_ck ?_
      refine NJ_nn (fun b17 => ?_)
      refine NJ_ck ?_
      refine NJ_nn (fun b19 => ?_)
      refine NJ_ck ?_
      exact NJ_leaf (Sm_sI (Sm_sI hSM6))
theorem fj_Hall_call {D : Nat → Prop} {M : Mm} (hC : Cl D M) (hT : Tp D M) (a0 : Nat) (h0 : D a0) (a1 : Int32) (a2 : Int32) (a3 : Int32) : FJ D M (Hall_call M a0 a1 a2 a3) := by
  unfold Hall_call
  refine FJ_ck ?_
  refine FJ_bd hT (Fr.rf hC) (fun gC gT => fj_Hall_holdsPaper gC gT _ h0 _ _ _) (fun r2 M3 hFM3 => ?_)
  refine FJ_if ?_ ?_
  · exact FJ_leaf hFM3
  · refine FJ_ck ?_
    refine FJ_if ?_ ?_
    · refine FJ_nn (Fr_sI hFM3 h0) h0 (fun b6 hb6 => ?_)
      refine FJ_ck ?_
      refine FJ_nn (Fr_sI hFM3 h0) hb6 (fun b8 hb8 => ?_)
      refine FJ_ck ?_
      refine FJ_nn (Fr_sI hFM3 h0) hb8 (fun b10 hb10 => ?_)
      refine FJ_ck ?_
      refine FJ_nn (Fr_sI (Fr_sI hFM3 h0) hb10) h0 (fun b13 hb13 => ?_)
      refine FJ_ck ?_
      refine FJ_nn (Fr_sI (Fr_sI hFM3 h0) hb10) hb13 (fun b15 hb15 => ?_)
      refine FJ_ck ?_
      refine FJ_bd hT (Fr_sI (Fr_sI hFM3 h0) hb10) (fun gC gT => fj_Store_addWait gC gT _ hb15 _ _ _) (fun _ M18 hFM18 => ?_)
      refine FJ_ck ?_
      refine FJ_nn hFM18 h0 (fun b20 hb20 => ?_)
      refine FJ_ck ?_
      refine FJ_nn hFM18 hb20 (fun b22 hb22 => ?_)
      refine FJ_nn hFM18 h0 (fun b23 hb23 => ?_)
      refine FJ_ck ?_
      refine FJ_bd hT hFM18 (fun gC gT => fj_Store_serve gC gT _ hb22 _ hb23) (fun r25 M26 hFM26 => ?_)
      exact FJ_leaf hFM26
    · exact FJ_leaf hFM3
theorem nj_Hall_call (M : Mm) (a0 : Nat) (a1 : Int32) (a2 : Int32) (a3 : Int32) : NJ M (Hall_call M a0 a1 a2 a3) := by
  unfold Hall_call
  refine NJ_ck ?_
  refine NJ_bd Sm.rf (nj_Hall_holdsPaper _ _ _ _ _) (fun r2 M3 hSM3 => ?_)
  refine NJ_if ?_ ?_
  · exact NJ_leaf hSM3
  · refine NJ_ck ?_
    refine NJ_if ?_ ?_
    · refine NJ_nn (fun b6 => ?_)
      refine NJ_ck ?_
      refine NJ_nn (fun b8 => ?_)
      refine NJ_ck ?_
      refine NJ_nn (fun b10 => ?_)
      refine NJ_ck ?_
      refine NJ_nn (fun b13 => ?_)
      refine NJ_ck ?_
      refine NJ_nn (fun b15 => ?_)
      refine NJ_ck ?_
      refine NJ_bd (Sm_sI (Sm_sI hSM3)) (nj_Store_addWait _ _ _ _ _) (fun _ M18 hSM18 => ?_)
      refine NJ_ck ?_
      refine NJ_nn (fun b20 => ?_)
      refine NJ_ck ?_
      refine NJ_nn (fun b22 => ?_)
      refine NJ_nn (fun b23 => ?_)
      refine NJ_ck ?_
      refine NJ_bd hSM18 (nj_Store_serve _ _ _) (fun r25 M26 hSM26 => ?_)
      exact NJ_leaf hSM26
    · exact NJ_leaf hSM3
theorem fj_Hall_come {D : Nat → Prop} {M : Mm} (hC : Cl D M) (hT : Tp D M) (a0 : Nat) (h0 : D a0) (a1 : Int32) (a2 : Int32) : FJ D M (Hall_come M a0 a1 a2) := by
  unfold Hall_come
  refine FJ_ck ?_
  refine FJ_bd hT (Fr.rf hC) (fun gC gT => fj_Hall_isStore gC gT _ h0 _) (fun r2 M3 hFM3 => ?_)
  refine FJ_if ?_ ?_
  · exact FJ_leaf hFM3
  · refine FJ_bd hT hFM3 (fun gC gT => fj_Hall_isWithin gC gT _ _ _) (fun r4 M5 hFM5 => ?_)
    refine FJ_if ?_ ?_
    · exact FJ_leaf hFM5
    · refine FJ_ck ?_
      refine FJ_nn hFM5 h0 (fun b7 hb7 => ?_)
      refine FJ_ck ?_
      refine FJ_nn hFM5 hb7 (fun b9 hb9 => ?_)
      refine FJ_ck ?_
      refine FJ_if ?_ ?_
      · refine FJ_nn hFM5 h0 (fun b11 hb11 => ?_)
        refine FJ_ck ?_
        refine FJ_nn hFM5 hb11 (fun b13 hb13 => ?_)
        refine FJ_ck ?_
        refine FJ_nn (Fr_sI hFM5 hb13) h0 (fun b16 hb16 => ?_)
        refine FJ_ck ?_
        refine FJ_nn (Fr_sI hFM5 hb13) hb16 (fun b18 hb18 => ?_)
        refine FJ_nn (Fr_sI hFM5 hb13) h0 (fun b19 hb19 => ?_)
        refine FJ_ck ?_
        refine FJ_bd hT (Fr_sI hFM5 hb13) (fun gC gT => fj_Store_serve gC gT _ hb18 _ hb19) (fun r21 M22 hFM22 => ?_)
        exact FJ_leaf hFM22
      · exact FJ_leaf hFM5
theorem nj_Hall_come (M : Mm) (a0 : Nat) (a1 : Int32) (a2 : Int32) : NJ M (Hall_come M a0 a1 a2) := by
  unfold Hall_come
  refine NJ_ck ?_
  refine NJ_bd Sm.rf (nj_Hall_isStore _ _ _) (fun r2 M3 hSM3 => ?_)
  refine NJ_if ?_ ?_
  · exact NJ_leaf hSM3
  · refine NJ_bd hSM3 (nj_Hall_isWithin _ _ _ _) (fun r4 M5 hSM5 => ?_)
    refine NJ_if ?_ ?_
    · exact NJ_leaf hSM5
    · refine NJ_ck ?_
      refine NJ_nn (fun b7 => ?_)
      refine NJ_ck ?_
      refine NJ_nn (fun b9 => ?_)
      refine NJ_ck ?_
      refine NJ_if ?_ ?_
      · refine NJ_nn (fun b11 => ?_)
        refine NJ_ck ?_
        refine NJ_nn (fun b13 => ?_)
        refine NJ_ck ?_
        refine NJ_nn (fun b16 => ?_)
        refine NJ_ck ?_
        refine NJ_nn (fun b18 => ?_)
        refine NJ_nn (fun b19 => ?_)
        refine NJ_ck ?_
        refine NJ_bd (Sm_sI hSM5) (nj_Store_serve _ _ _) (fun r21 M22 hSM22 => ?_)
        exact NJ_leaf hSM22
      · exact NJ_leaf hSM5
theorem fj_Hall_lookAround_B6 {D : Nat → Prop} {M0 : Mm} (hT : Tp D M0) (k6 : Nat → Int32 → Int32 → Int32 → Mm → Option (Unit × Mm)) (hk6 : ∀ (x0 : Nat) (hx0 : D x0) (x1 : Int32) (x2 : Int32) (x3 : Int32) (M : Mm) (hF : Fr D M0 M), FJ D M0 (k6 x0 x1 x2 x3 M)) (x0 : Nat) (hx0 : D x0) (x1 : Int32) (x2 : Int32) (x3 : Int32) (M : Mm) (hF : Fr D M0 M) : FJ D M0 (Hall_lookAround_B6 k6 x0 x1 x2 x3 M) := by
  unfold Hall_lookAround_B6
  refine FJ_ck ?_
  refine FJ_if ?_ ?_
  · refine FJ_nn hF hx0 (fun b2 hb2 => ?_)
    refine FJ_ck ?_
    refine FJ_bd hT hF (fun gC gT => fj_Law_lookAtClock gC gT _ hb2 _ _) (fun _ M5 hFM5 => ?_)
    refine FJ_ck ?_
    refine FJ_nn hFM5 hx0 (fun b7 hb7 => ?_)
    refine FJ_nn hFM5 hx0 (fun b8 hb8 => ?_)
    refine FJ_ck ?_
    refine FJ_bd hT hFM5 (fun gC gT => fj_House_latestClose gC gT _ hb8) (fun r10 M11 hFM11 => ?_)
    refine FJ_ck ?_
    refine FJ_nn hFM11 hx0 (fun b13 hb13 => ?_)
    refine FJ_ck ?_
    refine FJ_ck ?_
    refine FJ_bd hT hFM11 (fun gC gT => fj_Law_lookAtMarket gC gT _ hb7 _ _ _ _) (fun _ M17 hFM17 => ?_)
    exact FJ_leaf hFM17
  · refine FJ_nn hF hx0 (fun b18 hb18 => ?_)
    refine FJ_ck ?_
    refine FJ_nn hF hb18 (fun b20 hb20 => ?_)
    refine FJ_ck ?_
    refine FJ_nn hF hx0 (fun b23 hb23 => ?_)
    refine FJ_ck ?_
    refine FJ_nn hF hb23 (fun b25 hb25 => ?_)
    refine FJ_ck ?_
    refine FJ_bd hT hF (fun gC gT => fj_Store_out gC gT _ hb25) (fun r27 M28 hFM28 => ?_)
    exact hk6 _ hx0 _ _ _ _ hFM28
theorem nj_Hall_lookAround_B6 {M0 : Mm} (k6 : Nat → Int32 → Int32 → Int32 → Mm → Option (Unit × Mm)) (hk6 : ∀ (x0 : Nat) (x1 : Int32) (x2 : Int32) (x3 : Int32) (M : Mm) (hS : Sm M0 M), NJ M0 (k6 x0 x1 x2 x3 M)) (x0 : Nat) (x1 : Int32) (x2 : Int32) (x3 : Int32) (M : Mm) (hS : Sm M0 M) : NJ M0 (Hall_lookAround_B6 k6 x0 x1 x2 x3 M) := by
  unfold Hall_lookAround_B6
  refine NJ_ck ?_
  refine NJ_if ?_ ?_
  · refine NJ_nn (fun b2 => ?_)
    refine NJ_ck ?_
    refine NJ_bd hS (nj_Law_lookAtClock _ _ _ _) (fun _ M5 hSM5 => ?_)
    refine NJ_ck ?_
    refine NJ_nn (fun b7 => ?_)
    refine NJ_nn (fun b8 => ?_)
    refine NJ_ck ?_
    refine NJ_bd hSM5 (nj_House_latestClose _ _) (fun r10 M11 hSM11 => ?_)
    refine NJ_ck ?_
    refine NJ_nn (fun b13 => ?_)
    refine NJ_ck ?_
    refine NJ_ck ?_
    refine NJ_bd hSM11 (nj_Law_lookAtMarket _ _ _ _ _ _) (fun _ M17 hSM17 => ?_)
    exact NJ_leaf hSM17
  · refine NJ_nn (fun b18 => ?_)
    refine NJ_ck ?_
    refine NJ_nn (fun b20 => ?_)
    refine NJ_ck ?_
    refine NJ_nn (fun b23 => ?_)
    refine NJ_ck ?_
    refine NJ_nn (fun b25 => ?_)
    refine NJ_ck ?_
    refine NJ_bd hS (nj_Store_out _ _) (fun r27 M28 hSM28 => ?_)
    exact hk6 _ _ _ _ _ hSM28
theorem fj_Hall_lookAround_L6 {D : Nat → Prop} {M0 : Mm} (hT : Tp D M0) : ∀ (n : Nat) (x0 : Nat) (hx0 : D x0) (x1 : Int32) (x2 : Int32) (x3 : Int32) (M : Mm) (hF : Fr D M0 M), FJ D M0 (Hall_lookAround_L6 n x0 x1 x2 x3 M) := by
  intro n
  induction n with
  | zero => intros; exact FJ_none
  | succ n ih => intro x0 hx0 x1 x2 x3 M hF; exact fj_Hall_lookAround_B6 hT _ ih x0 hx0 x1 x2 x3 M hF
theorem nj_Hall_lookAround_L6 {M0 : Mm} : ∀ (n : Nat) (x0 : Nat) (x1 : Int32) (x2 : Int32) (x3 : Int32) (M : Mm) (hS : Sm M0 M), NJ M0 (Hall_lookAround_L6 n x0 x1 x2 x3 M) := by
  intro n
  induction n with
  | zero => intros; exact NJ_none
  | succ n ih => intro x0 x1 x2 x3 M hS; exact nj_Hall_lookAround_B6 _ ih x0 x1 x2 x3 M hS
theorem fj_Hall_lookAround {D : Nat → Prop} {M : Mm} (hC : Cl D M) (hT : Tp D M) (a0 : Nat) (h0 : D a0) : FJ D M (Hall_lookAround M a0) := by
  unfold Hall_lookAround
  exact fj_Hall_lookAround_L6 hT fu _ h0 _ _ _ _ (Fr.rf hC)
theorem nj_Hall_lookAround (M : Mm) (a0 : Nat) : NJ M (Hall_lookAround M a0) := by
  unfold Hall_lookAround
  exact nj_Hall_lookAround_L6 fu _ _ _ _ _ Sm.rf
theorem fj_Hall_askLaw {D : Nat → Prop} {M : Mm} (hC : Cl D M) (hT : Tp D M) (a0 : Nat) (h0 : D a0) (a1 : Int32) : FJ D M (Hall_askLaw M a0 a1) := by
  unfold Hall_askLaw
  refine FJ_ck ?_
  refine FJ_bd hT (Fr.rf hC) (fun gC gT => fj_Hall_lookAround gC gT _ h0) (fun _ M3 hFM3 => ?_)
  refine FJ_ck ?_
  refine FJ_nn hFM3 h0 (fun b5 hb5 => ?_)
  refine FJ_ck ?_
  refine FJ_bd hT hFM3 (fun gC gT => fj_Law_ask gC gT _ hb5 _ _) (fun r7 M8 hFM8 => ?_)
  exact FJ_leaf hFM8
theorem nj_Hall_askLaw (M : Mm) (a0 : Nat) (a1 : Int32) : NJ M (Hall_askLaw M a0 a1) := by
  unfold Hall_askLaw
  refine NJ_ck ?_
  refine NJ_bd Sm.rf (nj_Hall_lookAround _ _) (fun _ M3 hSM3 => ?_)
  refine NJ_ck ?_
  refine NJ_nn (fun b5 => ?_)
  refine NJ_ck ?_
  refine NJ_bd hSM3 (nj_Law_ask _ _ _ _) (fun r7 M8 hSM8 => ?_)
  exact NJ_leaf hSM8
theorem fj_Hall_spoilPaper_B2 {D : Nat → Prop} {M0 : Mm} (hT : Tp D M0) (k2 : Nat → Int32 → Int32 → Int32 → Mm → Option (Unit × Mm)) (hk2 : ∀ (x0 : Nat) (hx0 : D x0) (x1 : Int32) (x2 : Int32) (x3 : Int32) (M : Mm) (hF : Fr D M0 M), FJ D M0 (k2 x0 x1 x2 x3 M)) (x0 : Nat) (hx0 : D x0) (x1 : Int32) (x2 : Int32) (x3 : Int32) (M : Mm) (hF : Fr D M0 M) : FJ D M0 (Hall_spoilPaper_B2 k2 x0 x1 x2 x3 M) := by
  unfold Hall_spoilPaper_B2
  refine FJ_ck ?_
  refine FJ_if ?_ ?_
  · exact FJ_leaf hF
  · refine FJ_nn hF hx0 (fun b2 hb2 => ?_)
    refine FJ_ck ?_
    refine FJ_nn hF hb2 (fun b4 hb4 => ?_)
    refine FJ_ck ?_
    refine FJ_nn hF hb4 (fun b6 hb6 => ?_)
    refine FJ_ck ?_
    refine FJ_nn hF hx0 (fun b9 hb9 => ?_)
    refine FJ_ck ?_
    refine FJ_nn hF hb9 (fun b11 hb11 => ?_)
    refine FJ_ck ?_
    refine FJ_nn hF hb11 (fun b13 hb13 => ?_)
    refine FJ_ck ?_
    refine FJ_nn (Fr_sI hF hb13) hx0 (fun b16 hb16 => ?_)
    refine FJ_ck ?_
    refine FJ_nn (Fr_sI hF hb13) hb16 (fun b18 hb18 => ?_)
    refine FJ_ck ?_
    refine FJ_nn (Fr_sI (Fr_sI hF hb13) hb18) hx0 (fun b21 hb21 => ?_)
    refine FJ_ck ?_
    refine FJ_nn (Fr_sI (Fr_sI hF hb13) hb18) hb21 (fun b23 hb23 => ?_)
    refine FJ_ck ?_
    exact hk2 _ hx0 _ _ _ _ (Fr_sI (Fr_sI (Fr_sI hF hb13) hb18) hb23)
theorem nj_Hall_spoilPaper_B2 {M0 : Mm} (k2 : Nat → Int32 → Int32 → Int32 → Mm → Option (Unit × Mm)) (hk2 : ∀ (x0 : Nat) (x1 : Int32) (x2 : Int32) (x3 : Int32) (M : Mm) (hS : Sm M0 M), NJ M0 (k2 x0 x1 x2 x3 M)) (x0 : Nat) (x1 : Int32) (x2 : Int32) (x3 : Int32) (M : Mm) (hS : Sm M0 M) : NJ M0 (Hall_spoilPaper_B2 k2 x0 x1 x2 x3 M) := by
  unfold Hall_spoilPaper_B2
  refine NJ_ck ?_
  refine NJ_if ?_ ?_
  · exact NJ_leaf hS
  · refine NJ_nn (fun b2 => ?_)
    refine NJ_ck ?_
    refine NJ_nn (fun b4 => ?_)
    refine NJ_ck ?_
    refine NJ_nn (fun b6 => ?_)
    refine NJ_ck ?_
    refine NJ_nn (fun b9 => ?_)
    refine NJ_ck ?_
    refine NJ_nn (fun b11 => ?_)
    refine NJ_ck ?_
    refine NJ_nn (fun b13 => ?_)
    refine NJ_ck ?_
    refine NJ_nn (fun b16 => ?_)
    refine NJ_ck ?_
    refine NJ_nn (fun b18 => ?_)
    refine NJ_ck ?_
    refine NJ_nn (fun b21 => ?_)
    refine NJ_ck ?_
    refine NJ_nn (fun b23 => ?_)
    refine NJ_ck ?_
    exact hk2 _ _ _ _ _ (Sm_sI (Sm_sI (Sm_sI hS)))
theorem fj_Hall_spoilPaper_L2 {D : Nat → Prop} {M0 : Mm} (hT : Tp D M0) : ∀ (n : Nat) (x0 : Nat) (hx0 : D x0) (x1 : Int32) (x2 : Int32) (x3 : Int32) (M : Mm) (hF : Fr D M0 M), FJ D M0 (Hall_spoilPaper_L2 n x0 x1 x2 x3 M) := by
  intro n
  induction n with
  | zero => intros; exact FJ_none
  | succ n ih => intro x0 hx0 x1 x2 x3 M hF; exact fj_Hall_spoilPaper_B2 hT _ ih x0 hx0 x1 x2 x3 M hF
theorem nj_Hall_spoilPaper_L2 {M0 : Mm} : ∀ (n : Nat) (x0 : Nat) (x1 : Int32) (x2 : Int32) (x3 : Int32) (M : Mm) (hS : Sm M0 M), NJ M0 (Hall_spoilPaper_L2 n x0 x1 x2 x3 M) := by
  intro n
  induction n with
  | zero => intros; exact NJ_none
  | succ n ih => intro x0 x1 x2 x3 M hS; exact nj_Hall_spoilPaper_B2 _ ih x0 x1 x2 x3 M hS
theorem fj_Hall_spoilPaper {D : Nat → Prop} {M : Mm} (hC : Cl D M) (hT : Tp D M) (a0 : Nat) (h0 : D a0) (a1 : Int32) (a2 : Int32) : FJ D M (Hall_spoilPaper M a0 a1 a2) := by
  unfold Hall_spoilPaper
  exact fj_Hall_spoilPaper_L2 hT fu _ h0 _ _ _ _ (Fr.rf hC)
theorem nj_Hall_spoilPaper (M : Mm) (a0 : Nat) (a1 : Int32) (a2 : Int32) : NJ M (Hall_spoilPaper M a0 a1 a2) := by
  unfold Hall_spoilPaper
  exact nj_Hall_spoilPaper_L2 fu _ _ _ _ _ Sm.rf
theorem fj_Hall_spoil_J35 {D : Nat → Prop} {M0 : Mm} (hT : Tp D M0) (x0 : Nat) (hx0 : D x0) (x1 : Int32) (x2 : Int32) (s0 : Int32) (M : Mm) (hF : Fr D M0 M) : FJ D M0 (Hall_spoil_J35 x0 x1 x2 s0 M) := by
  unfold Hall_spoil_J35
  refine FJ_ck ?_
  refine FJ_nn hF hx0 (fun b10 hb10 => ?_)
  refine FJ_ck ?_
  refine FJ_nn hF hb10 (fun b12 hb12 => ?_)
  refine FJ_ck ?_
  refine FJ_bd hT hF (fun gC gT => fj_Store_spoilRice gC gT _ hb12 _) (fun r14 M15 hFM15 => ?_)
  refine FJ_if ?_ ?_
  · exact FJ_leaf hFM15
  · refine FJ_ck ?_
    refine FJ_bd hT hFM15 (fun gC gT => fj_Hall_spoilPaper gC gT _ hx0 _ _) (fun _ M18 hFM18 => ?_)
    exact FJ_leaf hFM18
theorem nj_Hall_spoil_J35 {M0 : Mm} (x0 : Nat) (x1 : Int32) (x2 : Int32) (s0 : Int32) (M : Mm) (hS : Sm M0 M) : NJ M0 (Hall_spoil_J35 x0 x1 x2 s0 M) := by
  unfold Hall_spoil_J35
  refine NJ_ck ?_
  refine NJ_nn (fun b10 => ?_)
  refine NJ_ck ?_
  refine NJ_nn (fun b12 => ?_)
  refine NJ_ck ?_
  refine NJ_bd hS (nj_Store_spoilRice _ _ _) (fun r14 M15 hSM15 => ?_)
  refine NJ_if ?_ ?_
  · exact NJ_leaf hSM15
  · refine NJ_ck ?_
    refine NJ_bd hSM15 (nj_Hall_spoilPaper _ _ _ _) (fun _ M18 hSM18 => ?_)
    exact NJ_leaf hSM18
theorem fj_Hall_spoil {D : Nat → Prop} {M : Mm} (hC : Cl D M) (hT : Tp D M) (a0 : Nat) (h0 : D a0) (a1 : Int32) (a2 : Int32) : FJ D M (Hall_spoil M a0 a1 a2) := by
  unfold Hall_spoil
  refine FJ_ck ?_
  refine FJ_bd hT (Fr.rf hC) (fun gC gT => fj_Hall_isStore gC gT _ h0 _) (fun r2 M3 hFM3 => ?_)
  refine FJ_if ?_ ?_
  · exact FJ_leaf hFM3
  · refine FJ_bd hT hFM3 (fun gC gT => fj_Hall_isWithin gC gT _ _ _) (fun r4 M5 hFM5 => ?_)
    refine FJ_if ?_ ?_
    · exact FJ_leaf hFM5
    · refine FJ_ck ?_
      refine FJ_bd hT hFM5 (fun gC gT => fj_Hall_askLaw gC gT _ h0 _) (fun r7 M8 hFM8 => ?_)
      refine FJ_if ?_ ?_
      · exact fj_Hall_spoil_J35 hT _ h0 _ _ _ _ hFM8
      · exact fj_Hall_spoil_J35 hT _ h0 _ _ _ _ hFM8
theorem nj_Hall_spoil (M : Mm) (a0 : Nat) (a1 : Int32) (a2 : Int32) : NJ M (Hall_spoil M a0 a1 a2) := by
  unfold Hall_spoil
  refine NJ_ck ?_
  refine NJ_bd Sm.rf (nj_Hall_isStore _ _ _) (fun r2 M3 hSM3 => ?_)
  refine NJ_if ?_ ?_
  · exact NJ_leaf hSM3
  · refine NJ_bd hSM3 (nj_Hall_isWithin _ _ _ _) (fun r4 M5 hSM5 => ?_)
    refine NJ_if ?_ ?_
    · exact NJ_leaf hSM5
    · refine NJ_ck ?_
      refine NJ_bd hSM5 (nj_Hall_askLaw _ _ _) (fun r7 M8 hSM8 => ?_)
      refine NJ_if ?_ ?_
      · exact nj_Hall_spoil_J35 _ _ _ _ _ hSM8
      · exact nj_Hall_spoil_J35 _ _ _ _ _ hSM8
theorem fj_Hall_over {D : Nat → Prop} {M : Mm} (hC : Cl D M) (hT : Tp D M) (a0 : Nat) (h0 : D a0) (a1 : Int32) (a2 : Int32) : FJ D M (Hall_over M a0 a1 a2) := by
  unfold Hall_over
  refine FJ_ck ?_
  refine FJ_bd hT (Fr.rf hC) (fun gC gT => fj_Hall_isStore gC gT _ h0 _) (fun r2 M3 hFM3 => ?_)
  refine FJ_if ?_ ?_
  · exact FJ_leaf hFM3
  · refine FJ_ck ?_
    refine FJ_bd hT hFM3 (fun gC gT => fj_Hall_isWithin gC gT _ _ _) (fun r5 M6 hFM6 => ?_)
    refine FJ_if ?_ ?_
    · exact FJ_leaf hFM6
    · refine FJ_ck ?_
      refine FJ_nn hFM6 h0 (fun b8 hb8 => ?_)
      refine FJ_ck ?_
      refine FJ_nn hFM6 hb8 (fun b10 hb10 => ?_)
      refine FJ_ck ?_
      refine FJ_bd hT hFM6 (fun gC gT => fj_Store_overAsKnown gC gT _ hb10 _) (fun r12 M13 hFM13 => ?_)
      exact FJ_leaf hFM13
theorem nj_Hall_over (M : Mm) (a0 : Nat) (a1 : Int32) (a2 : Int32) : NJ M (Hall_over M a0 a1 a2) := by
  unfold Hall_over
  refine NJ_ck ?_
  refine NJ_bd Sm.rf (nj_Hall_isStore _ _ _) (fun r2 M3 hSM3 => ?_)
  refine NJ_if ?_ ?_
  · exact NJ_leaf hSM3
  · refine NJ_ck ?_
    refine NJ_bd hSM3 (nj_Hall_isWithin _ _ _ _) (fun r5 M6 hSM6 => ?_)
    refine NJ_if ?_ ?_
    · exact NJ_leaf hSM6
    · refine NJ_ck ?_
      refine NJ_nn (fun b8 => ?_)
      refine NJ_ck ?_
      refine NJ_nn (fun b10 => ?_)
      refine NJ_ck ?_
      refine NJ_bd hSM6 (nj_Store_overAsKnown _ _ _) (fun r12 M13 hSM13 => ?_)
      exact NJ_leaf hSM13
theorem fj_Hall_storeOf {D : Nat → Prop} {M : Mm} (hC : Cl D M) (hT : Tp D M) (a0 : Nat) (h0 : D a0) (a1 : Int32) (a2 : Int32) : FJ D M (Hall_storeOf M a0 a1 a2) := by
  unfold Hall_storeOf
  refine FJ_ck ?_
  refine FJ_bd hT (Fr.rf hC) (fun gC gT => fj_Hall_isStore gC gT _ h0 _) (fun r2 M3 hFM3 => ?_)
  refine FJ_if ?_ ?_
  · exact FJ_leaf hFM3
  · refine FJ_ck ?_
    refine FJ_nn hFM3 h0 (fun b5 hb5 => ?_)
    refine FJ_ck ?_
    refine FJ_nn hFM3 hb5 (fun b7 hb7 => ?_)
    refine FJ_if ?_ ?_
    · refine FJ_ck ?_
      exact FJ_leaf hFM3
    · refine FJ_if ?_ ?_
      · refine FJ_ck ?_
        refine FJ_bd hT hFM3 (fun gC gT => fj_Store_out gC gT _ hb7) (fun r10 M11 hFM11 => ?_)
        exact FJ_leaf hFM11
      · refine FJ_if ?_ ?_
        · refine FJ_ck ?_
          exact FJ_leaf hFM3
        · refine FJ_if ?_ ?_
          · refine FJ_ck ?_
            exact FJ_leaf hFM3
          · refine FJ_if ?_ ?_
            · refine FJ_ck ?_
              exact FJ_leaf hFM3
            · refine FJ_if ?_ ?_
              · refine FJ_ck ?_
                refine FJ_bd hT hFM3 (fun gC gT => fj_Store_cannot gC gT _ hb7 _) (fun r16 M17 hFM17 => ?_)
                refine FJ_if ?_ ?_
                · exact FJ_leaf hFM17
                · exact FJ_leaf hFM17
              · refine FJ_if ?_ ?_
                · refine FJ_ck ?_
                  refine FJ_bd hT hFM3 (fun gC gT => fj_Store_firstWaiter gC gT _ hb7) (fun r19 M20 hFM20 => ?_)
                  exact FJ_leaf hFM20
                · refine FJ_if ?_ ?_
                  · refine FJ_ck ?_
                    refine FJ_bd hT hFM3 (fun gC gT => fj_Store_share gC gT _ hb7) (fun r22 M23 hFM23 => ?_)
                    exact FJ_leaf hFM23
                  · exact FJ_leaf hFM3
theorem nj_Hall_storeOf (M : Mm) (a0 : Nat) (a1 : Int32) (a2 : Int32) : NJ M (Hall_storeOf M a0 a1 a2) := by
  unfold Hall_storeOf
  refine NJ_ck ?_
  refine NJ_bd Sm.rf (nj_Hall_isStore _ _ _) (fun r2 M3 hSM3 => ?_)
  refine NJ_if ?_ ?_
  · exact NJ_leaf hSM3
  · refine NJ_ck ?_
    refine NJ_nn (fun b5 => ?_)
    refine NJ_ck ?_
    refine NJ_nn (fun b7 => ?_)
    refine NJ_if ?_ ?_
    · refine NJ_ck ?_
      exact NJ_leaf hSM3
    · refine NJ_if ?_ ?_
      · refine NJ_ck ?_
        refine NJ_bd hSM3 (nj_Store_out _ _) (fun r10 M11 hSM11 => ?_)
        exact NJ_leaf hSM11
      · refine NJ_if ?_ ?_
        · refine NJ_ck ?_
          exact NJ_leaf hSM3
        · refine NJ_if ?_ ?_
          · refine NJ_ck ?_
            exact NJ_leaf hSM3
          · refine NJ_if ?_ ?_
            · refine NJ_ck ?_
              exact NJ_leaf hSM3
            · refine NJ_if ?_ ?_
              · refine NJ_ck ?_
                refine NJ_bd hSM3 (nj_Store_cannot _ _ _) (fun r16 M17 hSM17 => ?_)
                refine NJ_if ?_ ?_
                · exact NJ_leaf hSM17
                · exact NJ_leaf hSM17
              · refine NJ_if ?_ ?_
                · refine NJ_ck ?_
                  refine NJ_bd hSM3 (nj_Store_firstWaiter _ _) (fun r19 M20 hSM20 => ?_)
                  exact NJ_leaf hSM20
                · refine NJ_if ?_ ?_
                  · refine NJ_ck ?_
                    refine NJ_bd hSM3 (nj_Store_share _ _) (fun r22 M23 hSM23 => ?_)
                    exact NJ_leaf hSM23
                  · exact NJ_leaf hSM3
theorem fj_Hall_told {D : Nat → Prop} {M : Mm} (hC : Cl D M) (hT : Tp D M) (a0 : Nat) (h0 : D a0) (a1 : Int32) (a2 : Int32) : FJ D M (Hall_told M a0 a1 a2) := by
  unfold Hall_told
  refine FJ_ck ?_
  refine FJ_bd hT (Fr.rf hC) (fun gC gT => fj_Hall_isPerson gC gT _ h0 _) (fun r2 M3 hFM3 => ?_)
  refine FJ_if ?_ ?_
  · exact FJ_leaf hFM3
  · refine FJ_ck ?_
    refine FJ_nn hFM3 h0 (fun b5 hb5 => ?_)
    refine FJ_ck ?_
    refine FJ_nn hFM3 hb5 (fun b7 hb7 => ?_)
    refine FJ_if ?_ ?_
    · refine FJ_ck ?_
      exact FJ_leaf hFM3
    · refine FJ_if ?_ ?_
      · refine FJ_ck ?_
        exact FJ_leaf hFM3
      · refine FJ_if ?_ ?_
        · refine FJ_ck ?_
          exact FJ_leaf hFM3
        · refine FJ_if ?_ ?_
          · refine FJ_ck ?_
            exact FJ_leaf hFM3
          · refine FJ_if ?_ ?_
            · refine FJ_ck ?_
              exact FJ_leaf hFM3
            · refine FJ_if ?_ ?_
              · refine FJ_ck ?_
                exact FJ_leaf hFM3
              · refine FJ_if ?_ ?_
                · refine FJ_bd hT hFM3 (fun gC gT => fj_Hall_askLaw gC gT _ h0 _) (fun r14 M15 hFM15 => ?_)
                  refine FJ_ck ?_
                  refine FJ_bd hT hFM15 (fun gC gT => fj_Person_need gC gT _ hb7 _) (fun r17 M18 hFM18 => ?_)
                  refine FJ_bd hT hFM18 (fun gC gT => fj_Math_min_L gC gT _ _) (fun r19 M20 hFM20 => ?_)
                  exact FJ_leaf hFM20
                · refine FJ_bd hT hFM3 (fun gC gT => fj_Hall_isWithin gC gT _ _ _) (fun r21 M22 hFM22 => ?_)
                  refine FJ_if ?_ ?_
                  · exact FJ_leaf hFM22
                  · refine FJ_ck ?_
                    refine FJ_nn hFM22 hb7 (fun b24 hb24 => ?_)
                    refine FJ_ck ?_
                    exact FJ_leaf hFM22
theorem nj_Hall_told (M : Mm) (a0 : Nat) (a1 : Int32) (a2 : Int32) : NJ M (Hall_told M a0 a1 a2) := by
  unfold Hall_told
  refine NJ_ck ?_
  refine NJ_bd Sm.rf (nj_Hall_isPerson _ _ _) (fun r2 M3 hSM3 => ?_)
  refine NJ_if ?_ ?_
  · exact NJ_leaf hSM3
  · refine NJ_ck ?_
    refine NJ_nn (fun b5 => ?_)
    refine NJ_ck ?_
    refine NJ_nn (fun b7 => ?_)
    refine NJ_if ?_ ?_
    · refine NJ_ck ?_
      exact NJ_leaf hSM3
    · refine NJ_if ?_ ?_
      · refine NJ_ck ?_
        exact NJ_leaf hSM3
      · refine NJ_if ?_ ?_
        · refine NJ_ck ?_
          exact NJ_leaf hSM3
        · refine NJ_if ?_ ?_
          · refine NJ_ck ?_
            exact NJ_leaf hSM3
          · refine NJ_if ?_ ?_
            · refine NJ_ck ?_
              exact NJ_leaf hSM3
            · refine NJ_if ?_ ?_
              · refine NJ_ck ?_
                exact NJ_leaf hSM3
              · refine NJ_if ?_ ?_
                · refine NJ_bd hSM3 (nj_Hall_askLaw _ _ _) (fun r14 M15 hSM15 => ?_)
                  refine NJ_ck ?_
                  refine NJ_bd hSM15 (nj_Person_need _ _ _) (fun r17 M18 hSM18 => ?_)
                  refine NJ_bd hSM18 (nj_Math_min_L _ _ _) (fun r19 M20 hSM20 => ?_)
                  exact NJ_leaf hSM20
                · refine NJ_bd hSM3 (nj_Hall_isWithin _ _ _ _) (fun r21 M22 hSM22 => ?_)
                  refine NJ_if ?_ ?_
                  · exact NJ_leaf hSM22
                  · refine NJ_ck ?_
                    refine NJ_nn (fun b24 => ?_)
                    refine NJ_ck ?_
                    exact NJ_leaf hSM22
theorem fj_Hall_coins {D : Nat → Prop} {M : Mm} (hC : Cl D M) (hT : Tp D M) (a0 : Nat) (h0 : D a0) (a1 : Int32) : FJ D M (Hall_coins M a0 a1) := by
  unfold Hall_coins
  refine FJ_if ?_ ?_
  · refine FJ_ck ?_
    refine FJ_nn (Fr.rf hC) h0 (fun b10 hb10 => ?_)
    refine FJ_ck ?_
    exact FJ_leaf (Fr.rf hC)
  · refine FJ_ck ?_
    refine FJ_bd hT (Fr.rf hC) (fun gC gT => fj_Hall_isPerson gC gT _ h0 _) (fun r2 M3 hFM3 => ?_)
    refine FJ_if ?_ ?_
    · exact FJ_leaf hFM3
    · refine FJ_ck ?_
      refine FJ_nn hFM3 h0 (fun b5 hb5 => ?_)
      refine FJ_ck ?_
      refine FJ_nn hFM3 hb5 (fun b7 hb7 => ?_)
      refine FJ_ck ?_
      exact FJ_leaf hFM3
theorem nj_Hall_coins (M : Mm) (a0 : Nat) (a1 : Int32) : NJ M (Hall_coins M a0 a1) := by
  unfold Hall_coins
  refine NJ_if ?_ ?_
  · refine NJ_ck ?_
    refine NJ_nn (fun b10 => ?_)
    refine NJ_ck ?_
    exact NJ_leaf Sm.rf
  · refine NJ_ck ?_
    refine NJ_bd Sm.rf (nj_Hall_isPerson _ _ _) (fun r2 M3 hSM3 => ?_)
    refine NJ_if ?_ ?_
    · exact NJ_leaf hSM3
    · refine NJ_ck ?_
      refine NJ_nn (fun b5 => ?_)
      refine NJ_ck ?_
      refine NJ_nn (fun b7 => ?_)
      refine NJ_ck ?_
      exact NJ_leaf hSM3
theorem fj_Hall_pay {D : Nat → Prop} {M : Mm} (hC : Cl D M) (hT : Tp D M) (a0 : Nat) (h0 : D a0) (a1 : Int32) (a2 : Int32) : FJ D M (Hall_pay M a0 a1 a2) := by
  unfold Hall_pay
  refine FJ_ck ?_
  refine FJ_bd hT (Fr.rf hC) (fun gC gT => fj_Hall_isPerson gC gT _ h0 _) (fun r2 M3 hFM3 => ?_)
  refine FJ_if ?_ ?_
  · exact FJ_leaf hFM3
  · refine FJ_bd hT hFM3 (fun gC gT => fj_Hall_isWithin gC gT _ _ _) (fun r4 M5 hFM5 => ?_)
    refine FJ_if ?_ ?_
    · exact FJ_leaf hFM5
    · refine FJ_ck ?_
      refine FJ_nn hFM5 h0 (fun b7 hb7 => ?_)
      refine FJ_ck ?_
      refine FJ_nn hFM5 hb7 (fun b9 hb9 => ?_)
      refine FJ_ck ?_
      refine FJ_nn (Fr_sL hFM5 hb9) h0 (fun b12 hb12 => ?_)
      refine FJ_ck ?_
      exact FJ_leaf (Fr_sL (Fr_sL hFM5 hb9) hb12)
theorem nj_Hall_pay (M : Mm) (a0 : Nat) (a1 : Int32) (a2 : Int32) : NJ M (Hall_pay M a0 a1 a2) := by
  unfold Hall_pay
  refine NJ_ck ?_
  refine NJ_bd Sm.rf (nj_Hall_isPerson _ _ _) (fun r2 M3 hSM3 => ?_)
  refine NJ_if ?_ ?_
  · exact NJ_leaf hSM3
  · refine NJ_bd hSM3 (nj_Hall_isWithin _ _ _ _) (fun r4 M5 hSM5 => ?_)
    refine NJ_if ?_ ?_
    · exact NJ_leaf hSM5
    · refine NJ_ck ?_
      refine NJ_nn (fun b7 => ?_)
      refine NJ_ck ?_
      refine NJ_nn (fun b9 => ?_)
      refine NJ_ck ?_
      refine NJ_nn (fun b12 => ?_)
      refine NJ_ck ?_
      exact NJ_leaf (Sm_sL (Sm_sL hSM5))
theorem fj_Hall_draw {D : Nat → Prop} {M : Mm} (hC : Cl D M) (hT : Tp D M) (a0 : Nat) (h0 : D a0) (a1 : Int32) (a2 : Int32) : FJ D M (Hall_draw M a0 a1 a2) := by
  unfold Hall_draw
  refine FJ_ck ?_
  refine FJ_bd hT (Fr.rf hC) (fun gC gT => fj_Hall_isPerson gC gT _ h0 _) (fun r2 M3 hFM3 => ?_)
  refine FJ_if ?_ ?_
  · exact FJ_leaf hFM3
  · refine FJ_bd hT hFM3 (fun gC gT => fj_Hall_isWithin gC gT _ _ _) (fun r4 M5 hFM5 => ?_)
    refine FJ_if ?_ ?_
    · exact FJ_leaf hFM5
    · refine FJ_ck ?_
      refine FJ_nn hFM5 h0 (fun b7 hb7 => ?_)
      refine FJ_ck ?_
      refine FJ_nn hFM5 hb7 (fun b9 hb9 => ?_)
      refine FJ_ck ?_
      refine FJ_bd hT hFM5 (fun gC gT => fj_Hall_askLaw gC gT _ h0 _) (fun r11 M12 hFM12 => ?_)
      refine FJ_ck ?_
      refine FJ_bd hT hFM12 (fun gC gT => fj_Person_need gC gT _ hb9 _) (fun r14 M15 hFM15 => ?_)
      refine FJ_if ?_ ?_
      · refine FJ_ck ?_
        refine FJ_ck ?_
        refine FJ_nn (Fr_sL hFM15 hb9) h0 (fun b19 hb19 => ?_)
        refine FJ_ck ?_
        exact FJ_leaf (Fr_sL (Fr_sL hFM15 hb9) hb19)
      · exact FJ_leaf hFM15
theorem nj_Hall_draw (M : Mm) (a0 : Nat) (a1 : Int32) (a2 : Int32) : NJ M (Hall_draw M a0 a1 a2) := by
  unfold Hall_draw
  refine NJ_ck ?_
  refine NJ_bd Sm.rf (nj_Hall_isPerson _ _ _) (fun r2 M3 hSM3 => ?_)
  refine NJ_if ?_ ?_
  · exact NJ_leaf hSM3
  · refine NJ_bd hSM3 (nj_Hall_isWithin _ _ _ _) (fun r4 M5 hSM5 => ?_)
    refine NJ_if ?_ ?_
    · exact NJ_leaf hSM5
    · refine NJ_ck ?_
      refine NJ_nn (fun b7 => ?_)
      refine NJ_ck ?_
      refine NJ_nn (fun b9 => ?_)
      refine NJ_ck ?_
      refine NJ_bd hSM5 (nj_Hall_askLaw _ _ _) (fun r11 M12 hSM12 => ?_)
      refine NJ_ck ?_
      refine NJ_bd hSM12 (nj_Person_need _ _ _) (fun r14 M15 hSM15 => ?_)
      refine NJ_if ?_ ?_
      · refine NJ_ck ?_
        refine NJ_ck ?_
        refine NJ_nn (fun b19 => ?_)
        refine NJ_ck ?_
        exact NJ_leaf (Sm_sL (Sm_sL hSM15))
      · exact NJ_leaf hSM15
theorem fj_Hall_addBytes_B3 {D : Nat → Prop} {M0 : Mm} (hT : Tp D M0) (k3 : Nat → Int32 → Int32 → Mm → Option (Unit × Mm)) (hk3 : ∀ (x0 : Nat) (hx0 : D x0) (x1 : Int32) (x2 : Int32) (M : Mm) (hF : Fr D M0 M), FJ D M0 (k3 x0 x1 x2 M)) (x0 : Nat) (hx0 : D x0) (x1 : Int32) (x2 : Int32) (M : Mm) (hF : Fr D M0 M) : FJ D M0 (Hall_addBytes_B3 k3 x0 x1 x2 M) := by
  unfold Hall_addBytes_B3
  refine FJ_if ?_ ?_
  · exact FJ_leaf hF
  · refine FJ_ck ?_
    refine FJ_if ?_ ?_
    · exact FJ_leaf hF
    · refine FJ_nn hF hx0 (fun b2 hb2 => ?_)
      refine FJ_ck ?_
      exact hk3 _ hx0 _ _ _ (Fr_sI (Fr_sI hF hb2) hx0)
theorem nj_Hall_addBytes_B3 {M0 : Mm} (k3 : Nat → Int32 → Int32 → Mm → Option (Unit × Mm)) (hk3 : ∀ (x0 : Nat) (x1 : Int32) (x2 : Int32) (M : Mm) (hS : Sm M0 M), NJ M0 (k3 x0 x1 x2 M)) (x0 : Nat) (x1 : Int32) (x2 : Int32) (M : Mm) (hS : Sm M0 M) : NJ M0 (Hall_addBytes_B3 k3 x0 x1 x2 M) := by
  unfold Hall_addBytes_B3
  refine NJ_if ?_ ?_
  · exact NJ_leaf hS
  · refine NJ_ck ?_
    refine NJ_if ?_ ?_
    · exact NJ_leaf hS
    · refine NJ_nn (fun b2 => ?_)
      refine NJ_ck ?_
      exact hk3 _ _ _ _ (Sm_sI (Sm_sI hS))
theorem fj_Hall_addBytes_L3 {D : Nat → Prop} {M0 : Mm} (hT : Tp D M0) : ∀ (n : Nat) (x0 : Nat) (hx0 : D x0) (x1 : Int32) (x2 : Int32) (M : Mm) (hF : Fr D M0 M), FJ D M0 (Hall_addBytes_L3 n x0 x1 x2 M) := by
  intro n
  induction n with
  | zero => intros; exact FJ_none
  | succ n ih => intro x0 hx0 x1 x2 M hF; exact fj_Hall_addBytes_B3 hT _ ih x0 hx0 x1 x2 M hF
theorem nj_Hall_addBytes_L3 {M0 : Mm} : ∀ (n : Nat) (x0 : Nat) (x1 : Int32) (x2 : Int32) (M : Mm) (hS : Sm M0 M), NJ M0 (Hall_addBytes_L3 n x0 x1 x2 M) := by
  intro n
  induction n with
  | zero => intros; exact NJ_none
  | succ n ih => intro x0 x1 x2 M hS; exact nj_Hall_addBytes_B3 _ ih x0 x1 x2 M hS
theorem fj_Hall_addBytes {D : Nat → Prop} {M : Mm} (hC : Cl D M) (hT : Tp D M) (a0 : Nat) (h0 : D a0) (a1 : Int32) : FJ D M (Hall_addBytes M a0 a1) := by
  unfold Hall_addBytes
  exact fj_Hall_addBytes_L3 hT fu _ h0 _ _ _ (Fr.rf hC)
theorem nj_Hall_addBytes (M : Mm) (a0 : Nat) (a1 : Int32) : NJ M (Hall_addBytes M a0 a1) := by
  unfold Hall_addBytes
  exact nj_Hall_addBytes_L3 fu _ _ _ _ Sm.rf
theorem fj_Hall_feed {D : Nat → Prop} {M : Mm} (hC : Cl D M) (hT : Tp D M) (a0 : Nat) (h0 : D a0) (a1 : Int32) (a2 : Int32) (a3 : Int32) (a4 : Int32) (a5 : Int32) : FJ D M (Hall_feed M a0 a1 a2 a3 a4 a5) := by
  unfold Hall_feed
  refine FJ_ck ?_
  refine FJ_if ?_ ?_
  · refine FJ_bd hT (Fr.rf hC) (fun gC gT => fj_Hall_addBytes gC gT _ h0 _) (fun _ M3 hFM3 => ?_)
    refine FJ_ck ?_
    refine FJ_bd hT hFM3 (fun gC gT => fj_Hall_addBytes gC gT _ h0 _) (fun _ M6 hFM6 => ?_)
    refine FJ_ck ?_
    refine FJ_bd hT hFM6 (fun gC gT => fj_Hall_addBytes gC gT _ h0 _) (fun _ M9 hFM9 => ?_)
    refine FJ_ck ?_
    refine FJ_bd hT hFM9 (fun gC gT => fj_Hall_addBytes gC gT _ h0 _) (fun _ M12 hFM12 => ?_)
    refine FJ_ck ?_
    refine FJ_bd hT hFM12 (fun gC gT => fj_Hall_addBytes gC gT _ h0 _) (fun _ M15 hFM15 => ?_)
    refine FJ_ck ?_
    exact FJ_leaf hFM15
  · exact FJ_leaf (Fr.rf hC)
theorem nj_Hall_feed (M : Mm) (a0 : Nat) (a1 : Int32) (a2 : Int32) (a3 : Int32) (a4 : Int32) (a5 : Int32) : NJ M (Hall_feed M a0 a1 a2 a3 a4 a5) := by
  unfold Hall_feed
  refine NJ_ck ?_
  refine NJ_if ?_ ?_
  · refine NJ_bd Sm.rf (nj_Hall_addBytes _ _ _) (fun _ M3 hSM3 => ?_)
    refine NJ_ck ?_
    refine NJ_bd hSM3 (nj_Hall_addBytes _ _ _) (fun _ M6 hSM6 => ?_)
    refine NJ_ck ?_
    refine NJ_bd hSM6 (nj_Hall_addBytes _ _ _) (fun _ M9 hSM9 => ?_)
    refine NJ_ck ?_
    refine NJ_bd hSM9 (nj_Hall_addBytes _ _ _) (fun _ M12 hSM12 => ?_)
    refine NJ_ck ?_
    refine NJ_bd hSM12 (nj_Hall_addBytes _ _ _) (fun _ M15 hSM15 => ?_)
    refine NJ_ck ?_
    exact NJ_leaf hSM15
  · exact NJ_leaf Sm.rf
theorem fj_Hall_rules {D : Nat → Prop} {M : Mm} (hC : Cl D M) (hT : Tp D M) (a0 : Nat) (h0 : D a0) (a1 : Int32) (a2 : Int32) : FJ D M (Hall_rules M a0 a1 a2) := by
  unfold Hall_rules
  refine FJ_ck ?_
  refine FJ_nn (Fr.rf hC) h0 (fun b2 hb2 => ?_)
  refine FJ_ck ?_
  refine FJ_bd hT (Fr.rf hC) (fun gC gT => fj_Land_has gC gT _ hb2 _) (fun r4 M5 hFM5 => ?_)
  refine FJ_if ?_ ?_
  · exact FJ_leaf hFM5
  · refine FJ_ck ?_
    refine FJ_bd hT hFM5 (fun gC gT => fj_Hall_isWithin gC gT _ _ _) (fun r7 M8 hFM8 => ?_)
    refine FJ_if ?_ ?_
    · exact FJ_leaf hFM8
    · refine FJ_ck ?_
      refine FJ_nn hFM8 h0 (fun b10 hb10 => ?_)
      refine FJ_ck ?_
      refine FJ_bd hT hFM8 (fun gC gT => fj_Law_isFull gC gT _ hb10) (fun r12 M13 hFM13 => ?_)
      refine FJ_if ?_ ?_
      · refine FJ_ck ?_
        refine FJ_nn (Fr_sI hFM13 h0) h0 (fun b16 hb16 => ?_)
        refine FJ_nn (Fr_sI hFM13 h0) h0 (fun b17 hb17 => ?_)
        refine FJ_ck ?_
        refine FJ_bd hT (Fr_sI hFM13 h0) (fun gC gT => fj_Law_read gC gT _ hb16 _ hb17 _) (fun r19 M20 hFM20 => ?_)
        refine FJ_if ?_ ?_
        · exact FJ_leaf hFM20
        · refine FJ_ck ?_
          refine FJ_nn hFM20 h0 (fun b22 hb22 => ?_)
          refine FJ_ck ?_
          refine FJ_bd hT hFM20 (fun gC gT => fj_Land_spread gC gT _ hb22 _ _) (fun _ M25 hFM25 => ?_)
          refine FJ_ck ?_
          refine FJ_nn hFM25 h0 (fun b27 hb27 => ?_)
          refine FJ_ck ?_
          refine FJ_bd hT hFM25 (fun gC gT => fj_Land_minuteIn gC gT _ hb27 _) (fun r29 M30 hFM30 => ?_)
          refine FJ_if ?_ ?_
          · exact FJ_leaf hFM30
          · refine FJ_if ?_ ?_
            · refine FJ_ck ?_
              refine FJ_nn hFM30 h0 (fun b32 hb32 => ?_)
              refine FJ_ck ?_
              refine FJ_bd hT hFM30 (fun gC gT => fj_Law_keep gC gT _ hb32 _) (fun r34 M35 hFM35 => ?_)
              exact FJ_leaf hFM35
            · exact FJ_leaf hFM30
      · exact FJ_leaf hFM13
theorem fj_Hall_fault {D : Nat → Prop} {M : Mm} (hC : Cl D M) (hT : Tp D M) (a0 : Nat) (h0 : D a0) : FJ D M (Hall_fault M a0) := by
  unfold Hall_fault
  refine FJ_ck ?_
  refine FJ_nn (Fr.rf hC) h0 (fun b2 hb2 => ?_)
  refine FJ_ck ?_
  exact FJ_leaf (Fr.rf hC)
theorem nj_Hall_fault (M : Mm) (a0 : Nat) : NJ M (Hall_fault M a0) := by
  unfold Hall_fault
  refine NJ_ck ?_
  refine NJ_nn (fun b2 => ?_)
  refine NJ_ck ?_
  exact NJ_leaf Sm.rf
theorem fj_Hall_rule {D : Nat → Prop} {M : Mm} (hC : Cl D M) (hT : Tp D M) (a0 : Nat) (h0 : D a0) (a1 : Int32) : FJ D M (Hall_rule M a0 a1) := by
  unfold Hall_rule
  refine FJ_if ?_ ?_
  · refine FJ_ck ?_
    refine FJ_nn (Fr.rf hC) h0 (fun b7 hb7 => ?_)
    refine FJ_ck ?_
    refine FJ_bd hT (Fr.rf hC) (fun gC gT => fj_Law_inForce gC gT _ hb7 _) (fun r9 M10 hFM10 => ?_)
    exact FJ_leaf hFM10
  · refine FJ_bd hT (Fr.rf hC) (fun gC gT => fj_Hall_isWithin gC gT _ _ _) (fun r1 M2 hFM2 => ?_)
    refine FJ_if ?_ ?_
    · exact FJ_leaf hFM2
    · refine FJ_ck ?_
      refine FJ_bd hT hFM2 (fun gC gT => fj_Hall_askLaw gC gT _ h0 _) (fun r4 M5 hFM5 => ?_)
      exact FJ_leaf hFM5
theorem nj_Hall_rule (M : Mm) (a0 : Nat) (a1 : Int32) : NJ M (Hall_rule M a0 a1) := by
  unfold Hall_rule
  refine NJ_if ?_ ?_
  · refine NJ_ck ?_
    refine NJ_nn (fun b7 => ?_)
    refine NJ_ck ?_
    refine NJ_bd Sm.rf (nj_Law_inForce _ _ _) (fun r9 M10 hSM10 => ?_)
    exact NJ_leaf hSM10
  · refine NJ_bd Sm.rf (nj_Hall_isWithin _ _ _ _) (fun r1 M2 hSM2 => ?_)
    refine NJ_if ?_ ?_
    · exact NJ_leaf hSM2
    · refine NJ_ck ?_
      refine NJ_bd hSM2 (nj_Hall_askLaw _ _ _) (fun r4 M5 hSM5 => ?_)
      exact NJ_leaf hSM5
theorem fj_Hall_heard {D : Nat → Prop} {M : Mm} (hC : Cl D M) (hT : Tp D M) (a0 : Nat) (h0 : D a0) (a1 : Int32) : FJ D M (Hall_heard M a0 a1) := by
  unfold Hall_heard
  refine FJ_ck ?_
  refine FJ_nn (Fr.rf hC) h0 (fun b2 hb2 => ?_)
  refine FJ_ck ?_
  refine FJ_bd hT (Fr.rf hC) (fun gC gT => fj_Law_minuteOf gC gT _ hb2 _) (fun r4 M5 hFM5 => ?_)
  exact FJ_leaf hFM5
theorem nj_Hall_heard (M : Mm) (a0 : Nat) (a1 : Int32) : NJ M (Hall_heard M a0 a1) := by
  unfold Hall_heard
  refine NJ_ck ?_
  refine NJ_nn (fun b2 => ?_)
  refine NJ_ck ?_
  refine NJ_bd Sm.rf (nj_Law_minuteOf _ _ _) (fun r4 M5 hSM5 => ?_)
  exact NJ_leaf hSM5
theorem fj_Hall_wind {D : Nat → Prop} {M : Mm} (hC : Cl D M) (hT : Tp D M) (a0 : Nat) (h0 : D a0) (a1 : Int32) : FJ D M (Hall_wind M a0 a1) := by
  unfold Hall_wind
  refine FJ_bd hT (Fr.rf hC) (fun gC gT => fj_Hall_isWithin gC gT _ _ _) (fun r1 M2 hFM2 => ?_)
  refine FJ_if ?_ ?_
  · exact FJ_leaf hFM2
  · refine FJ_ck ?_
    exact FJ_leaf (Fr_sI hFM2 h0)
theorem nj_Hall_wind (M : Mm) (a0 : Nat) (a1 : Int32) : NJ M (Hall_wind M a0 a1) := by
  unfold Hall_wind
  refine NJ_bd Sm.rf (nj_Hall_isWithin _ _ _ _) (fun r1 M2 hSM2 => ?_)
  refine NJ_if ?_ ?_
  · exact NJ_leaf hSM2
  · refine NJ_ck ?_
    exact NJ_leaf (Sm_sI hSM2)
theorem fj_Hall_light {D : Nat → Prop} {M : Mm} (hC : Cl D M) (hT : Tp D M) (a0 : Nat) (h0 : D a0) : FJ D M (Hall_light M a0) := by
  unfold Hall_light
  refine FJ_ck ?_
  refine FJ_nl (Fr.rf hC) h0 ?_ (fun b2 hb2 => ?_)
  · refine FJ_if ?_ ?_
    · refine FJ_ck ?_
      refine FJ_bd hT (Fr_nw hT (Fr.rf hC)) (fun gC gT => fj_Hall_askLaw gC gT _ h0 _) (fun r5 M6 hFM6 => ?_)
      refine FJ_bd hT hFM6 (fun gC gT => fj_Session_new gC gT _ (hT _ (Fr.z (Fr.rf hC))) _ _) (fun _ M8 hFM8 => ?_)
      refine FJ_ck ?_
      refine FJ_nn (Fr_sRs hFM8 h0 (hT _ (Fr.z (Fr.rf hC)))) h0 (fun b11 hb11 => ?_)
      refine FJ_nn (Fr_sRs hFM8 h0 (hT _ (Fr.z (Fr.rf hC)))) h0 (fun b12 hb12 => ?_)
      refine FJ_ck ?_
      refine FJ_ck ?_
      exact FJ_leaf (Fr_sI (Fr_sRs (Fr_sRs hFM8 h0 (hT _ (Fr.z (Fr.rf hC)))) hb11 hb12) h0)
    · exact FJ_leaf (Fr.rf hC)
  · exact FJ_leaf (Fr.rf hC)
theorem fj_Hall_cry {D : Nat → Prop} {M : Mm} (hC : Cl D M) (hT : Tp D M) (a0 : Nat) (h0 : D a0) (a1 : Int32) (a2 : Int32) (a3 : Int32) (a4 : Int32) : FJ D M (Hall_cry M a0 a1 a2 a3 a4) := by
  unfold Hall_cry
  refine FJ_ck ?_
  refine FJ_nl (Fr.rf hC) h0 ?_ (fun b2 hb2 => ?_)
  · exact FJ_leaf (Fr.rf hC)
  · refine FJ_bd hT (Fr.rf hC) (fun gC gT => fj_Hall_isPerson gC gT _ h0 _) (fun r3 M4 hFM4 => ?_)
    refine FJ_if ?_ ?_
    · exact FJ_leaf hFM4
    · refine FJ_bd hT hFM4 (fun gC gT => fj_Hall_isWithin gC gT _ _ _) (fun r5 M6 hFM6 => ?_)
      refine FJ_if ?_ ?_
      · exact FJ_leaf hFM6
      · refine FJ_bd hT hFM6 (fun gC gT => fj_Hall_isWithin gC gT _ _ _) (fun r7 M8 hFM8 => ?_)
        refine FJ_if ?_ ?_
        · exact FJ_leaf hFM8
        · refine FJ_ck ?_
          refine FJ_nn hFM8 h0 (fun b10 hb10 => ?_)
          refine FJ_ck ?_
          refine FJ_if ?_ ?_
          · refine FJ_bd hT hFM8 (fun gC gT => fj_Hall_askLaw gC gT _ h0 _) (fun r12 M13 hFM13 => ?_)
            refine FJ_if ?_ ?_
            · exact FJ_leaf hFM13
            · refine FJ_ck ?_
              refine FJ_nn hFM13 h0 (fun b15 hb15 => ?_)
              refine FJ_ck ?_
              refine FJ_nn hFM13 hb15 (fun b17 hb17 => ?_)
              refine FJ_ck ?_
              refine FJ_if ?_ ?_
              · refine FJ_nn hFM13 h0 (fun b19 hb19 => ?_)
                refine FJ_ck ?_
                refine FJ_bd hT (Fr_nw hT hFM13) (fun gC gT => fj_Cry_new gC gT _ (hT _ (Fr.z hFM13)) _ _ _ _ _) (fun _ M23 hFM23 => ?_)
                refine FJ_ck ?_
                refine FJ_bd hT hFM23 (fun gC gT => fj_Session_addCry gC gT _ hb19 _ (hT _ (Fr.z hFM13))) (fun r25 M26 hFM26 => ?_)
                refine FJ_ck ?_
                refine FJ_bd hT hFM26 (fun gC gT => fj_Hall_askLaw gC gT _ h0 _) (fun r28 M29 hFM29 => ?_)
                refine FJ_ck ?_
                refine FJ_bd hT hFM29 (fun gC gT => fj_Hall_askLaw gC gT _ h0 _) (fun r31 M32 hFM32 => ?_)
                refine FJ_bd hT hFM32 (fun gC gT => fj_Hall_isWithin gC gT _ _ _) (fun r33 M34 hFM34 => ?_)
                refine FJ_if ?_ ?_
                · exact FJ_leaf hFM34
                · refine FJ_ck ?_
                  refine FJ_nn hFM34 h0 (fun b36 hb36 => ?_)
                  refine FJ_ck ?_
                  refine FJ_bd hT hFM34 (fun gC gT => fj_Session_meet gC gT _ hb36 _) (fun _ M39 hFM39 => ?_)
                  exact FJ_leaf hFM39
              · exact FJ_leaf hFM13
          · exact FJ_leaf hFM8
theorem fj_Hall_back {D : Nat → Prop} {M : Mm} (hC : Cl D M) (hT : Tp D M) (a0 : Nat) (h0 : D a0) (a1 : Int32) : FJ D M (Hall_back M a0 a1) := by
  unfold Hall_back
  refine FJ_ck ?_
  refine FJ_nl (Fr.rf hC) h0 ?_ (fun b2 hb2 => ?_)
  · exact FJ_leaf (Fr.rf hC)
  · refine FJ_nn (Fr.rf hC) h0 (fun b3 hb3 => ?_)
    refine FJ_ck ?_
    refine FJ_bd hT (Fr.rf hC) (fun gC gT => fj_Session_takeBack gC gT _ hb3 _) (fun r5 M6 hFM6 => ?_)
    exact FJ_leaf hFM6
theorem nj_Hall_back (M : Mm) (a0 : Nat) (a1 : Int32) : NJ M (Hall_back M a0 a1) := by
  unfold Hall_back
  refine NJ_ck ?_
  refine NJ_nl ?_ (fun b2 => ?_)
  · exact NJ_leaf Sm.rf
  · refine NJ_nn (fun b3 => ?_)
    refine NJ_ck ?_
    refine NJ_bd Sm.rf (nj_Session_takeBack _ _ _) (fun r5 M6 hSM6 => ?_)
    exact NJ_leaf hSM6
theorem fj_Hall_note {D : Nat → Prop} {M : Mm} (hC : Cl D M) (hT : Tp D M) (a0 : Nat) (h0 : D a0) (a1 : Int32) (a2 : Int32) (a3 : Int32) (a4 : Int32) : FJ D M (Hall_note M a0 a1 a2 a3 a4) := by
  unfold Hall_note
  refine FJ_ck ?_
  refine FJ_nl (Fr.rf hC) h0 ?_ (fun b2 hb2 => ?_)
  · exact FJ_leaf (Fr.rf hC)
  · refine FJ_nn (Fr.rf hC) h0 (fun b3 hb3 => ?_)
    refine FJ_ck ?_
    refine FJ_bd hT (Fr.rf hC) (fun gC gT => fj_Session_hasBargain gC gT _ hb3 _) (fun r5 M6 hFM6 => ?_)
    refine FJ_if ?_ ?_
    · exact FJ_leaf hFM6
    · refine FJ_bd hT hFM6 (fun gC gT => fj_Hall_isWithin gC gT _ _ _) (fun r7 M8 hFM8 => ?_)
      refine FJ_if ?_ ?_
      · exact FJ_leaf hFM8
      · refine FJ_bd hT hFM8 (fun gC gT => fj_Hall_isWithin gC gT _ _ _) (fun r9 M10 hFM10 => ?_)
        refine FJ_if ?_ ?_
        · exact FJ_leaf hFM10
        · refine FJ_ck ?_
          refine FJ_nn hFM10 h0 (fun b12 hb12 => ?_)
          refine FJ_ck ?_
          refine FJ_nn hFM10 hb12 (fun b14 hb14 => ?_)
          refine FJ_ck ?_
          refine FJ_nn hFM10 hb14 (fun b16 hb16 => ?_)
          refine FJ_ck ?_
          refine FJ_bd hT hFM10 (fun gC gT => fj_Bargain_write gC gT _ hb16 _ _ _) (fun _ M19 hFM19 => ?_)
          exact FJ_leaf hFM19
theorem nj_Hall_note (M : Mm) (a0 : Nat) (a1 : Int32) (a2 : Int32) (a3 : Int32) (a4 : Int32) : NJ M (Hall_note M a0 a1 a2 a3 a4) := by
  unfold Hall_note
  refine NJ_ck ?_
  refine NJ_nl ?_ (fun b2 => ?_)
  · exact NJ_leaf Sm.rf
  · refine NJ_nn (fun b3 => ?_)
    refine NJ_ck ?_
    refine NJ_bd Sm.rf (nj_Session_hasBargain _ _ _) (fun r5 M6 hSM6 => ?_)
    refine NJ_if ?_ ?_
    · exact NJ_leaf hSM6
    · refine NJ_bd hSM6 (nj_Hall_isWithin _ _ _ _) (fun r7 M8 hSM8 => ?_)
      refine NJ_if ?_ ?_
      · exact NJ_leaf hSM8
      · refine NJ_bd hSM8 (nj_Hall_isWithin _ _ _ _) (fun r9 M10 hSM10 => ?_)
        refine NJ_if ?_ ?_
        · exact NJ_leaf hSM10
        · refine NJ_ck ?_
          refine NJ_nn (fun b12 => ?_)
          refine NJ_ck ?_
          refine NJ_nn (fun b14 => ?_)
          refine NJ_ck ?_
          refine NJ_nn (fun b16 => ?_)
          refine NJ_ck ?_
          refine NJ_bd hSM10 (nj_Bargain_write _ _ _ _ _) (fun _ M19 hSM19 => ?_)
          exact NJ_leaf hSM19
theorem fj_Hall_deny {D : Nat → Prop} {M : Mm} (hC : Cl D M) (hT : Tp D M) (a0 : Nat) (h0 : D a0) (a1 : Int32) (a2 : Int32) : FJ D M (Hall_deny M a0 a1 a2) := by
  unfold Hall_deny
  refine FJ_ck ?_
  refine FJ_nl (Fr.rf hC) h0 ?_ (fun b2 hb2 => ?_)
  · exact FJ_leaf (Fr.rf hC)
  · refine FJ_nn (Fr.rf hC) h0 (fun b3 hb3 => ?_)
    refine FJ_ck ?_
    refine FJ_bd hT (Fr.rf hC) (fun gC gT => fj_Session_hasBargain gC gT _ hb3 _) (fun r5 M6 hFM6 => ?_)
    refine FJ_if ?_ ?_
    · exact FJ_leaf hFM6
    · refine FJ_ck ?_
      refine FJ_nn hFM6 h0 (fun b8 hb8 => ?_)
      refine FJ_ck ?_
      refine FJ_nn hFM6 hb8 (fun b10 hb10 => ?_)
      refine FJ_ck ?_
      refine FJ_nn hFM6 hb10 (fun b12 hb12 => ?_)
      refine FJ_ck ?_
      refine FJ_bd hT hFM6 (fun gC gT => fj_Bargain_denyBy gC gT _ hb12 _) (fun r14 M15 hFM15 => ?_)
      refine FJ_ck ?_
      exact FJ_leaf hFM15
theorem nj_Hall_deny (M : Mm) (a0 : Nat) (a1 : Int32) (a2 : Int32) : NJ M (Hall_deny M a0 a1 a2) := by
  unfold Hall_deny
  refine NJ_ck ?_
  refine NJ_nl ?_ (fun b2 => ?_)
  · exact NJ_leaf Sm.rf
  · refine NJ_nn (fun b3 => ?_)
    refine NJ_ck ?_
    refine NJ_bd Sm.rf (nj_Session_hasBargain _ _ _) (fun r5 M6 hSM6 => ?_)
    refine NJ_if ?_ ?_
    · exact NJ_leaf hSM6
    · refine NJ_ck ?_
      refine NJ_nn (fun b8 => ?_)
      refine NJ_ck ?_
      refine NJ_nn (fun b10 => ?_)
      refine NJ_ck ?_
      refine NJ_nn (fun b12 => ?_)
      refine NJ_ck ?_
      refine NJ_bd hSM6 (nj_Bargain_denyBy _ _ _) (fun r14 M15 hSM15 => ?_)
      refine NJ_ck ?_
      exact NJ_leaf hSM15
theorem fj_Hall_burnOneMinute_J55 {D : Nat → Prop} {M0 : Mm} (hT : Tp D M0) (x0 : Nat) (hx0 : D x0) (x1 : Int32) (M : Mm) (hF : Fr D M0 M) : FJ D M0 (Hall_burnOneMinute_J55 x0 x1 M) := by
  unfold Hall_burnOneMinute_J55
  refine FJ_ck ?_
  refine FJ_nn (Fr_sI hF hx0) hx0 (fun b14 hb14 => ?_)
  refine FJ_ck ?_
  exact FJ_leaf (Fr_sI (Fr_sI hF hx0) hb14)
theorem nj_Hall_burnOneMinute_J55 {M0 : Mm} (x0 : Nat) (x1 : Int32) (M : Mm) (hS : Sm M0 M) : NJ M0 (Hall_burnOneMinute_J55 x0 x1 M) := by
  unfold Hall_burnOneMinute_J55
  refine NJ_ck ?_
  refine NJ_nn (fun b14 => ?_)
  refine NJ_ck ?_
  exact NJ_leaf (Sm_sI (Sm_sI hS))
theorem fj_Hall_burnOneMinute {D : Nat → Prop} {M : Mm} (hC : Cl D M) (hT : Tp D M) (a0 : Nat) (h0 : D a0) : FJ D M (Hall_burnOneMinute M a0) := by
  unfold Hall_burnOneMinute
  refine FJ_ck ?_
  refine FJ_nn (Fr.rf hC) h0 (fun b2 hb2 => ?_)
  refine FJ_ck ?_
  refine FJ_bd hT (Fr.rf hC) (fun gC gT => fj_Law_lookAtClock gC gT _ hb2 _ _) (fun _ M5 hFM5 => ?_)
  refine FJ_ck ?_
  refine FJ_nn hFM5 h0 (fun b7 hb7 => ?_)
  refine FJ_ck ?_
  refine FJ_bd hT hFM5 (fun gC gT => fj_Law_ask gC gT _ hb7 _ _) (fun r9 M10 hFM10 => ?_)
  refine FJ_ck ?_
  refine FJ_if ?_ ?_
  · exact fj_Hall_burnOneMinute_J55 hT _ h0 _ _ hFM10
  · refine FJ_nn hFM10 h0 (fun b17 hb17 => ?_)
    refine FJ_ck ?_
    refine FJ_bd hT hFM10 (fun gC gT => fj_Law_ask gC gT _ hb17 _ _) (fun r19 M20 hFM20 => ?_)
    refine FJ_ck ?_
    exact fj_Hall_burnOneMinute_J55 hT _ h0 _ _ hFM20
theorem nj_Hall_burnOneMinute (M : Mm) (a0 : Nat) : NJ M (Hall_burnOneMinute M a0) := by
  unfold Hall_burnOneMinute
  refine NJ_ck ?_
  refine NJ_nn (fun b2 => ?_)
  refine NJ_ck ?_
  refine NJ_bd Sm.rf (nj_Law_lookAtClock _ _ _ _) (fun _ M5 hSM5 => ?_)
  refine NJ_ck ?_
  refine NJ_nn (fun b7 => ?_)
  refine NJ_ck ?_
  refine NJ_bd hSM5 (nj_Law_ask _ _ _ _) (fun r9 M10 hSM10 => ?_)
  refine NJ_ck ?_
  refine NJ_if ?_ ?_
  · exact nj_Hall_burnOneMinute_J55 _ _ _ hSM10
  · refine NJ_nn (fun b17 => ?_)
    refine NJ_ck ?_
    refine NJ_bd hSM10 (nj_Law_ask _ _ _ _) (fun r19 M20 hSM20 => ?_)
    refine NJ_ck ?_
    exact nj_Hall_burnOneMinute_J55 _ _ _ hSM20
theorem fj_Hall_endSession {D : Nat → Prop} {M : Mm} (hC : Cl D M) (hT : Tp D M) (a0 : Nat) (h0 : D a0) : FJ D M (Hall_endSession M a0) := by
  unfold Hall_endSession
  refine FJ_ck ?_
  refine FJ_nn (Fr.rf hC) h0 (fun b2 hb2 => ?_)
  refine FJ_bd hT (Fr_sRn (Fr.rf hC) h0) (fun gC gT => fj_Hall_askLaw gC gT _ h0 _) (fun r4 M5 hFM5 => ?_)
  refine FJ_ck ?_
  refine FJ_bd hT hFM5 (fun gC gT => fj_Session_end gC gT _ hb2 _ _) (fun _ M8 hFM8 => ?_)
  refine FJ_ck ?_
  refine FJ_if ?_ ?_
  · exact FJ_leaf hFM8
  · refine FJ_ck ?_
    refine FJ_nn hFM8 h0 (fun b11 hb11 => ?_)
    refine FJ_nn hFM8 h0 (fun b12 hb12 => ?_)
    refine FJ_ck ?_
    refine FJ_bd hT hFM8 (fun gC gT => fj_House_mark gC gT _ hb11 _ hb12 _ _) (fun _ M15 hFM15 => ?_)
    refine FJ_ck ?_
    refine FJ_nn hFM15 h0 (fun b17 hb17 => ?_)
    refine FJ_nn hFM15 h0 (fun b18 hb18 => ?_)
    refine FJ_ck ?_
    refine FJ_bd hT hFM15 (fun gC gT => fj_House_enter gC gT _ hb17 _ hb18 _ hb2) (fun _ M21 hFM21 => ?_)
    refine FJ_ck ?_
    refine FJ_nn hFM21 h0 (fun b23 hb23 => ?_)
    refine FJ_ck ?_
    refine FJ_ck ?_
    refine FJ_bd hT hFM21 (fun gC gT => fj_House_addClose gC gT _ hb23 _) (fun _ M27 hFM27 => ?_)
    refine FJ_ck ?_
    refine FJ_nn hFM27 h0 (fun b29 hb29 => ?_)
    refine FJ_nn hFM27 h0 (fun b30 hb30 => ?_)
    refine FJ_bd hT hFM27 (fun gC gT => fj_Hall_askLaw gC gT _ h0 _) (fun r31 M32 hFM32 => ?_)
    refine FJ_ck ?_
    refine FJ_bd hT hFM32 (fun gC gT => fj_Hall_askLaw gC gT _ h0 _) (fun r34 M35 hFM35 => ?_)
    refine FJ_ck ?_
    refine FJ_ck ?_
    refine FJ_bd hT hFM35 (fun gC gT => fj_House_callMargins gC gT _ hb29 _ hb30 _ _ _ _) (fun _ M39 hFM39 => ?_)
    refine FJ_ck ?_
    refine FJ_nn hFM39 h0 (fun b41 hb41 => ?_)
    refine FJ_nn hFM39 h0 (fun b42 hb42 => ?_)
    refine FJ_ck ?_
    refine FJ_bd hT hFM39 (fun gC gT => fj_House_partTheLack gC gT _ hb41 _ hb42 _) (fun _ M45 hFM45 => ?_)
    refine FJ_ck ?_
    refine FJ_nn hFM45 h0 (fun b47 hb47 => ?_)
    refine FJ_nn hFM45 h0 (fun b48 hb48 => ?_)
    refine FJ_bd hT hFM45 (fun gC gT => fj_Hall_askLaw gC gT _ h0 _) (fun r49 M50 hFM50 => ?_)
    refine FJ_ck ?_
    refine FJ_bd hT hFM50 (fun gC gT => fj_House_settleAt gC gT _ hb47 _ hb48 _ _) (fun _ M53 hFM53 => ?_)
    exact FJ_leaf hFM53
theorem fj_Hall_pass_J73 {D : Nat → Prop} {M0 : Mm} (hT : Tp D M0) (x0 : Nat) (hx0 : D x0) (x2 : Int32) (M : Mm) (hF : Fr D M0 M) : FJ D M0 (Hall_pass_J73 x0 x2 M) := by
  unfold Hall_pass_J73
  refine FJ_ck ?_
  exact FJ_leaf (Fr_sI hF hx0)
theorem fj_Hall_pass_J67 {D : Nat → Prop} {M0 : Mm} (hT : Tp D M0) (k37 : Nat → Int32 → Int32 → Int32 → Mm → Option (Int32 × Mm)) (hk37 : ∀ (x0 : Nat) (hx0 : D x0) (x1 : Int32) (x2 : Int32) (x3 : Int32) (M : Mm) (hF : Fr D M0 M), FJ D M0 (k37 x0 x1 x2 x3 M)) (x0 : Nat) (hx0 : D x0) (x1 : Int32) (x2 : Int32) (x3 : Int32) (M : Mm) (hF : Fr D M0 M) : FJ D M0 (Hall_pass_J67 k37 x0 x1 x2 x3 M) := by
  unfold Hall_pass_J67
  exact hk37 _ hx0 _ _ _ _ hF
theorem fj_Hall_pass_B37 {D : Nat → Prop} {M0 : Mm} (hT : Tp D M0) (k37 : Nat → Int32 → Int32 → Int32 → Mm → Option (Int32 × Mm)) (hk37 : ∀ (x0 : Nat) (hx0 : D x0) (x1 : Int32) (x2 : Int32) (x3 : Int32) (M : Mm) (hF : Fr D M0 M), FJ D M0 (k37 x0 x1 x2 x3 M)) (x0 : Nat) (hx0 : D x0) (x1 : Int32) (x2 : Int32) (x3 : Int32) (M : Mm) (hF : Fr D M0 M) : FJ D M0 (Hall_pass_B37 k37 x0 x1 x2 x3 M) := by
  unfold Hall_pass_B37
  refine FJ_if ?_ ?_
  · exact fj_Hall_pass_J73 hT _ hx0 _ _ hF
  · refine FJ_ck ?_
    refine FJ_nl hF hx0 ?_ (fun b10 hb10 => ?_)
    · exact fj_Hall_pass_J73 hT _ hx0 _ _ hF
    · refine FJ_bd hT hF (fun gC gT => fj_Hall_burnOneMinute gC gT _ hx0) (fun _ M12 hFM12 => ?_)
      refine FJ_ck ?_
      refine FJ_nn hFM12 hx0 (fun b14 hb14 => ?_)
      refine FJ_ck ?_
      refine FJ_if ?_ ?_
      · exact fj_Hall_pass_J67 hT k37 hk37 _ hx0 _ _ _ _ hFM12
      · refine FJ_bd hT hFM12 (fun gC gT => fj_Hall_endSession gC gT _ hx0) (fun _ M18 hFM18 => ?_)
        exact fj_Hall_pass_J67 hT k37 hk37 _ hx0 _ _ _ _ hFM18
theorem fj_Hall_pass_L37 {D : Nat → Prop} {M0 : Mm} (hT : Tp D M0) : ∀ (n : Nat) (x0 : Nat) (hx0 : D x0) (x1 : Int32) (x2 : Int32) (x3 : Int32) (M : Mm) (hF : Fr D M0 M), FJ D M0 (Hall_pass_L37 n x0 x1 x2 x3 M) := by
  intro n
  induction n with
  | zero => intros; exact FJ_none
  | succ n ih => intro x0 hx0 x1 x2 x3 M hF; exact fj_Hall_pass_B37 hT _ ih x0 hx0 x1 x2 x3 M hF
theorem fj_Hall_pass {D : Nat → Prop} {M : Mm} (hC : Cl D M) (hT : Tp D M) (a0 : Nat) (h0 : D a0) (a1 : Int32) : FJ D M (Hall_pass M a0 a1) := by
  unfold Hall_pass
  refine FJ_bd hT (Fr.rf hC) (fun gC gT => fj_Hall_isWithin gC gT _ _ _) (fun r1 M2 hFM2 => ?_)
  refine FJ_if ?_ ?_
  · exact FJ_leaf hFM2
  · refine FJ_ck ?_
    refine FJ_if ?_ ?_
    · refine FJ_bd hT hFM2 (fun gC gT => fj_Hall_lookAround gC gT _ h0) (fun _ M6 hFM6 => ?_)
      exact fj_Hall_pass_L37 hT fu _ h0 _ _ _ _ hFM6
    · exact FJ_leaf hFM2
theorem fj_Hall_isSession {D : Nat → Prop} {M : Mm} (hC : Cl D M) (hT : Tp D M) (a0 : Nat) (h0 : D a0) (a1 : Int32) : FJ D M (Hall_isSession M a0 a1) := by
  unfold Hall_isSession
  refine FJ_if ?_ ?_
  · exact FJ_leaf (Fr.rf hC)
  · refine FJ_ck ?_
    refine FJ_if ?_ ?_
    · exact FJ_leaf (Fr.rf hC)
    · exact FJ_leaf (Fr.rf hC)
theorem nj_Hall_isSession (M : Mm) (a0 : Nat) (a1 : Int32) : NJ M (Hall_isSession M a0 a1) := by
  unfold Hall_isSession
  refine NJ_if ?_ ?_
  · exact NJ_leaf Sm.rf
  · refine NJ_ck ?_
    refine NJ_if ?_ ?_
    · exact NJ_leaf Sm.rf
    · exact NJ_leaf Sm.rf
