theorem fj_Mod_call {D : Nat → Prop} {M : Mm} (hC : Cl D M) (hT : Tp D M) (a0 : Nat) (h0 : D a0) (a1 : Int32) (a2 : Int32) (a3 : Int32) : FJ D M (Mod_call M a0 a1 a2 a3) := by
  unfold Mod_call
  refine FJ_ck ?_
  refine FJ_bd hT (Fr.rf hC) (fun gC gT => fj_Mod_isPerson gC gT _ h0 _) (fun r2 M3 hFM3 => ?_)
  refine FJ_if ?_ ?_
  · exact FJ_leaf hFM3
  · refine FJ_ck ?_
    refine FJ_bd hT hFM3 (fun gC gT => fj_Mod_isStore gC gT _ h0 _) (fun r5 M6 hFM6 => ?_)
    refine FJ_if ?_ ?_
    · exact FJ_leaf hFM6
    · refine FJ_if ?_ ?_
      · exact FJ_leaf hFM6
      · refine FJ_ck ?_
        refine FJ_nn hFM6 h0 (fun b8 hb8 => ?_)
        refine FJ_ck ?_
        refine FJ_if ?_ ?_
        · exact FJ_leaf hFM6
        · refine FJ_if ?_ ?_
          · exact FJ_leaf hFM6
          · refine FJ_nn hFM6 h0 (fun b10 hb10 => ?_)
            refine FJ_ck ?_
            refine FJ_nn (Fr_sI hFM6 hb10) h0 (fun b13 hb13 => ?_)
            refine FJ_ck ?_
            refine FJ_nn (Fr_sI (Fr_sI hFM6 hb10) hb13) h0 (fun b16 hb16 => ?_)
            refine FJ_ck ?_
            refine FJ_nn (Fr_sI (Fr_sI (Fr_sI hFM6 hb10) hb13) hb16) h0 (fun b19 hb19 => ?_)
            refine FJ_ck ?_
            refine FJ_nn (Fr_sI (Fr_sI (Fr_sI (Fr_sI hFM6 hb10) hb13) hb16) hb19) h0 (fun b22 hb22 => ?_)
            refine FJ_ck ?_
            refine FJ_bd hT (Fr_sI (Fr_sI (Fr_sI (Fr_sI (Fr_sI (Fr_sI hFM6 hb10) hb13) hb16) hb19) hb22) h0) (fun gC gT => fj_Mod_serves gC gT _ h0 _) (fun r26 M27 hFM27 => ?_)
            refine FJ_ck ?_
            refine FJ_nn hFM27 h0 (fun b29 hb29 => ?_)
            refine FJ_ck ?_
            exact FJ_leaf hFM27
theorem nj_Mod_call (M : Mm) (a0 : Nat) (a1 : Int32) (a2 : Int32) (a3 : Int32) : NJ M (Mod_call M a0 a1 a2 a3) := by
  unfold Mod_call
  refine NJ_ck ?_
  refine NJ_bd Sm.rf (nj_Mod_isPerson _ _ _) (fun r2 M3 hSM3 => ?_)
  refine NJ_if ?_ ?_
  · exact NJ_leaf hSM3
  · refine NJ_ck ?_
    refine NJ_bd hSM3 (nj_Mod_isStore _ _ _) (fun r5 M6 hSM6 => ?_)
    refine NJ_if ?_ ?_
    · exact NJ_leaf hSM6
    · refine NJ_if ?_ ?_
      · exact NJ_leaf hSM6
      · refine NJ_ck ?_
        refine NJ_nn (fun b8 => ?_)
        refine NJ_ck ?_
        refine NJ_if ?_ ?_
        · exact NJ_leaf hSM6
        · refine NJ_if ?_ ?_
          · exact NJ_leaf hSM6
          · refine NJ_nn (fun b10 => ?_)
            refine NJ_ck ?_
            refine NJ_nn (fun b13 => ?_)
            refine NJ_ck ?_
            refine NJ_nn (fun b16 => ?_)
            refine NJ_ck ?_
            refine NJ_nn (fun b19 => ?_)
            refine NJ_ck ?_
            refine NJ_nn (fun b22 => ?_)
            refine NJ_ck ?_
            refine NJ_bd (Sm_sI (Sm_sI (Sm_sI (Sm_sI (Sm_sI (Sm_sI hSM6)))))) (nj_Mod_serves _ _ _) (fun r26 M27 hSM27 => ?_)
            refine NJ_ck ?_
            refine NJ_nn (fun b29 => ?_)
            refine NJ_ck ?_
            exact NJ_leaf hSM27
theorem fj_Mod_come {D : Nat → Prop} {M : Mm} (hC : Cl D M) (hT : Tp D M) (a0 : Nat) (h0 : D a0) (a1 : Int32) (a2 : Int32) : FJ D M (Mod_come M a0 a1 a2) := by
  unfold Mod_come
  refine FJ_ck ?_
  refine FJ_bd hT (Fr.rf hC) (fun gC gT => fj_Mod_isStore gC gT _ h0 _) (fun r2 M3 hFM3 => ?_)
  refine FJ_if ?_ ?_
  · exact FJ_leaf hFM3
  · refine FJ_bd hT hFM3 (fun gC gT => fj_Mod_in gC gT _ _ _) (fun r4 M5 hFM5 => ?_)
    refine FJ_if ?_ ?_
    · exact FJ_leaf hFM5
    · refine FJ_ck ?_
      refine FJ_nn hFM5 h0 (fun b7 hb7 => ?_)
      refine FJ_ck ?_
      refine FJ_if ?_ ?_
      · refine FJ_nn hFM5 h0 (fun b9 hb9 => ?_)
        refine FJ_ck ?_
        refine FJ_bd hT (Fr_sI hFM5 hb9) (fun gC gT => fj_Mod_serves gC gT _ h0 _) (fun r12 M13 hFM13 => ?_)
        exact FJ_leaf hFM13
      · exact FJ_leaf hFM5
theorem nj_Mod_come (M : Mm) (a0 : Nat) (a1 : Int32) (a2 : Int32) : NJ M (Mod_come M a0 a1 a2) := by
  unfold Mod_come
  refine NJ_ck ?_
  refine NJ_bd Sm.rf (nj_Mod_isStore _ _ _) (fun r2 M3 hSM3 => ?_)
  refine NJ_if ?_ ?_
  · exact NJ_leaf hSM3
  · refine NJ_bd hSM3 (nj_Mod_in _ _ _ _) (fun r4 M5 hSM5 => ?_)
    refine NJ_if ?_ ?_
    · exact NJ_leaf hSM5
    · refine NJ_ck ?_
      refine NJ_nn (fun b7 => ?_)
      refine NJ_ck ?_
      refine NJ_if ?_ ?_
      · refine NJ_nn (fun b9 => ?_)
        refine NJ_ck ?_
        refine NJ_bd (Sm_sI hSM5) (nj_Mod_serves _ _ _) (fun r12 M13 hSM13 => ?_)
        exact NJ_leaf hSM13
      · exact NJ_leaf hSM5
theorem fj_Mod_bare {D : Nat → Prop} {M : Mm} (hC : Cl D M) (hT : Tp D M) (a0 : Int32) : FJ D M (Mod_bare M a0) := by
  unfold Mod_bare
  refine FJ_if ?_ ?_
  · exact FJ_leaf (Fr.rf hC)
  · refine FJ_if ?_ ?_
    · exact FJ_leaf (Fr.rf hC)
    · refine FJ_if ?_ ?_
      · exact FJ_leaf (Fr.rf hC)
      · refine FJ_if ?_ ?_
        · exact FJ_leaf (Fr.rf hC)
        · refine FJ_if ?_ ?_
          · exact FJ_leaf (Fr.rf hC)
          · refine FJ_if ?_ ?_
            · exact FJ_leaf (Fr.rf hC)
            · refine FJ_if ?_ ?_
              · exact FJ_leaf (Fr.rf hC)
              · refine FJ_if ?_ ?_
                · exact FJ_leaf (Fr.rf hC)
                · exact FJ_leaf (Fr.rf hC)
theorem nj_Mod_bare (M : Mm) (a0 : Int32) : NJ M (Mod_bare M a0) := by
  unfold Mod_bare
  refine NJ_if ?_ ?_
  · exact NJ_leaf Sm.rf
  · refine NJ_if ?_ ?_
    · exact NJ_leaf Sm.rf
    · refine NJ_if ?_ ?_
      · exact NJ_leaf Sm.rf
      · refine NJ_if ?_ ?_
        · exact NJ_leaf Sm.rf
        · refine NJ_if ?_ ?_
          · exact NJ_leaf Sm.rf
          · refine NJ_if ?_ ?_
            · exact NJ_leaf Sm.rf
            · refine NJ_if ?_ ?_
              · exact NJ_leaf Sm.rf
              · refine NJ_if ?_ ?_
                · exact NJ_leaf Sm.rf
                · exact NJ_leaf Sm.rf
theorem fj_Mod_inForce_J46 {D : Nat → Prop} {M0 : Mm} (hT : Tp D M0) (k4 : Nat → Int32 → Int32 → Mm → Option (Int32 × Mm)) (hk4 : ∀ (x0 : Nat) (hx0 : D x0) (x1 : Int32) (x2 : Int32) (M : Mm) (hF : Fr D M0 M), FJ D M0 (k4 x0 x1 x2 M)) (x0 : Nat) (hx0 : D x0) (x1 : Int32) (x2 : Int32) (M : Mm) (hF : Fr D M0 M) : FJ D M0 (Mod_inForce_J46 k4 x0 x1 x2 M) := by
  unfold Mod_inForce_J46
  exact hk4 _ hx0 _ _ _ hF
theorem nj_Mod_inForce_J46 {M0 : Mm} (k4 : Nat → Int32 → Int32 → Mm → Option (Int32 × Mm)) (hk4 : ∀ (x0 : Nat) (x1 : Int32) (x2 : Int32) (M : Mm) (hS : Sm M0 M), NJ M0 (k4 x0 x1 x2 M)) (x0 : Nat) (x1 : Int32) (x2 : Int32) (M : Mm) (hS : Sm M0 M) : NJ M0 (Mod_inForce_J46 k4 x0 x1 x2 M) := by
  unfold Mod_inForce_J46
  exact hk4 _ _ _ _ hS
theorem fj_Mod_inForce_J44 {D : Nat → Prop} {M0 : Mm} (hT : Tp D M0) (k4 : Nat → Int32 → Int32 → Mm → Option (Int32 × Mm)) (hk4 : ∀ (x0 : Nat) (hx0 : D x0) (x1 : Int32) (x2 : Int32) (M : Mm) (hF : Fr D M0 M), FJ D M0 (k4 x0 x1 x2 M)) (x0 : Nat) (hx0 : D x0) (x2 : Int32) (M : Mm) (hF : Fr D M0 M) : FJ D M0 (Mod_inForce_J44 k4 x0 x2 M) := by
  unfold Mod_inForce_J44
  exact fj_Mod_inForce_J46 hT k4 hk4 _ hx0 _ _ _ hF
theorem nj_Mod_inForce_J44 {M0 : Mm} (k4 : Nat → Int32 → Int32 → Mm → Option (Int32 × Mm)) (hk4 : ∀ (x0 : Nat) (x1 : Int32) (x2 : Int32) (M : Mm) (hS : Sm M0 M), NJ M0 (k4 x0 x1 x2 M)) (x0 : Nat) (x2 : Int32) (M : Mm) (hS : Sm M0 M) : NJ M0 (Mod_inForce_J44 k4 x0 x2 M) := by
  unfold Mod_inForce_J44
  exact nj_Mod_inForce_J46 k4 hk4 _ _ _ _ hS
theorem fj_Mod_inForce_B4 {D : Nat → Prop} {M0 : Mm} (hT : Tp D M0) (k4 : Nat → Int32 → Int32 → Mm → Option (Int32 × Mm)) (hk4 : ∀ (x0 : Nat) (hx0 : D x0) (x1 : Int32) (x2 : Int32) (M : Mm) (hF : Fr D M0 M), FJ D M0 (k4 x0 x1 x2 M)) (x0 : Nat) (hx0 : D x0) (x1 : Int32) (x2 : Int32) (M : Mm) (hF : Fr D M0 M) : FJ D M0 (Mod_inForce_B4 k4 x0 x1 x2 M) := by
  unfold Mod_inForce_B4
  refine FJ_ck ?_
  refine FJ_if ?_ ?_
  · exact FJ_leaf hF
  · refine FJ_nn hF hx0 (fun b2 hb2 => ?_)
    refine FJ_ck ?_
    refine FJ_if ?_ ?_
    · exact fj_Mod_inForce_J46 hT k4 hk4 _ hx0 _ _ _ hF
    · refine FJ_if ?_ ?_
      · exact fj_Mod_inForce_J44 hT k4 hk4 _ hx0 _ _ hF
      · refine FJ_nn hF hx0 (fun b5 hb5 => ?_)
        refine FJ_ck ?_
        refine FJ_nn hF hx0 (fun b7 hb7 => ?_)
        refine FJ_ck ?_
        refine FJ_if ?_ ?_
        · exact fj_Mod_inForce_J46 hT k4 hk4 _ hx0 _ _ _ hF
        · exact fj_Mod_inForce_J44 hT k4 hk4 _ hx0 _ _ hF
theorem nj_Mod_inForce_B4 {M0 : Mm} (k4 : Nat → Int32 → Int32 → Mm → Option (Int32 × Mm)) (hk4 : ∀ (x0 : Nat) (x1 : Int32) (x2 : Int32) (M : Mm) (hS : Sm M0 M), NJ M0 (k4 x0 x1 x2 M)) (x0 : Nat) (x1 : Int32) (x2 : Int32) (M : Mm) (hS : Sm M0 M) : NJ M0 (Mod_inForce_B4 k4 x0 x1 x2 M) := by
  unfold Mod_inForce_B4
  refine NJ_ck ?_
  refine NJ_if ?_ ?_
  · exact NJ_leaf hS
  · refine NJ_nn (fun b2 => ?_)
    refine NJ_ck ?_
    refine NJ_if ?_ ?_
    · exact nj_Mod_inForce_J46 k4 hk4 _ _ _ _ hS
    · refine NJ_if ?_ ?_
      · exact nj_Mod_inForce_J44 k4 hk4 _ _ _ hS
      · refine NJ_nn (fun b5 => ?_)
        refine NJ_ck ?_
        refine NJ_nn (fun b7 => ?_)
        refine NJ_ck ?_
        refine NJ_if ?_ ?_
        · exact nj_Mod_inForce_J46 k4 hk4 _ _ _ _ hS
        · exact nj_Mod_inForce_J44 k4 hk4 _ _ _ hS
theorem fj_Mod_inForce_L4 {D : Nat → Prop} {M0 : Mm} (hT : Tp D M0) : ∀ (n : Nat) (x0 : Nat) (hx0 : D x0) (x1 : Int32) (x2 : Int32) (M : Mm) (hF : Fr D M0 M), FJ D M0 (Mod_inForce_L4 n x0 x1 x2 M) := by
  intro n
  induction n with
  | zero => intros; exact FJ_none
  | succ n ih => intro x0 hx0 x1 x2 M hF; exact fj_Mod_inForce_B4 hT _ ih x0 hx0 x1 x2 M hF
theorem nj_Mod_inForce_L4 {M0 : Mm} : ∀ (n : Nat) (x0 : Nat) (x1 : Int32) (x2 : Int32) (M : Mm) (hS : Sm M0 M), NJ M0 (Mod_inForce_L4 n x0 x1 x2 M) := by
  intro n
  induction n with
  | zero => intros; exact NJ_none
  | succ n ih => intro x0 x1 x2 M hS; exact nj_Mod_inForce_B4 _ ih x0 x1 x2 M hS
theorem fj_Mod_inForce {D : Nat → Prop} {M : Mm} (hC : Cl D M) (hT : Tp D M) (a0 : Nat) (h0 : D a0) : FJ D M (Mod_inForce M a0) := by
  unfold Mod_inForce
  exact fj_Mod_inForce_L4 hT fu _ h0 _ _ _ (Fr.rf hC)
theorem nj_Mod_inForce (M : Mm) (a0 : Nat) : NJ M (Mod_inForce M a0) := by
  unfold Mod_inForce
  exact nj_Mod_inForce_L4 fu _ _ _ _ Sm.rf
theorem fj_Mod_known_J107 {D : Nat → Prop} {M0 : Mm} (hT : Tp D M0) (k79 : Nat → Int32 → Int32 → Int32 → Mm → Option (Int32 × Mm)) (hk79 : ∀ (x0 : Nat) (hx0 : D x0) (x1 : Int32) (x2 : Int32) (x3 : Int32) (M : Mm) (hF : Fr D M0 M), FJ D M0 (k79 x0 x1 x2 x3 M)) (x0 : Nat) (hx0 : D x0) (x1 : Int32) (x3 : Int32) (s0 : Int32) (s1 : Int32) (M : Mm) (hF : Fr D M0 M) : FJ D M0 (Mod_known_J107 k79 x0 x1 x3 s0 s1 M) := by
  unfold Mod_known_J107
  exact hk79 _ hx0 _ _ _ _ hF
theorem nj_Mod_known_J107 {M0 : Mm} (k79 : Nat → Int32 → Int32 → Int32 → Mm → Option (Int32 × Mm)) (hk79 : ∀ (x0 : Nat) (x1 : Int32) (x2 : Int32) (x3 : Int32) (M : Mm) (hS : Sm M0 M), NJ M0 (k79 x0 x1 x2 x3 M)) (x0 : Nat) (x1 : Int32) (x3 : Int32) (s0 : Int32) (s1 : Int32) (M : Mm) (hS : Sm M0 M) : NJ M0 (Mod_known_J107 k79 x0 x1 x3 s0 s1 M) := by
  unfold Mod_known_J107
  exact hk79 _ _ _ _ _ hS
theorem fj_Mod_known_B79 {D : Nat → Prop} {M0 : Mm} (hT : Tp D M0) (k79 : Nat → Int32 → Int32 → Int32 → Mm → Option (Int32 × Mm)) (hk79 : ∀ (x0 : Nat) (hx0 : D x0) (x1 : Int32) (x2 : Int32) (x3 : Int32) (M : Mm) (hF : Fr D M0 M), FJ D M0 (k79 x0 x1 x2 x3 M)) (x0 : Nat) (hx0 : D x0) (x1 : Int32) (x2 : Int32) (x3 : Int32) (M : Mm) (hF : Fr D M0 M) : FJ D M0 (Mod_known_B79 k79 x0 x1 x2 x3 M) := by
  unfold Mod_known_B79
  refine FJ_ck ?_
  refine FJ_if ?_ ?_
  · exact FJ_leaf hF
  · refine FJ_if ?_ ?_
    · refine FJ_nn hF hx0 (fun b6 hb6 => ?_)
      refine FJ_ck ?_
      exact fj_Mod_known_J107 hT k79 hk79 _ hx0 _ _ _ _ _ hF
    · refine FJ_bd hT hF (fun gC gT => fj_Mod_outOf gC gT _ hx0 _) (fun r2 M3 hFM3 => ?_)
      exact fj_Mod_known_J107 hT k79 hk79 _ hx0 _ _ _ _ _ hFM3
theorem nj_Mod_known_B79 {M0 : Mm} (k79 : Nat → Int32 → Int32 → Int32 → Mm → Option (Int32 × Mm)) (hk79 : ∀ (x0 : Nat) (x1 : Int32) (x2 : Int32) (x3 : Int32) (M : Mm) (hS : Sm M0 M), NJ M0 (k79 x0 x1 x2 x3 M)) (x0 : Nat) (x1 : Int32) (x2 : Int32) (x3 : Int32) (M : Mm) (hS : Sm M0 M) : NJ M0 (Mod_known_B79 k79 x0 x1 x2 x3 M) := by
  unfold Mod_known_B79
  refine NJ_ck ?_
  refine NJ_if ?_ ?_
  · exact NJ_leaf hS
  · refine NJ_if ?_ ?_
    · refine NJ_nn (fun b6 => ?_)
      refine NJ_ck ?_
      exact nj_Mod_known_J107 k79 hk79 _ _ _ _ _ _ hS
    · refine NJ_bd hS (nj_Mod_outOf _ _ _) (fun r2 M3 hSM3 => ?_)
      exact nj_Mod_known_J107 k79 hk79 _ _ _ _ _ _ hSM3
theorem fj_Mod_known_L79 {D : Nat → Prop} {M0 : Mm} (hT : Tp D M0) : ∀ (n : Nat) (x0 : Nat) (hx0 : D x0) (x1 : Int32) (x2 : Int32) (x3 : Int32) (M : Mm) (hF : Fr D M0 M), FJ D M0 (Mod_known_L79 n x0 x1 x2 x3 M) := by
  intro n
  induction n with
  | zero => intros; exact FJ_none
  | succ n ih => intro x0 hx0 x1 x2 x3 M hF; exact fj_Mod_known_B79 hT _ ih x0 hx0 x1 x2 x3 M hF
theorem nj_Mod_known_L79 {M0 : Mm} : ∀ (n : Nat) (x0 : Nat) (x1 : Int32) (x2 : Int32) (x3 : Int32) (M : Mm) (hS : Sm M0 M), NJ M0 (Mod_known_L79 n x0 x1 x2 x3 M) := by
  intro n
  induction n with
  | zero => intros; exact NJ_none
  | succ n ih => intro x0 x1 x2 x3 M hS; exact nj_Mod_known_B79 _ ih x0 x1 x2 x3 M hS
theorem fj_Mod_known {D : Nat → Prop} {M : Mm} (hC : Cl D M) (hT : Tp D M) (a0 : Nat) (h0 : D a0) (a1 : Int32) : FJ D M (Mod_known M a0 a1) := by
  unfold Mod_known
  refine FJ_if ?_ ?_
  · refine FJ_ck ?_
    exact FJ_leaf (Fr.rf hC)
  · refine FJ_if ?_ ?_
    · refine FJ_ck ?_
      exact FJ_leaf (Fr.rf hC)
    · refine FJ_if ?_ ?_
      · refine FJ_ck ?_
        exact FJ_leaf (Fr.rf hC)
      · refine FJ_if ?_ ?_
        · refine FJ_ck ?_
          refine FJ_if ?_ ?_
          · exact FJ_leaf (Fr.rf hC)
          · refine FJ_nn (Fr.rf hC) h0 (fun b10 hb10 => ?_)
            refine FJ_ck ?_
            exact FJ_leaf (Fr.rf hC)
        · refine FJ_if ?_ ?_
          · refine FJ_ck ?_
            exact FJ_leaf (Fr.rf hC)
          · exact fj_Mod_known_L79 hT fu _ h0 _ _ _ _ (Fr.rf hC)
theorem nj_Mod_known (M : Mm) (a0 : Nat) (a1 : Int32) : NJ M (Mod_known M a0 a1) := by
  unfold Mod_known
  refine NJ_if ?_ ?_
  · refine NJ_ck ?_
    exact NJ_leaf Sm.rf
  · refine NJ_if ?_ ?_
    · refine NJ_ck ?_
      exact NJ_leaf Sm.rf
    · refine NJ_if ?_ ?_
      · refine NJ_ck ?_
        exact NJ_leaf Sm.rf
      · refine NJ_if ?_ ?_
        · refine NJ_ck ?_
          refine NJ_if ?_ ?_
          · exact NJ_leaf Sm.rf
          · refine NJ_nn (fun b10 => ?_)
            refine NJ_ck ?_
            exact NJ_leaf Sm.rf
        · refine NJ_if ?_ ?_
          · refine NJ_ck ?_
            exact NJ_leaf Sm.rf
          · exact nj_Mod_known_L79 fu _ _ _ _ _ Sm.rf
theorem fj_Mod_holds_J249 {D : Nat → Prop} {M0 : Mm} (hT : Tp D M0) (k18 : Nat → Int32 → Int32 → Mm → Option (Int32 × Mm)) (hk18 : ∀ (x0 : Nat) (hx0 : D x0) (x1 : Int32) (x2 : Int32) (M : Mm) (hF : Fr D M0 M), FJ D M0 (k18 x0 x1 x2 M)) (x0 : Nat) (hx0 : D x0) (x1 : Int32) (x2 : Int32) (M : Mm) (hF : Fr D M0 M) : FJ D M0 (Mod_holds_J249 k18 x0 x1 x2 M) := by
  unfold Mod_holds_J249
  exact hk18 _ hx0 _ _ _ hF
theorem nj_Mod_holds_J249 {M0 : Mm} (k18 : Nat → Int32 → Int32 → Mm → Option (Int32 × Mm)) (hk18 : ∀ (x0 : Nat) (x1 : Int32) (x2 : Int32) (M : Mm) (hS : Sm M0 M), NJ M0 (k18 x0 x1 x2 M)) (x0 : Nat) (x1 : Int32) (x2 : Int32) (M : Mm) (hS : Sm M0 M) : NJ M0 (Mod_holds_J249 k18 x0 x1 x2 M) := by
  unfold Mod_holds_J249
  exact hk18 _ _ _ _ hS
theorem fj_Mod_holds_J248 {D : Nat → Prop} {M0 : Mm} (hT : Tp D M0) (k18 : Nat → Int32 → Int32 → Mm → Option (Int32 × Mm)) (hk18 : ∀ (x0 : Nat) (hx0 : D x0) (x1 : Int32) (x2 : Int32) (M : Mm) (hF : Fr D M0 M), FJ D M0 (k18 x0 x1 x2 M)) (x0 : Nat) (hx0 : D x0) (x1 : Int32) (x2 : Int32) (s0 : Int32) (s1 : Int32) (s2 : Nat) (hs2 : D s2) (M : Mm) (hF : Fr D M0 M) : FJ D M0 (Mod_holds_J248 k18 x0 x1 x2 s0 s1 s2 M) := by
  unfold Mod_holds_J248
  refine FJ_ck ?_
  refine FJ_ck ?_
  exact fj_Mod_holds_J249 hT k18 hk18 _ hx0 _ _ _ (Fr_sI hF hs2)
theorem nj_Mod_holds_J248 {M0 : Mm} (k18 : Nat → Int32 → Int32 → Mm → Option (Int32 × Mm)) (hk18 : ∀ (x0 : Nat) (x1 : Int32) (x2 : Int32) (M : Mm) (hS : Sm M0 M), NJ M0 (k18 x0 x1 x2 M)) (x0 : Nat) (x1 : Int32) (x2 : Int32) (s0 : Int32) (s1 : Int32) (s2 : Nat) (M : Mm) (hS : Sm M0 M) : NJ M0 (Mod_holds_J248 k18 x0 x1 x2 s0 s1 s2 M) := by
  unfold Mod_holds_J248
  refine NJ_ck ?_
  refine NJ_ck ?_
  exact nj_Mod_holds_J249 k18 hk18 _ _ _ _ (Sm_sI hS)
theorem fj_Mod_holds_J243 {D : Nat → Prop} {M0 : Mm} (hT : Tp D M0) (k18 : Nat → Int32 → Int32 → Mm → Option (Int32 × Mm)) (hk18 : ∀ (x0 : Nat) (hx0 : D x0) (x1 : Int32) (x2 : Int32) (M : Mm) (hF : Fr D M0 M), FJ D M0 (k18 x0 x1 x2 M)) (x0 : Nat) (hx0 : D x0) (x1 : Int32) (x2 : Int32) (s0 : Int32) (s1 : Nat) (hs1 : D s1) (M : Mm) (hF : Fr D M0 M) : FJ D M0 (Mod_holds_J243 k18 x0 x1 x2 s0 s1 M) := by
  unfold Mod_holds_J243
  exact fj_Mod_holds_J248 hT k18 hk18 _ hx0 _ _ _ _ _ hs1 _ hF
theorem nj_Mod_holds_J243 {M0 : Mm} (k18 : Nat → Int32 → Int32 → Mm → Option (Int32 × Mm)) (hk18 : ∀ (x0 : Nat) (x1 : Int32) (x2 : Int32) (M : Mm) (hS : Sm M0 M), NJ M0 (k18 x0 x1 x2 M)) (x0 : Nat) (x1 : Int32) (x2 : Int32) (s0 : Int32) (s1 : Nat) (M : Mm) (hS : Sm M0 M) : NJ M0 (Mod_holds_J243 k18 x0 x1 x2 s0 s1 M) := by
  unfold Mod_holds_J243
  exact nj_Mod_holds_J248 k18 hk18 _ _ _ _ _ _ _ hS
theorem fj_Mod_holds_J211 {D : Nat → Prop} {M0 : Mm} (hT : Tp D M0) (k18 : Nat → Int32 → Int32 → Mm → Option (Int32 × Mm)) (hk18 : ∀ (x0 : Nat) (hx0 : D x0) (x1 : Int32) (x2 : Int32) (M : Mm) (hF : Fr D M0 M), FJ D M0 (k18 x0 x1 x2 M)) (x0 : Nat) (hx0 : D x0) (x1 : Int32) (x2 : Int32) (s0 : Int32) (s1 : Nat) (hs1 : D s1) (M : Mm) (hF : Fr D M0 M) : FJ D M0 (Mod_holds_J211 k18 x0 x1 x2 s0 s1 M) := by
  unfold Mod_holds_J211
  exact fj_Mod_holds_J248 hT k18 hk18 _ hx0 _ _ _ _ _ hs1 _ hF
theorem nj_Mod_holds_J211 {M0 : Mm} (k18 : Nat → Int32 → Int32 → Mm → Option (Int32 × Mm)) (hk18 : ∀ (x0 : Nat) (x1 : Int32) (x2 : Int32) (M : Mm) (hS : Sm M0 M), NJ M0 (k18 x0 x1 x2 M)) (x0 : Nat) (x1 : Int32) (x2 : Int32) (s0 : Int32) (s1 : Nat) (M : Mm) (hS : Sm M0 M) : NJ M0 (Mod_holds_J211 k18 x0 x1 x2 s0 s1 M) := by
  unfold Mod_holds_J211
  exact nj_Mod_holds_J248 k18 hk18 _ _ _ _ _ _ _ hS
theorem fj_Mod_holds_J165 {D : Nat → Prop} {M0 : Mm} (hT : Tp D M0) (k18 : Nat → Int32 → Int32 → Mm → Option (Int32 × Mm)) (hk18 : ∀ (x0 : Nat) (hx0 : D x0) (x1 : Int32) (x2 : Int32) (M : Mm) (hF : Fr D M0 M), FJ D M0 (k18 x0 x1 x2 M)) (x0 : Nat) (hx0 : D x0) (x1 : Int32) (x2 : Int32) (s0 : Int32) (s1 : Int32) (s2 : Nat) (hs2 : D s2) (M : Mm) (hF : Fr D M0 M) : FJ D M0 (Mod_holds_J165 k18 x0 x1 x2 s0 s1 s2 M) := by
  unfold Mod_holds_J165
  refine FJ_ck ?_
  refine FJ_ck ?_
  exact fj_Mod_holds_J249 hT k18 hk18 _ hx0 _ _ _ (Fr_sI hF hs2)
theorem nj_Mod_holds_J165 {M0 : Mm} (k18 : Nat → Int32 → Int32 → Mm → Option (Int32 × Mm)) (hk18 : ∀ (x0 : Nat) (x1 : Int32) (x2 : Int32) (M : Mm) (hS : Sm M0 M), NJ M0 (k18 x0 x1 x2 M)) (x0 : Nat) (x1 : Int32) (x2 : Int32) (s0 : Int32) (s1 : Int32) (s2 : Nat) (M : Mm) (hS : Sm M0 M) : NJ M0 (Mod_holds_J165 k18 x0 x1 x2 s0 s1 s2 M) := by
  unfold Mod_holds_J165
  refine NJ_ck ?_
  refine NJ_ck ?_
  exact nj_Mod_holds_J249 k18 hk18 _ _ _ _ (Sm_sI hS)
theorem fj_Mod_holds_J132 {D : Nat → Prop} {M0 : Mm} (hT : Tp D M0) (k18 : Nat → Int32 → Int32 → Mm → Option (Int32 × Mm)) (hk18 : ∀ (x0 : Nat) (hx0 : D x0) (x1 : Int32) (x2 : Int32) (M : Mm) (hF : Fr D M0 M), FJ D M0 (k18 x0 x1 x2 M)) (x0 : Nat) (hx0 : D x0) (x1 : Int32) (x2 : Int32) (s0 : Int32) (s1 : Int32) (s2 : Nat) (hs2 : D s2) (M : Mm) (hF : Fr D M0 M) : FJ D M0 (Mod_holds_J132 k18 x0 x1 x2 s0 s1 s2 M) := by
  unfold Mod_holds_J132
  refine FJ_ck ?_
  refine FJ_ck ?_
  exact fj_Mod_holds_J249 hT k18 hk18 _ hx0 _ _ _ (Fr_sI hF hs2)
theorem nj_Mod_holds_J132 {M0 : Mm} (k18 : Nat → Int32 → Int32 → Mm → Option (Int32 × Mm)) (hk18 : ∀ (x0 : Nat) (x1 : Int32) (x2 : Int32) (M : Mm) (hS : Sm M0 M), NJ M0 (k18 x0 x1 x2 M)) (x0 : Nat) (x1 : Int32) (x2 : Int32) (s0 : Int32) (s1 : Int32) (s2 : Nat) (M : Mm) (hS : Sm M0 M) : NJ M0 (Mod_holds_J132 k18 x0 x1 x2 s0 s1 s2 M) := by
  unfold Mod_holds_J132
  refine NJ_ck ?_
  refine NJ_ck ?_
  exact nj_Mod_holds_J249 k18 hk18 _ _ _ _ (Sm_sI hS)
theorem fj_Mod_holds_B18 {D : Nat → Prop} {M0 : Mm} (hT : Tp D M0) (k18 : Nat → Int32 → Int32 → Mm → Option (Int32 × Mm)) (hk18 : ∀ (x0 : Nat) (hx0 : D x0) (x1 : Int32) (x2 : Int32) (M : Mm) (hF : Fr D M0 M), FJ D M0 (k18 x0 x1 x2 M)) (x0 : Nat) (hx0 : D x0) (x1 : Int32) (x2 : Int32) (M : Mm) (hF : Fr D M0 M) : FJ D M0 (Mod_holds_B18 k18 x0 x1 x2 M) := by
  unfold Mod_holds_B18
  refine FJ_ck ?_
  refine FJ_nn hF hx0 (fun b8 hb8 => ?_)
  refine FJ_ck ?_
  refine FJ_if ?_ ?_
  · refine FJ_nn hF hx0 (fun b10 hb10 => ?_)
    refine FJ_nn hF hx0 (fun b11 hb11 => ?_)
    refine FJ_ck ?_
    refine FJ_ck ?_
    refine FJ_ck ?_
    exact FJ_leaf hF
  · refine FJ_nn hF hx0 (fun b15 hb15 => ?_)
    refine FJ_ck ?_
    refine FJ_if ?_ ?_
    · refine FJ_nn hF hx0 (fun b47 hb47 => ?_)
      refine FJ_ck ?_
      refine FJ_bd hT hF (fun gC gT => fj_Mod_known gC gT _ hx0 _) (fun r49 M50 hFM50 => ?_)
      refine FJ_ck ?_
      refine FJ_nn hFM50 hx0 (fun b52 hb52 => ?_)
      refine FJ_nn hFM50 hx0 (fun b53 hb53 => ?_)
      refine FJ_ck ?_
      refine FJ_if ?_ ?_
      · refine FJ_nn hFM50 hx0 (fun b64 hb64 => ?_)
        refine FJ_ck ?_
        refine FJ_if ?_ ?_
        · exact fj_Mod_holds_J132 hT k18 hk18 _ hx0 _ _ _ _ _ hb52 _ hFM50
        · exact fj_Mod_holds_J132 hT k18 hk18 _ hx0 _ _ _ _ _ hb52 _ hFM50
      · refine FJ_nn hFM50 hx0 (fun b55 hb55 => ?_)
        refine FJ_ck ?_
        refine FJ_if ?_ ?_
        · refine FJ_nn hFM50 hx0 (fun b62 hb62 => ?_)
          refine FJ_ck ?_
          refine FJ_if ?_ ?_
          · exact fj_Mod_holds_J132 hT k18 hk18 _ hx0 _ _ _ _ _ hb52 _ hFM50
          · exact fj_Mod_holds_J132 hT k18 hk18 _ hx0 _ _ _ _ _ hb52 _ hFM50
        · refine FJ_nn hFM50 hx0 (fun b57 hb57 => ?_)
          refine FJ_ck ?_
          refine FJ_if ?_ ?_
          · exact fj_Mod_holds_J132 hT k18 hk18 _ hx0 _ _ _ _ _ hb52 _ hFM50
          · exact fj_Mod_holds_J132 hT k18 hk18 _ hx0 _ _ _ _ _ hb52 _ hFM50
    · refine FJ_if ?_ ?_
      · refine FJ_nn hF hx0 (fun b39 hb39 => ?_)
        refine FJ_nn hF hx0 (fun b40 hb40 => ?_)
        refine FJ_nn hF hx0 (fun b41 hb41 => ?_)
        refine FJ_ck ?_
        refine FJ_ck ?_
        refine FJ_if ?_ ?_
        · exact fj_Mod_holds_J165 hT k18 hk18 _ hx0 _ _ _ _ _ hb39 _ hF
        · exact fj_Mod_holds_J165 hT k18 hk18 _ hx0 _ _ _ _ _ hb39 _ hF
      · refine FJ_nn hF hx0 (fun b18 hb18 => ?_)
        refine FJ_if ?_ ?_
        · refine FJ_nn hF hx0 (fun b31 hb31 => ?_)
          refine FJ_nn hF hx0 (fun b32 hb32 => ?_)
          refine FJ_ck ?_
          refine FJ_ck ?_
          refine FJ_if ?_ ?_
          · exact fj_Mod_holds_J211 hT k18 hk18 _ hx0 _ _ _ _ hb18 _ hF
          · refine FJ_nn hF hx0 (fun b35 hb35 => ?_)
            refine FJ_nn hF hx0 (fun b36 hb36 => ?_)
            refine FJ_ck ?_
            refine FJ_ck ?_
            refine FJ_if ?_ ?_
            · exact fj_Mod_holds_J211 hT k18 hk18 _ hx0 _ _ _ _ hb18 _ hF
            · exact fj_Mod_holds_J248 hT k18 hk18 _ hx0 _ _ _ _ _ hb18 _ hF
        · refine FJ_nn hF hx0 (fun b19 hb19 => ?_)
          refine FJ_nn hF hx0 (fun b20 hb20 => ?_)
          refine FJ_ck ?_
          refine FJ_ck ?_
          refine FJ_if ?_ ?_
          · refine FJ_nn hF hx0 (fun b27 hb27 => ?_)
            refine FJ_nn hF hx0 (fun b28 hb28 => ?_)
            refine FJ_ck ?_
            refine FJ_ck ?_
            refine FJ_if ?_ ?_
            · exact fj_Mod_holds_J248 hT k18 hk18 _ hx0 _ _ _ _ _ hb18 _ hF
            · exact fj_Mod_holds_J243 hT k18 hk18 _ hx0 _ _ _ _ hb18 _ hF
          · exact fj_Mod_holds_J243 hT k18 hk18 _ hx0 _ _ _ _ hb18 _ hF
theorem nj_Mod_holds_B18 {M0 : Mm} (k18 : Nat → Int32 → Int32 → Mm → Option (Int32 × Mm)) (hk18 : ∀ (x0 : Nat) (x1 : Int32) (x2 : Int32) (M : Mm) (hS : Sm M0 M), NJ M0 (k18 x0 x1 x2 M)) (x0 : Nat) (x1 : Int32) (x2 : Int32) (M : Mm) (hS : Sm M0 M) : NJ M0 (Mod_holds_B18 k18 x0 x1 x2 M) := by
  unfold Mod_holds_B18
  refine NJ_ck ?_
  refine NJ_nn (fun b8 => ?_)
  refine NJ_ck ?_
  refine NJ_if ?_ ?_
  · refine NJ_nn (fun b10 => ?_)
    refine NJ_nn (fun b11 => ?_)
    refine NJ_ck ?_
    refine NJ_ck ?_
    refine NJ_ck ?_
    exact NJ_leaf hS
  · refine NJ_nn (fun b15 => ?_)
    refine NJ_ck ?_
    refine NJ_if ?_ ?_
    · refine NJ_nn (fun b47 => ?_)
      refine NJ_ck ?_
      refine NJ_bd hS (nj_Mod_known _ _ _) (fun r49 M50 hSM50 => ?_)
      refine NJ_ck ?_
      refine NJ_nn (fun b52 => ?_)
      refine NJ_nn (fun b53 => ?_)
      refine NJ_ck ?_
      refine NJ_if ?_ ?_
      · refine NJ_nn (fun b64 => ?_)
        refine NJ_ck ?_
        refine NJ_if ?_ ?_
        · exact nj_Mod_holds_J132 k18 hk18 _ _ _ _ _ _ _ hSM50
        · exact nj_Mod_holds_J132 k18 hk18 _ _ _ _ _ _ _ hSM50
      · refine NJ_nn (fun b55 => ?_)
        refine NJ_ck ?_
        refine NJ_if ?_ ?_
        · refine NJ_nn (fun b62 => ?_)
          refine NJ_ck ?_
          refine NJ_if ?_ ?_
          · exact nj_Mod_holds_J132 k18 hk18 _ _ _ _ _ _ _ hSM50
          · exact nj_Mod_holds_J132 k18 hk18 _ _ _ _ _ _ _ hSM50
        · refine NJ_nn (fun b57 => ?_)
          refine NJ_ck ?_
          refine NJ_if ?_ ?_
          · exact nj_Mod_holds_J132 k18 hk18 _ _ _ _ _ _ _ hSM50
          · exact nj_Mod_holds_J132 k18 hk18 _ _ _ _ _ _ _ hSM50
    · refine NJ_if ?_ ?_
      · refine NJ_nn (fun b39 => ?_)
        refine NJ_nn (fun b40 => ?_)
        refine NJ_nn (fun b41 => ?_)
        refine NJ_ck ?_
        refine NJ_ck ?_
        refine NJ_if ?_ ?_
        · exact nj_Mod_holds_J165 k18 hk18 _ _ _ _ _ _ _ hS
        · exact nj_Mod_holds_J165 k18 hk18 _ _ _ _ _ _ _ hS
      · refine NJ_nn (fun b18 => ?_)
        refine NJ_if ?_ ?_
        · refine NJ_nn (fun b31 => ?_)
          refine NJ_nn (fun b32 => ?_)
          refine NJ_ck ?_
          refine NJ_ck ?_
          refine NJ_if ?_ ?_
          · exact nj_Mod_holds_J211 k18 hk18 _ _ _ _ _ _ hS
          · refine NJ_nn (fun b35 => ?_)
            refine NJ_nn (fun b36 => ?_)
            refine NJ_ck ?_
            refine NJ_ck ?_
            refine NJ_if ?_ ?_
            · exact nj_Mod_holds_J211 k18 hk18 _ _ _ _ _ _ hS
            · exact nj_Mod_holds_J248 k18 hk18 _ _ _ _ _ _ _ hS
        · refine NJ_nn (fun b19 => ?_)
          refine NJ_nn (fun b20 => ?_)
          refine NJ_ck ?_
          refine NJ_ck ?_
          refine NJ_if ?_ ?_
          · refine NJ_nn (fun b27 => ?_)
            refine NJ_nn (fun b28 => ?_)
            refine NJ_ck ?_
            refine NJ_ck ?_
            refine NJ_if ?_ ?_
            · exact nj_Mod_holds_J248 k18 hk18 _ _ _ _ _ _ _ hS
            · exact nj_Mod_holds_J243 k18 hk18 _ _ _ _ _ _ hS
          · exact nj_Mod_holds_J243 k18 hk18 _ _ _ _ _ _ hS
theorem fj_Mod_holds_L18 {D : Nat → Prop} {M0 : Mm} (hT : Tp D M0) : ∀ (n : Nat) (x0 : Nat) (hx0 : D x0) (x1 : Int32) (x2 : Int32) (M : Mm) (hF : Fr D M0 M), FJ D M0 (Mod_holds_L18 n x0 x1 x2 M) := by
  intro n
  induction n with
  | zero => intros; exact FJ_none
  | succ n ih => intro x0 hx0 x1 x2 M hF; exact fj_Mod_holds_B18 hT _ ih x0 hx0 x1 x2 M hF
theorem nj_Mod_holds_L18 {M0 : Mm} : ∀ (n : Nat) (x0 : Nat) (x1 : Int32) (x2 : Int32) (M : Mm) (hS : Sm M0 M), NJ M0 (Mod_holds_L18 n x0 x1 x2 M) := by
  intro n
  induction n with
  | zero => intros; exact NJ_none
  | succ n ih => intro x0 x1 x2 M hS; exact nj_Mod_holds_B18 _ ih x0 x1 x2 M hS
theorem fj_Mod_holds {D : Nat → Prop} {M : Mm} (hC : Cl D M) (hT : Tp D M) (a0 : Nat) (h0 : D a0) (a1 : Int32) : FJ D M (Mod_holds M a0 a1) := by
  unfold Mod_holds
  refine FJ_ck ?_
  refine FJ_nn (Fr.rf hC) h0 (fun b2 hb2 => ?_)
  refine FJ_ck ?_
  refine FJ_if ?_ ?_
  · refine FJ_nn (Fr.rf hC) h0 (fun b4 hb4 => ?_)
    refine FJ_ck ?_
    exact fj_Mod_holds_L18 hT fu _ h0 _ _ _ (Fr.rf hC)
  · exact FJ_leaf (Fr.rf hC)
theorem nj_Mod_holds (M : Mm) (a0 : Nat) (a1 : Int32) : NJ M (Mod_holds M a0 a1) := by
  unfold Mod_holds
  refine NJ_ck ?_
  refine NJ_nn (fun b2 => ?_)
  refine NJ_ck ?_
  refine NJ_if ?_ ?_
  · refine NJ_nn (fun b4 => ?_)
    refine NJ_ck ?_
    exact nj_Mod_holds_L18 fu _ _ _ _ Sm.rf
  · exact NJ_leaf Sm.rf
theorem fj_Mod_asked_J70 {D : Nat → Prop} {M0 : Mm} (hT : Tp D M0) (k24 : Nat → Int32 → Int32 → Int32 → Int32 → Mm → Option (Int32 × Mm)) (hk24 : ∀ (x0 : Nat) (hx0 : D x0) (x1 : Int32) (x2 : Int32) (x3 : Int32) (x4 : Int32) (M : Mm) (hF : Fr D M0 M), FJ D M0 (k24 x0 x1 x2 x3 x4 M)) (x0 : Nat) (hx0 : D x0) (x1 : Int32) (x2 : Int32) (x3 : Int32) (x4 : Int32) (M : Mm) (hF : Fr D M0 M) : FJ D M0 (Mod_asked_J70 k24 x0 x1 x2 x3 x4 M) := by
  unfold Mod_asked_J70
  exact hk24 _ hx0 _ _ _ _ _ hF
theorem nj_Mod_asked_J70 {M0 : Mm} (k24 : Nat → Int32 → Int32 → Int32 → Int32 → Mm → Option (Int32 × Mm)) (hk24 : ∀ (x0 : Nat) (x1 : Int32) (x2 : Int32) (x3 : Int32) (x4 : Int32) (M : Mm) (hS : Sm M0 M), NJ M0 (k24 x0 x1 x2 x3 x4 M)) (x0 : Nat) (x1 : Int32) (x2 : Int32) (x3 : Int32) (x4 : Int32) (M : Mm) (hS : Sm M0 M) : NJ M0 (Mod_asked_J70 k24 x0 x1 x2 x3 x4 M) := by
  unfold Mod_asked_J70
  exact hk24 _ _ _ _ _ _ hS
theorem fj_Mod_asked_B24 {D : Nat → Prop} {M0 : Mm} (hT : Tp D M0) (k24 : Nat → Int32 → Int32 → Int32 → Int32 → Mm → Option (Int32 × Mm)) (hk24 : ∀ (x0 : Nat) (hx0 : D x0) (x1 : Int32) (x2 : Int32) (x3 : Int32) (x4 : Int32) (M : Mm) (hF : Fr D M0 M), FJ D M0 (k24 x0 x1 x2 x3 x4 M)) (x0 : Nat) (hx0 : D x0) (x1 : Int32) (x2 : Int32) (x3 : Int32) (x4 : Int32) (M : Mm) (hF : Fr D M0 M) : FJ D M0 (Mod_asked_B24 k24 x0 x1 x2 x3 x4 M) := by
  unfold Mod_asked_B24
  refine FJ_ck ?_
  refine FJ_nn hF hx0 (fun b11 hb11 => ?_)
  refine FJ_ck ?_
  refine FJ_nn hF hx0 (fun b13 hb13 => ?_)
  refine FJ_ck ?_
  refine FJ_if ?_ ?_
  · exact FJ_leaf hF
  · refine FJ_nn hF hx0 (fun b15 hb15 => ?_)
    refine FJ_ck ?_
    refine FJ_if ?_ ?_
    · refine FJ_bd hT hF (fun gC gT => fj_Mod_holds gC gT _ hx0 _) (fun r18 M19 hFM19 => ?_)
      refine FJ_if ?_ ?_
      · exact fj_Mod_asked_J70 hT k24 hk24 _ hx0 _ _ _ _ _ hFM19
      · refine FJ_ck ?_
        refine FJ_nn hFM19 hx0 (fun b21 hb21 => ?_)
        refine FJ_ck ?_
        exact fj_Mod_asked_J70 hT k24 hk24 _ hx0 _ _ _ _ _ hFM19
    · exact fj_Mod_asked_J70 hT k24 hk24 _ hx0 _ _ _ _ _ hF
theorem nj_Mod_asked_B24 {M0 : Mm} (k24 : Nat → Int32 → Int32 → Int32 → Int32 → Mm → Option (Int32 × Mm)) (hk24 : ∀ (x0 : Nat) (x1 : Int32) (x2 : Int32) (x3 : Int32) (x4 : Int32) (M : Mm) (hS : Sm M0 M), NJ M0 (k24 x0 x1 x2 x3 x4 M)) (x0 : Nat) (x1 : Int32) (x2 : Int32) (x3 : Int32) (x4 : Int32) (M : Mm) (hS : Sm M0 M) : NJ M0 (Mod_asked_B24 k24 x0 x1 x2 x3 x4 M) := by
  unfold Mod_asked_B24
  refine NJ_ck ?_
  refine NJ_nn (fun b11 => ?_)
  refine NJ_ck ?_
  refine NJ_nn (fun b13 => ?_)
  refine NJ_ck ?_
  refine NJ_if ?_ ?_
  · exact NJ_leaf hS
  · refine NJ_nn (fun b15 => ?_)
    refine NJ_ck ?_
    refine NJ_if ?_ ?_
    · refine NJ_bd hS (nj_Mod_holds _ _ _) (fun r18 M19 hSM19 => ?_)
      refine NJ_if ?_ ?_
      · exact nj_Mod_asked_J70 k24 hk24 _ _ _ _ _ _ hSM19
      · refine NJ_ck ?_
        refine NJ_nn (fun b21 => ?_)
        refine NJ_ck ?_
        exact nj_Mod_asked_J70 k24 hk24 _ _ _ _ _ _ hSM19
    · exact nj_Mod_asked_J70 k24 hk24 _ _ _ _ _ _ hS
theorem fj_Mod_asked_L24 {D : Nat → Prop} {M0 : Mm} (hT : Tp D M0) : ∀ (n : Nat) (x0 : Nat) (hx0 : D x0) (x1 : Int32) (x2 : Int32) (x3 : Int32) (x4 : Int32) (M : Mm) (hF : Fr D M0 M), FJ D M0 (Mod_asked_L24 n x0 x1 x2 x3 x4 M) := by
  intro n
  induction n with
  | zero => intros; exact FJ_none
  | succ n ih => intro x0 hx0 x1 x2 x3 x4 M hF; exact fj_Mod_asked_B24 hT _ ih x0 hx0 x1 x2 x3 x4 M hF
theorem nj_Mod_asked_L24 {M0 : Mm} : ∀ (n : Nat) (x0 : Nat) (x1 : Int32) (x2 : Int32) (x3 : Int32) (x4 : Int32) (M : Mm) (hS : Sm M0 M), NJ M0 (Mod_asked_L24 n x0 x1 x2 x3 x4 M) := by
  intro n
  induction n with
  | zero => intros; exact NJ_none
  | succ n ih => intro x0 x1 x2 x3 x4 M hS; exact nj_Mod_asked_B24 _ ih x0 x1 x2 x3 x4 M hS
theorem fj_Mod_asked {D : Nat → Prop} {M : Mm} (hC : Cl D M) (hT : Tp D M) (a0 : Nat) (h0 : D a0) (a1 : Int32) : FJ D M (Mod_asked M a0 a1) := by
  unfold Mod_asked
  refine FJ_bd hT (Fr.rf hC) (fun gC gT => fj_Mod_bare gC gT _) (fun r1 M2 hFM2 => ?_)
  refine FJ_ck ?_
  refine FJ_bd hT hFM2 (fun gC gT => fj_Mod_inForce gC gT _ h0) (fun r4 M5 hFM5 => ?_)
  refine FJ_if ?_ ?_
  · refine FJ_ck ?_
    refine FJ_nn hFM5 h0 (fun b7 hb7 => ?_)
    refine FJ_ck ?_
    exact fj_Mod_asked_L24 hT fu _ h0 _ _ _ _ _ hFM5
  · exact FJ_leaf hFM5
theorem nj_Mod_asked (M : Mm) (a0 : Nat) (a1 : Int32) : NJ M (Mod_asked M a0 a1) := by
  unfold Mod_asked
  refine NJ_bd Sm.rf (nj_Mod_bare _ _) (fun r1 M2 hSM2 => ?_)
  refine NJ_ck ?_
  refine NJ_bd hSM2 (nj_Mod_inForce _ _) (fun r4 M5 hSM5 => ?_)
  refine NJ_if ?_ ?_
  · refine NJ_ck ?_
    refine NJ_nn (fun b7 => ?_)
    refine NJ_ck ?_
    exact nj_Mod_asked_L24 fu _ _ _ _ _ _ hSM5
  · exact NJ_leaf hSM5
theorem fj_Mod_spoil_B78 {D : Nat → Prop} {M0 : Mm} (hT : Tp D M0) (k78 : Nat → Int32 → Int32 → Int32 → Int32 → Mm → Option (Int32 × Mm)) (hk78 : ∀ (x0 : Nat) (hx0 : D x0) (x1 : Int32) (x2 : Int32) (x4 : Int32) (x5 : Int32) (M : Mm) (hF : Fr D M0 M), FJ D M0 (k78 x0 x1 x2 x4 x5 M)) (x0 : Nat) (hx0 : D x0) (x1 : Int32) (x2 : Int32) (x4 : Int32) (x5 : Int32) (M : Mm) (hF : Fr D M0 M) : FJ D M0 (Mod_spoil_B78 k78 x0 x1 x2 x4 x5 M) := by
  unfold Mod_spoil_B78
  refine FJ_ck ?_
  refine FJ_if ?_ ?_
  · exact FJ_leaf hF
  · refine FJ_nn hF hx0 (fun b20 hb20 => ?_)
    refine FJ_ck ?_
    refine FJ_nn hF hx0 (fun b23 hb23 => ?_)
    refine FJ_ck ?_
    refine FJ_nn (Fr_sI hF hb23) hx0 (fun b26 hb26 => ?_)
    refine FJ_ck ?_
    exact hk78 _ hx0 _ _ _ _ _ (Fr_sI (Fr_sI hF hb23) hb26)
theorem nj_Mod_spoil_B78 {M0 : Mm} (k78 : Nat → Int32 → Int32 → Int32 → Int32 → Mm → Option (Int32 × Mm)) (hk78 : ∀ (x0 : Nat) (x1 : Int32) (x2 : Int32) (x4 : Int32) (x5 : Int32) (M : Mm) (hS : Sm M0 M), NJ M0 (k78 x0 x1 x2 x4 x5 M)) (x0 : Nat) (x1 : Int32) (x2 : Int32) (x4 : Int32) (x5 : Int32) (M : Mm) (hS : Sm M0 M) : NJ M0 (Mod_spoil_B78 k78 x0 x1 x2 x4 x5 M) := by
  unfold Mod_spoil_B78
  refine NJ_ck ?_
  refine NJ_if ?_ ?_
  · exact NJ_leaf hS
  · refine NJ_nn (fun b20 => ?_)
    refine NJ_ck ?_
    refine NJ_nn (fun b23 => ?_)
    refine NJ_ck ?_
    refine NJ_nn (fun b26 => ?_)
    refine NJ_ck ?_
    exact hk78 _ _ _ _ _ _ (Sm_sI (Sm_sI hS))
theorem fj_Mod_spoil_L78 {D : Nat → Prop} {M0 : Mm} (hT : Tp D M0) : ∀ (n : Nat) (x0 : Nat) (hx0 : D x0) (x1 : Int32) (x2 : Int32) (x4 : Int32) (x5 : Int32) (M : Mm) (hF : Fr D M0 M), FJ D M0 (Mod_spoil_L78 n x0 x1 x2 x4 x5 M) := by
  intro n
  induction n with
  | zero => intros; exact FJ_none
  | succ n ih => intro x0 hx0 x1 x2 x4 x5 M hF; exact fj_Mod_spoil_B78 hT _ ih x0 hx0 x1 x2 x4 x5 M hF
theorem nj_Mod_spoil_L78 {M0 : Mm} : ∀ (n : Nat) (x0 : Nat) (x1 : Int32) (x2 : Int32) (x4 : Int32) (x5 : Int32) (M : Mm) (hS : Sm M0 M), NJ M0 (Mod_spoil_L78 n x0 x1 x2 x4 x5 M) := by
  intro n
  induction n with
  | zero => intros; exact NJ_none
  | succ n ih => intro x0 x1 x2 x4 x5 M hS; exact nj_Mod_spoil_B78 _ ih x0 x1 x2 x4 x5 M hS
theorem fj_Mod_spoil_J35 {D : Nat → Prop} {M0 : Mm} (hT : Tp D M0) (x0 : Nat) (hx0 : D x0) (x1 : Int32) (x2 : Int32) (s0 : Int32) (M : Mm) (hF : Fr D M0 M) : FJ D M0 (Mod_spoil_J35 x0 x1 x2 s0 M) := by
  unfold Mod_spoil_J35
  refine FJ_ck ?_
  refine FJ_nn hF hx0 (fun b10 hb10 => ?_)
  refine FJ_ck ?_
  refine FJ_nn hF hx0 (fun b13 hb13 => ?_)
  refine FJ_ck ?_
  refine FJ_nn (Fr_sI hF hb13) hx0 (fun b16 hb16 => ?_)
  refine FJ_ck ?_
  refine FJ_if ?_ ?_
  · exact FJ_leaf (Fr_sI (Fr_sI hF hb13) hb16)
  · exact fj_Mod_spoil_L78 hT fu _ hx0 _ _ _ _ _ (Fr_sI (Fr_sI hF hb13) hb16)
theorem nj_Mod_spoil_J35 {M0 : Mm} (x0 : Nat) (x1 : Int32) (x2 : Int32) (s0 : Int32) (M : Mm) (hS : Sm M0 M) : NJ M0 (Mod_spoil_J35 x0 x1 x2 s0 M) := by
  unfold Mod_spoil_J35
  refine NJ_ck ?_
  refine NJ_nn (fun b10 => ?_)
  refine NJ_ck ?_
  refine NJ_nn (fun b13 => ?_)
  refine NJ_ck ?_
  refine NJ_nn (fun b16 => ?_)
  refine NJ_ck ?_
  refine NJ_if ?_ ?_
  · exact NJ_leaf (Sm_sI (Sm_sI hS))
  · exact nj_Mod_spoil_L78 fu _ _ _ _ _ _ (Sm_sI (Sm_sI hS))
theorem fj_Mod_spoil {D : Nat → Prop} {M : Mm} (hC : Cl D M) (hT : Tp D M) (a0 : Nat) (h0 : D a0) (a1 : Int32) (a2 : Int32) : FJ D M (Mod_spoil M a0 a1 a2) := by
  unfold Mod_spoil
  refine FJ_ck ?_
  refine FJ_bd hT (Fr.rf hC) (fun gC gT => fj_Mod_isStore gC gT _ h0 _) (fun r2 M3 hFM3 => ?_)
  refine FJ_if ?_ ?_
  · exact FJ_leaf hFM3
  · refine FJ_bd hT hFM3 (fun gC gT => fj_Mod_in gC gT _ _ _) (fun r4 M5 hFM5 => ?_)
    refine FJ_if ?_ ?_
    · exact FJ_leaf hFM5
    · refine FJ_ck ?_
      refine FJ_bd hT hFM5 (fun gC gT => fj_Mod_asked gC gT _ h0 _) (fun r7 M8 hFM8 => ?_)
      refine FJ_if ?_ ?_
      · exact fj_Mod_spoil_J35 hT _ h0 _ _ _ _ hFM8
      · exact fj_Mod_spoil_J35 hT _ h0 _ _ _ _ hFM8
theorem nj_Mod_spoil (M : Mm) (a0 : Nat) (a1 : Int32) (a2 : Int32) : NJ M (Mod_spoil M a0 a1 a2) := by
  unfold Mod_spoil
  refine NJ_ck ?_
  refine NJ_bd Sm.rf (nj_Mod_isStore _ _ _) (fun r2 M3 hSM3 => ?_)
  refine NJ_if ?_ ?_
  · exact NJ_leaf hSM3
  · refine NJ_bd hSM3 (nj_Mod_in _ _ _ _) (fun r4 M5 hSM5 => ?_)
    refine NJ_if ?_ ?_
    · exact NJ_leaf hSM5
    · refine NJ_ck ?_
      refine NJ_bd hSM5 (nj_Mod_asked _ _ _) (fun r7 M8 hSM8 => ?_)
      refine NJ_if ?_ ?_
      · exact nj_Mod_spoil_J35 _ _ _ _ _ hSM8
      · exact nj_Mod_spoil_J35 _ _ _ _ _ hSM8
theorem fj_Mod_max {D : Nat → Prop} {M : Mm} (hC : Cl D M) (hT : Tp D M) (a0 : Int32) (a1 : Int32) : FJ D M (Mod_max M a0 a1) := by
  unfold Mod_max
  refine FJ_if ?_ ?_
  · exact FJ_leaf (Fr.rf hC)
  · exact FJ_leaf (Fr.rf hC)
theorem nj_Mod_max (M : Mm) (a0 : Int32) (a1 : Int32) : NJ M (Mod_max M a0 a1) := by
  unfold Mod_max
  refine NJ_if ?_ ?_
  · exact NJ_leaf Sm.rf
  · exact NJ_leaf Sm.rf
theorem fj_Mod_over_J68 {D : Nat → Prop} {M0 : Mm} (hT : Tp D M0) (k27 : Nat → Int32 → Int32 → Int32 → Int32 → Mm → Option (Int32 × Mm)) (hk27 : ∀ (x0 : Nat) (hx0 : D x0) (x1 : Int32) (x2 : Int32) (x3 : Int32) (x4 : Int32) (M : Mm) (hF : Fr D M0 M), FJ D M0 (k27 x0 x1 x2 x3 x4 M)) (x0 : Nat) (hx0 : D x0) (x1 : Int32) (x2 : Int32) (x3 : Int32) (x4 : Int32) (M : Mm) (hF : Fr D M0 M) : FJ D M0 (Mod_over_J68 k27 x0 x1 x2 x3 x4 M) := by
  unfold Mod_over_J68
  exact hk27 _ hx0 _ _ _ _ _ hF
theorem nj_Mod_over_J68 {M0 : Mm} (k27 : Nat → Int32 → Int32 → Int32 → Int32 → Mm → Option (Int32 × Mm)) (hk27 : ∀ (x0 : Nat) (x1 : Int32) (x2 : Int32) (x3 : Int32) (x4 : Int32) (M : Mm) (hS : Sm M0 M), NJ M0 (k27 x0 x1 x2 x3 x4 M)) (x0 : Nat) (x1 : Int32) (x2 : Int32) (x3 : Int32) (x4 : Int32) (M : Mm) (hS : Sm M0 M) : NJ M0 (Mod_over_J68 k27 x0 x1 x2 x3 x4 M) := by
  unfold Mod_over_J68
  exact hk27 _ _ _ _ _ _ hS
theorem fj_Mod_over_B27 {D : Nat → Prop} {M0 : Mm} (hT : Tp D M0) (k27 : Nat → Int32 → Int32 → Int32 → Int32 → Mm → Option (Int32 × Mm)) (hk27 : ∀ (x0 : Nat) (hx0 : D x0) (x1 : Int32) (x2 : Int32) (x3 : Int32) (x4 : Int32) (M : Mm) (hF : Fr D M0 M), FJ D M0 (k27 x0 x1 x2 x3 x4 M)) (x0 : Nat) (hx0 : D x0) (x1 : Int32) (x2 : Int32) (x3 : Int32) (x4 : Int32) (M : Mm) (hF : Fr D M0 M) : FJ D M0 (Mod_over_B27 k27 x0 x1 x2 x3 x4 M) := by
  unfold Mod_over_B27
  refine FJ_ck ?_
  refine FJ_if ?_ ?_
  · refine FJ_nn hF hx0 (fun b8 hb8 => ?_)
    refine FJ_ck ?_
    refine FJ_nn hF hx0 (fun b10 hb10 => ?_)
    refine FJ_ck ?_
    refine FJ_nn hF hx0 (fun b12 hb12 => ?_)
    refine FJ_ck ?_
    refine FJ_bd hT hF (fun gC gT => fj_Mod_max gC gT _ _) (fun r14 M15 hFM15 => ?_)
    exact FJ_leaf hFM15
  · refine FJ_nn hF hx0 (fun b16 hb16 => ?_)
    refine FJ_ck ?_
    refine FJ_if ?_ ?_
    · refine FJ_nn hF hx0 (fun b19 hb19 => ?_)
      refine FJ_ck ?_
      refine FJ_if ?_ ?_
      · exact fj_Mod_over_J68 hT k27 hk27 _ hx0 _ _ _ _ _ hF
      · refine FJ_nn hF hx0 (fun b21 hb21 => ?_)
        refine FJ_ck ?_
        exact fj_Mod_over_J68 hT k27 hk27 _ hx0 _ _ _ _ _ hF
    · exact fj_Mod_over_J68 hT k27 hk27 _ hx0 _ _ _ _ _ hF
theorem nj_Mod_over_B27 {M0 : Mm} (k27 : Nat → Int32 → Int32 → Int32 → Int32 → Mm → Option (Int32 × Mm)) (hk27 : ∀ (x0 : Nat) (x1 : Int32) (x2 : Int32) (x3 : Int32) (x4 : Int32) (M : Mm) (hS : Sm M0 M), NJ M0 (k27 x0 x1 x2 x3 x4 M)) (x0 : Nat) (x1 : Int32) (x2 : Int32) (x3 : Int32) (x4 : Int32) (M : Mm) (hS : Sm M0 M) : NJ M0 (Mod_over_B27 k27 x0 x1 x2 x3 x4 M) := by
  unfold Mod_over_B27
  refine NJ_ck ?_
  refine NJ_if ?_ ?_
  · refine NJ_nn (fun b8 => ?_)
    refine NJ_ck ?_
    refine NJ_nn (fun b10 => ?_)
    refine NJ_ck ?_
    refine NJ_nn (fun b12 => ?_)
    refine NJ_ck ?_
    refine NJ_bd hS (nj_Mod_max _ _ _) (fun r14 M15 hSM15 => ?_)
    exact NJ_leaf hSM15
  · refine NJ_nn (fun b16 => ?_)
    refine NJ_ck ?_
    refine NJ_if ?_ ?_
    · refine NJ_nn (fun b19 => ?_)
      refine NJ_ck ?_
      refine NJ_if ?_ ?_
      · exact nj_Mod_over_J68 k27 hk27 _ _ _ _ _ _ hS
      · refine NJ_nn (fun b21 => ?_)
        refine NJ_ck ?_
        exact nj_Mod_over_J68 k27 hk27 _ _ _ _ _ _ hS
    · exact nj_Mod_over_J68 k27 hk27 _ _ _ _ _ _ hS
theorem fj_Mod_over_L27 {D : Nat → Prop} {M0 : Mm} (hT : Tp D M0) : ∀ (n : Nat) (x0 : Nat) (hx0 : D x0) (x1 : Int32) (x2 : Int32) (x3 : Int32) (x4 : Int32) (M : Mm) (hF : Fr D M0 M), FJ D M0 (Mod_over_L27 n x0 x1 x2 x3 x4 M) := by
  intro n
  induction n with
  | zero => intros; exact FJ_none
  | succ n ih => intro x0 hx0 x1 x2 x3 x4 M hF; exact fj_Mod_over_B27 hT _ ih x0 hx0 x1 x2 x3 x4 M hF
theorem nj_Mod_over_L27 {M0 : Mm} : ∀ (n : Nat) (x0 : Nat) (x1 : Int32) (x2 : Int32) (x3 : Int32) (x4 : Int32) (M : Mm) (hS : Sm M0 M), NJ M0 (Mod_over_L27 n x0 x1 x2 x3 x4 M) := by
  intro n
  induction n with
  | zero => intros; exact NJ_none
  | succ n ih => intro x0 x1 x2 x3 x4 M hS; exact nj_Mod_over_B27 _ ih x0 x1 x2 x3 x4 M hS
theorem fj_Mod_over {D : Nat → Prop} {M : Mm} (hC : Cl D M) (hT : Tp D M) (a0 : Nat) (h0 : D a0) (a1 : Int32) (a2 : Int32) : FJ D M (Mod_over M a0 a1 a2) := by
  unfold Mod_over
  refine FJ_ck ?_
  refine FJ_bd hT (Fr.rf hC) (fun gC gT => fj_Mod_isStore gC gT _ h0 _) (fun r2 M3 hFM3 => ?_)
  refine FJ_if ?_ ?_
  · exact FJ_leaf hFM3
  · refine FJ_ck ?_
    refine FJ_bd hT hFM3 (fun gC gT => fj_Mod_in gC gT _ _ _) (fun r5 M6 hFM6 => ?_)
    refine FJ_if ?_ ?_
    · exact FJ_leaf hFM6
    · exact fj_Mod_over_L27 hT fu _ h0 _ _ _ _ _ hFM6
theorem nj_Mod_over (M : Mm) (a0 : Nat) (a1 : Int32) (a2 : Int32) : NJ M (Mod_over M a0 a1 a2) := by
  unfold Mod_over
  refine NJ_ck ?_
  refine NJ_bd Sm.rf (nj_Mod_isStore _ _ _) (fun r2 M3 hSM3 => ?_)
  refine NJ_if ?_ ?_
  · exact NJ_leaf hSM3
  · refine NJ_ck ?_
    refine NJ_bd hSM3 (nj_Mod_in _ _ _ _) (fun r5 M6 hSM6 => ?_)
    refine NJ_if ?_ ?_
    · exact NJ_leaf hSM6
    · exact nj_Mod_over_L27 fu _ _ _ _ _ _ hSM6
theorem fj_Mod_firstWait_J31 {D : Nat → Prop} {M0 : Mm} (hT : Tp D M0) (k2 : Nat → Int32 → Int32 → Mm → Option (Int32 × Mm)) (hk2 : ∀ (x0 : Nat) (hx0 : D x0) (x1 : Int32) (x2 : Int32) (M : Mm) (hF : Fr D M0 M), FJ D M0 (k2 x0 x1 x2 M)) (x0 : Nat) (hx0 : D x0) (x1 : Int32) (x2 : Int32) (M : Mm) (hF : Fr D M0 M) : FJ D M0 (Mod_firstWait_J31 k2 x0 x1 x2 M) := by
  unfold Mod_firstWait_J31
  exact hk2 _ hx0 _ _ _ hF
theorem nj_Mod_firstWait_J31 {M0 : Mm} (k2 : Nat → Int32 → Int32 → Mm → Option (Int32 × Mm)) (hk2 : ∀ (x0 : Nat) (x1 : Int32) (x2 : Int32) (M : Mm) (hS : Sm M0 M), NJ M0 (k2 x0 x1 x2 M)) (x0 : Nat) (x1 : Int32) (x2 : Int32) (M : Mm) (hS : Sm M0 M) : NJ M0 (Mod_firstWait_J31 k2 x0 x1 x2 M) := by
  unfold Mod_firstWait_J31
  exact hk2 _ _ _ _ hS
theorem fj_Mod_firstWait_B2 {D : Nat → Prop} {M0 : Mm} (hT : Tp D M0) (k2 : Nat → Int32 → Int32 → Mm → Option (Int32 × Mm)) (hk2 : ∀ (x0 : Nat) (hx0 : D x0) (x1 : Int32) (x2 : Int32) (M : Mm) (hF : Fr D M0 M), FJ D M0 (k2 x0 x1 x2 M)) (x0 : Nat) (hx0 : D x0) (x1 : Int32) (x2 : Int32) (M : Mm) (hF : Fr D M0 M) : FJ D M0 (Mod_firstWait_B2 k2 x0 x1 x2 M) := by
  unfold Mod_firstWait_B2
  refine FJ_ck ?_
  refine FJ_if ?_ ?_
  · exact FJ_leaf hF
  · refine FJ_nn hF hx0 (fun b2 hb2 => ?_)
    refine FJ_ck ?_
    refine FJ_if ?_ ?_
    · refine FJ_nn hF hx0 (fun b5 hb5 => ?_)
      refine FJ_ck ?_
      refine FJ_if ?_ ?_
      · exact fj_Mod_firstWait_J31 hT k2 hk2 _ hx0 _ _ _ hF
      · exact FJ_leaf hF
    · exact fj_Mod_firstWait_J31 hT k2 hk2 _ hx0 _ _ _ hF
theorem nj_Mod_firstWait_B2 {M0 : Mm} (k2 : Nat → Int32 → Int32 → Mm → Option (Int32 × Mm)) (hk2 : ∀ (x0 : Nat) (x1 : Int32) (x2 : Int32) (M : Mm) (hS : Sm M0 M), NJ M0 (k2 x0 x1 x2 M)) (x0 : Nat) (x1 : Int32) (x2 : Int32) (M : Mm) (hS : Sm M0 M) : NJ M0 (Mod_firstWait_B2 k2 x0 x1 x2 M) := by
  unfold Mod_firstWait_B2
  refine NJ_ck ?_
  refine NJ_if ?_ ?_
  · exact NJ_leaf hS
  · refine NJ_nn (fun b2 => ?_)
    refine NJ_ck ?_
    refine NJ_if ?_ ?_
    · refine NJ_nn (fun b5 => ?_)
      refine NJ_ck ?_
      refine NJ_if ?_ ?_
      · exact nj_Mod_firstWait_J31 k2 hk2 _ _ _ _ hS
      · exact NJ_leaf hS
    · exact nj_Mod_firstWait_J31 k2 hk2 _ _ _ _ hS
theorem fj_Mod_firstWait_L2 {D : Nat → Prop} {M0 : Mm} (hT : Tp D M0) : ∀ (n : Nat) (x0 : Nat) (hx0 : D x0) (x1 : Int32) (x2 : Int32) (M : Mm) (hF : Fr D M0 M), FJ D M0 (Mod_firstWait_L2 n x0 x1 x2 M) := by
  intro n
  induction n with
  | zero => intros; exact FJ_none
  | succ n ih => intro x0 hx0 x1 x2 M hF; exact fj_Mod_firstWait_B2 hT _ ih x0 hx0 x1 x2 M hF
theorem nj_Mod_firstWait_L2 {M0 : Mm} : ∀ (n : Nat) (x0 : Nat) (x1 : Int32) (x2 : Int32) (M : Mm) (hS : Sm M0 M), NJ M0 (Mod_firstWait_L2 n x0 x1 x2 M) := by
  intro n
  induction n with
  | zero => intros; exact NJ_none
  | succ n ih => intro x0 x1 x2 M hS; exact nj_Mod_firstWait_B2 _ ih x0 x1 x2 M hS
theorem fj_Mod_firstWait {D : Nat → Prop} {M : Mm} (hC : Cl D M) (hT : Tp D M) (a0 : Nat) (h0 : D a0) (a1 : Int32) : FJ D M (Mod_firstWait M a0 a1) := by
  unfold Mod_firstWait
  exact fj_Mod_firstWait_L2 hT fu _ h0 _ _ _ (Fr.rf hC)
theorem nj_Mod_firstWait (M : Mm) (a0 : Nat) (a1 : Int32) : NJ M (Mod_firstWait M a0 a1) := by
  unfold Mod_firstWait
  exact nj_Mod_firstWait_L2 fu _ _ _ _ Sm.rf
theorem fj_Mod_shareOf {D : Nat → Prop} {M : Mm} (hC : Cl D M) (hT : Tp D M) (a0 : Nat) (h0 : D a0) (a1 : Int32) : FJ D M (Mod_shareOf M a0 a1) := by
  unfold Mod_shareOf
  refine FJ_ck ?_
  refine FJ_bd hT (Fr.rf hC) (fun gC gT => fj_Mod_outOf gC gT _ h0 _) (fun r2 M3 hFM3 => ?_)
  refine FJ_if ?_ ?_
  · exact FJ_leaf hFM3
  · refine FJ_ck ?_
    refine FJ_nn hFM3 h0 (fun b5 hb5 => ?_)
    refine FJ_ck ?_
    refine FJ_bd hT hFM3 (fun gC gT => fj_Mod_outOf gC gT _ h0 _) (fun r7 M8 hFM8 => ?_)
    refine FJ_ck ?_
    refine FJ_bd hT hFM8 (fun gC gT => fj_Mod_min gC gT _ _) (fun r10 M11 hFM11 => ?_)
    exact FJ_leaf hFM11
theorem nj_Mod_shareOf (M : Mm) (a0 : Nat) (a1 : Int32) : NJ M (Mod_shareOf M a0 a1) := by
  unfold Mod_shareOf
  refine NJ_ck ?_
  refine NJ_bd Sm.rf (nj_Mod_outOf _ _ _) (fun r2 M3 hSM3 => ?_)
  refine NJ_if ?_ ?_
  · exact NJ_leaf hSM3
  · refine NJ_ck ?_
    refine NJ_nn (fun b5 => ?_)
    refine NJ_ck ?_
    refine NJ_bd hSM3 (nj_Mod_outOf _ _ _) (fun r7 M8 hSM8 => ?_)
    refine NJ_ck ?_
    refine NJ_bd hSM8 (nj_Mod_min _ _ _) (fun r10 M11 hSM11 => ?_)
    exact NJ_leaf hSM11
theorem fj_Mod_storeOf_J115 {D : Nat → Prop} {M0 : Mm} (hT : Tp D M0) (k83 : Nat → Int32 → Int32 → Int32 → Mm → Option (Int32 × Mm)) (hk83 : ∀ (x0 : Nat) (hx0 : D x0) (x1 : Int32) (x4 : Int32) (x5 : Int32) (M : Mm) (hF : Fr D M0 M), FJ D M0 (k83 x0 x1 x4 x5 M)) (x0 : Nat) (hx0 : D x0) (x1 : Int32) (x4 : Int32) (x5 : Int32) (M : Mm) (hF : Fr D M0 M) : FJ D M0 (Mod_storeOf_J115 k83 x0 x1 x4 x5 M) := by
  unfold Mod_storeOf_J115
  exact hk83 _ hx0 _ _ _ _ hF
theorem nj_Mod_storeOf_J115 {M0 : Mm} (k83 : Nat → Int32 → Int32 → Int32 → Mm → Option (Int32 × Mm)) (hk83 : ∀ (x0 : Nat) (x1 : Int32) (x4 : Int32) (x5 : Int32) (M : Mm) (hS : Sm M0 M), NJ M0 (k83 x0 x1 x4 x5 M)) (x0 : Nat) (x1 : Int32) (x4 : Int32) (x5 : Int32) (M : Mm) (hS : Sm M0 M) : NJ M0 (Mod_storeOf_J115 k83 x0 x1 x4 x5 M) := by
  unfold Mod_storeOf_J115
  exact hk83 _ _ _ _ _ hS
theorem fj_Mod_storeOf_B83 {D : Nat → Prop} {M0 : Mm} (hT : Tp D M0) (k83 : Nat → Int32 → Int32 → Int32 → Mm → Option (Int32 × Mm)) (hk83 : ∀ (x0 : Nat) (hx0 : D x0) (x1 : Int32) (x4 : Int32) (x5 : Int32) (M : Mm) (hF : Fr D M0 M), FJ D M0 (k83 x0 x1 x4 x5 M)) (x0 : Nat) (hx0 : D x0) (x1 : Int32) (x4 : Int32) (x5 : Int32) (M : Mm) (hF : Fr D M0 M) : FJ D M0 (Mod_storeOf_B83 k83 x0 x1 x4 x5 M) := by
  unfold Mod_storeOf_B83
  refine FJ_ck ?_
  refine FJ_if ?_ ?_
  · exact FJ_leaf hF
  · refine FJ_nn hF hx0 (fun b14 hb14 => ?_)
    refine FJ_ck ?_
    refine FJ_if ?_ ?_
    · refine FJ_nn hF hx0 (fun b17 hb17 => ?_)
      refine FJ_ck ?_
      exact fj_Mod_storeOf_J115 hT k83 hk83 _ hx0 _ _ _ _ hF
    · exact fj_Mod_storeOf_J115 hT k83 hk83 _ hx0 _ _ _ _ hF
theorem nj_Mod_storeOf_B83 {M0 : Mm} (k83 : Nat → Int32 → Int32 → Int32 → Mm → Option (Int32 × Mm)) (hk83 : ∀ (x0 : Nat) (x1 : Int32) (x4 : Int32) (x5 : Int32) (M : Mm) (hS : Sm M0 M), NJ M0 (k83 x0 x1 x4 x5 M)) (x0 : Nat) (x1 : Int32) (x4 : Int32) (x5 : Int32) (M : Mm) (hS : Sm M0 M) : NJ M0 (Mod_storeOf_B83 k83 x0 x1 x4 x5 M) := by
  unfold Mod_storeOf_B83
  refine NJ_ck ?_
  refine NJ_if ?_ ?_
  · exact NJ_leaf hS
  · refine NJ_nn (fun b14 => ?_)
    refine NJ_ck ?_
    refine NJ_if ?_ ?_
    · refine NJ_nn (fun b17 => ?_)
      refine NJ_ck ?_
      exact nj_Mod_storeOf_J115 k83 hk83 _ _ _ _ _ hS
    · exact nj_Mod_storeOf_J115 k83 hk83 _ _ _ _ _ hS
theorem fj_Mod_storeOf_L83 {D : Nat → Prop} {M0 : Mm} (hT : Tp D M0) : ∀ (n : Nat) (x0 : Nat) (hx0 : D x0) (x1 : Int32) (x4 : Int32) (x5 : Int32) (M : Mm) (hF : Fr D M0 M), FJ D M0 (Mod_storeOf_L83 n x0 x1 x4 x5 M) := by
  intro n
  induction n with
  | zero => intros; exact FJ_none
  | succ n ih => intro x0 hx0 x1 x4 x5 M hF; exact fj_Mod_storeOf_B83 hT _ ih x0 hx0 x1 x4 x5 M hF
theorem nj_Mod_storeOf_L83 {M0 : Mm} : ∀ (n : Nat) (x0 : Nat) (x1 : Int32) (x4 : Int32) (x5 : Int32) (M : Mm) (hS : Sm M0 M), NJ M0 (Mod_storeOf_L83 n x0 x1 x4 x5 M) := by
  intro n
  induction n with
  | zero => intros; exact NJ_none
  | succ n ih => intro x0 x1 x4 x5 M hS; exact nj_Mod_storeOf_B83 _ ih x0 x1 x4 x5 M hS
theorem fj_Mod_storeOf {D : Nat → Prop} {M : Mm} (hC : Cl D M) (hT : Tp D M) (a0 : Nat) (h0 : D a0) (a1 : Int32) (a2 : Int32) : FJ D M (Mod_storeOf M a0 a1 a2) := by
  unfold Mod_storeOf
  refine FJ_ck ?_
  refine FJ_bd hT (Fr.rf hC) (fun gC gT => fj_Mod_isStore gC gT _ h0 _) (fun r2 M3 hFM3 => ?_)
  refine FJ_if ?_ ?_
  · exact FJ_leaf hFM3
  · refine FJ_ck ?_
    refine FJ_bd hT hFM3 (fun gC gT => fj_Mod_firstWait gC gT _ h0 _) (fun r5 M6 hFM6 => ?_)
    refine FJ_if ?_ ?_
    · refine FJ_ck ?_
      refine FJ_nn hFM6 h0 (fun b8 hb8 => ?_)
      refine FJ_ck ?_
      exact FJ_leaf hFM6
    · refine FJ_if ?_ ?_
      · refine FJ_ck ?_
        refine FJ_bd hT hFM6 (fun gC gT => fj_Mod_outOf gC gT _ h0 _) (fun r11 M12 hFM12 => ?_)
        exact FJ_leaf hFM12
      · refine FJ_if ?_ ?_
        · exact fj_Mod_storeOf_L83 hT fu _ h0 _ _ _ _ hFM6
        · refine FJ_if ?_ ?_
          · refine FJ_ck ?_
            refine FJ_nn hFM6 h0 (fun b21 hb21 => ?_)
            refine FJ_ck ?_
            exact FJ_leaf hFM6
          · refine FJ_if ?_ ?_
            · refine FJ_ck ?_
              refine FJ_nn hFM6 h0 (fun b24 hb24 => ?_)
              refine FJ_ck ?_
              exact FJ_leaf hFM6
            · refine FJ_if ?_ ?_
              · refine FJ_if ?_ ?_
                · exact FJ_leaf hFM6
                · refine FJ_ck ?_
                  refine FJ_nn hFM6 h0 (fun b27 hb27 => ?_)
                  refine FJ_ck ?_
                  refine FJ_if ?_ ?_
                  · exact FJ_leaf hFM6
                  · exact FJ_leaf hFM6
              · refine FJ_if ?_ ?_
                · refine FJ_if ?_ ?_
                  · refine FJ_ck ?_
                    refine FJ_nn hFM6 h0 (fun b30 hb30 => ?_)
                    refine FJ_ck ?_
                    exact FJ_leaf hFM6
                  · exact FJ_leaf hFM6
                · refine FJ_if ?_ ?_
                  · refine FJ_ck ?_
                    refine FJ_bd hT hFM6 (fun gC gT => fj_Mod_shareOf gC gT _ h0 _) (fun r33 M34 hFM34 => ?_)
                    exact FJ_leaf hFM34
                  · exact FJ_leaf hFM6
theorem nj_Mod_storeOf (M : Mm) (a0 : Nat) (a1 : Int32) (a2 : Int32) : NJ M (Mod_storeOf M a0 a1 a2) := by
  unfold Mod_storeOf
  refine NJ_ck ?_
  refine NJ_bd Sm.rf (nj_Mod_isStore _ _ _) (fun r2 M3 hSM3 => ?_)
  refine NJ_if ?_ ?_
  · exact NJ_leaf hSM3
  · refine NJ_ck ?_
    refine NJ_bd hSM3 (nj_Mod_firstWait _ _ _) (fun r5 M6 hSM6 => ?_)
    refine NJ_if ?_ ?_
    · refine NJ_ck ?_
      refine NJ_nn (fun b8 => ?_)
      refine NJ_ck ?_
      exact NJ_leaf hSM6
    · refine NJ_if ?_ ?_
      · refine NJ_ck ?_
        refine NJ_bd hSM6 (nj_Mod_outOf _ _ _) (fun r11 M12 hSM12 => ?_)
        exact NJ_leaf hSM12
      · refine NJ_if ?_ ?_
        · exact nj_Mod_storeOf_L83 fu _ _ _ _ _ hSM6
        · refine NJ_if ?_ ?_
          · refine NJ_ck ?_
            refine NJ_nn (fun b21 => ?_)
            refine NJ_ck ?_
            exact NJ_leaf hSM6
          · refine NJ_if ?_ ?_
            · refine NJ_ck ?_
              refine NJ_nn (fun b24 => ?_)
              refine NJ_ck ?_
              exact NJ_leaf hSM6
            · refine NJ_if ?_ ?_
              · refine NJ_if ?_ ?_
                · exact NJ_leaf hSM6
                · refine NJ_ck ?_
                  refine NJ_nn (fun b27 => ?_)
                  refine NJ_ck ?_
                  refine NJ_if ?_ ?_
                  · exact NJ_leaf hSM6
                  · exact NJ_leaf hSM6
              · refine NJ_if ?_ ?_
                · refine NJ_if ?_ ?_
                  · refine NJ_ck ?_
                    refine NJ_nn (fun b30 => ?_)
                    refine NJ_ck ?_
                    exact NJ_leaf hSM6
                  · exact NJ_leaf hSM6
                · refine NJ_if ?_ ?_
                  · refine NJ_ck ?_
                    refine NJ_bd hSM6 (nj_Mod_shareOf _ _ _) (fun r33 M34 hSM34 => ?_)
                    exact NJ_leaf hSM34
                  · exact NJ_leaf hSM6
theorem fj_Mod_abs {D : Nat → Prop} {M : Mm} (hC : Cl D M) (hT : Tp D M) (a0 : Int32) : FJ D M (Mod_abs M a0) := by
  unfold Mod_abs
  refine FJ_if ?_ ?_
  · exact FJ_leaf (Fr.rf hC)
  · exact FJ_leaf (Fr.rf hC)
theorem nj_Mod_abs (M : Mm) (a0 : Int32) : NJ M (Mod_abs M a0) := by
  unfold Mod_abs
  refine NJ_if ?_ ?_
  · exact NJ_leaf Sm.rf
  · exact NJ_leaf Sm.rf
theorem fj_Mod_needOf {D : Nat → Prop} {M : Mm} (hC : Cl D M) (hT : Tp D M) (a0 : Nat) (h0 : D a0) (a1 : Int32) : FJ D M (Mod_needOf M a0 a1) := by
  unfold Mod_needOf
  refine FJ_ck ?_
  refine FJ_bd hT (Fr.rf hC) (fun gC gT => fj_Mod_asked gC gT _ h0 _) (fun r2 M3 hFM3 => ?_)
  refine FJ_ck ?_
  refine FJ_nn hFM3 h0 (fun b5 hb5 => ?_)
  refine FJ_ck ?_
  refine FJ_bd hT hFM3 (fun gC gT => fj_Mod_abs gC gT _) (fun r7 M8 hFM8 => ?_)
  exact FJ_leaf hFM8
theorem nj_Mod_needOf (M : Mm) (a0 : Nat) (a1 : Int32) : NJ M (Mod_needOf M a0 a1) := by
  unfold Mod_needOf
  refine NJ_ck ?_
  refine NJ_bd Sm.rf (nj_Mod_asked _ _ _) (fun r2 M3 hSM3 => ?_)
  refine NJ_ck ?_
  refine NJ_nn (fun b5 => ?_)
  refine NJ_ck ?_
  refine NJ_bd hSM3 (nj_Mod_abs _ _) (fun r7 M8 hSM8 => ?_)
  exact NJ_leaf hSM8
theorem fj_Mod_told {D : Nat → Prop} {M : Mm} (hC : Cl D M) (hT : Tp D M) (a0 : Nat) (h0 : D a0) (a1 : Int32) (a2 : Int32) : FJ D M (Mod_told M a0 a1 a2) := by
  unfold Mod_told
  refine FJ_ck ?_
  refine FJ_bd hT (Fr.rf hC) (fun gC gT => fj_Mod_isPerson gC gT _ h0 _) (fun r2 M3 hFM3 => ?_)
  refine FJ_if ?_ ?_
  · exact FJ_leaf hFM3
  · refine FJ_if ?_ ?_
    · refine FJ_ck ?_
      refine FJ_nn hFM3 h0 (fun b5 hb5 => ?_)
      refine FJ_ck ?_
      exact FJ_leaf hFM3
    · refine FJ_if ?_ ?_
      · refine FJ_ck ?_
        refine FJ_nn hFM3 h0 (fun b8 hb8 => ?_)
        refine FJ_ck ?_
        exact FJ_leaf hFM3
      · refine FJ_if ?_ ?_
        · refine FJ_ck ?_
          refine FJ_nn hFM3 h0 (fun b11 hb11 => ?_)
          refine FJ_ck ?_
          exact FJ_leaf hFM3
        · refine FJ_if ?_ ?_
          · refine FJ_ck ?_
            refine FJ_nn hFM3 h0 (fun b14 hb14 => ?_)
            refine FJ_ck ?_
            exact FJ_leaf hFM3
          · refine FJ_if ?_ ?_
            · refine FJ_ck ?_
              refine FJ_nn hFM3 h0 (fun b17 hb17 => ?_)
              refine FJ_ck ?_
              exact FJ_leaf hFM3
            · refine FJ_if ?_ ?_
              · refine FJ_ck ?_
                refine FJ_nn hFM3 h0 (fun b20 hb20 => ?_)
                refine FJ_ck ?_
                exact FJ_leaf hFM3
              · refine FJ_if ?_ ?_
                · refine FJ_ck ?_
                  refine FJ_bd hT hFM3 (fun gC gT => fj_Mod_needOf gC gT _ h0 _) (fun r23 M24 hFM24 => ?_)
                  refine FJ_if ?_ ?_
                  · refine FJ_ck ?_
                    refine FJ_bd hT hFM24 (fun gC gT => fj_Mod_needOf gC gT _ h0 _) (fun r26 M27 hFM27 => ?_)
                    exact FJ_leaf hFM27
                  · exact FJ_leaf hFM24
                · refine FJ_if ?_ ?_
                  · exact FJ_leaf hFM3
                  · refine FJ_ck ?_
                    refine FJ_if ?_ ?_
                    · exact FJ_leaf hFM3
                    · refine FJ_nn hFM3 h0 (fun b29 hb29 => ?_)
                      refine FJ_ck ?_
                      exact FJ_leaf hFM3
theorem nj_Mod_told (M : Mm) (a0 : Nat) (a1 : Int32) (a2 : Int32) : NJ M (Mod_told M a0 a1 a2) := by
  unfold Mod_told
  refine NJ_ck ?_
  refine NJ_bd Sm.rf (nj_Mod_isPerson _ _ _) (fun r2 M3 hSM3 => ?_)
  refine NJ_if ?_ ?_
  · exact NJ_leaf hSM3
  · refine NJ_if ?_ ?_
    · refine NJ_ck ?_
      refine NJ_nn (fun b5 => ?_)
      refine NJ_ck ?_
      exact NJ_leaf hSM3
    · refine NJ_if ?_ ?_
      · refine NJ_ck ?_
        refine NJ_nn (fun b8 => ?_)
        refine NJ_ck ?_
        exact NJ_leaf hSM3
      · refine NJ_if ?_ ?_
        · refine NJ_ck ?_
          refine NJ_nn (fun b11 => ?_)
          refine NJ_ck ?_
          exact NJ_leaf hSM3
        · refine NJ_if ?_ ?_
          · refine NJ_ck ?_
            refine NJ_nn (fun b14 => ?_)
            refine NJ_ck ?_
            exact NJ_leaf hSM3
          · refine NJ_if ?_ ?_
            · refine NJ_ck ?_
              refine NJ_nn (fun b17 => ?_)
              refine NJ_ck ?_
              exact NJ_leaf hSM3
            · refine NJ_if ?_ ?_
              · refine NJ_ck ?_
                refine NJ_nn (fun b20 => ?_)
                refine NJ_ck ?_
                exact NJ_leaf hSM3
              · refine NJ_if ?_ ?_
                · refine NJ_ck ?_
                  refine NJ_bd hSM3 (nj_Mod_needOf _ _ _) (fun r23 M24 hSM24 => ?_)
                  refine NJ_if ?_ ?_
                  · refine NJ_ck ?_
                    refine NJ_bd hSM24 (nj_Mod_needOf _ _ _) (fun r26 M27 hSM27 => ?_)
                    exact NJ_leaf hSM27
                  · exact NJ_leaf hSM24
                · refine NJ_if ?_ ?_
                  · exact NJ_leaf hSM3
                  · refine NJ_ck ?_
                    refine NJ_if ?_ ?_
                    · exact NJ_leaf hSM3
                    · refine NJ_nn (fun b29 => ?_)
                      refine NJ_ck ?_
                      exact NJ_leaf hSM3
theorem fj_Mod_coins {D : Nat → Prop} {M : Mm} (hC : Cl D M) (hT : Tp D M) (a0 : Nat) (h0 : D a0) (a1 : Int32) : FJ D M (Mod_coins M a0 a1) := by
  unfold Mod_coins
  refine FJ_if ?_ ?_
  · refine FJ_ck ?_
    exact FJ_leaf (Fr.rf hC)
  · refine FJ_ck ?_
    refine FJ_bd hT (Fr.rf hC) (fun gC gT => fj_Mod_isPerson gC gT _ h0 _) (fun r2 M3 hFM3 => ?_)
    refine FJ_if ?_ ?_
    · exact FJ_leaf hFM3
    · refine FJ_ck ?_
      refine FJ_nn hFM3 h0 (fun b5 hb5 => ?_)
      refine FJ_ck ?_
      exact FJ_leaf hFM3
theorem nj_Mod_coins (M : Mm) (a0 : Nat) (a1 : Int32) : NJ M (Mod_coins M a0 a1) := by
  unfold Mod_coins
  refine NJ_if ?_ ?_
  · refine NJ_ck ?_
    exact NJ_leaf Sm.rf
  · refine NJ_ck ?_
    refine NJ_bd Sm.rf (nj_Mod_isPerson _ _ _) (fun r2 M3 hSM3 => ?_)
    refine NJ_if ?_ ?_
    · exact NJ_leaf hSM3
    · refine NJ_ck ?_
      refine NJ_nn (fun b5 => ?_)
      refine NJ_ck ?_
      exact NJ_leaf hSM3
theorem fj_Mod_pay {D : Nat → Prop} {M : Mm} (hC : Cl D M) (hT : Tp D M) (a0 : Nat) (h0 : D a0) (a1 : Int32) (a2 : Int32) : FJ D M (Mod_pay M a0 a1 a2) := by
  unfold Mod_pay
  refine FJ_ck ?_
  refine FJ_bd hT (Fr.rf hC) (fun gC gT => fj_Mod_isPerson gC gT _ h0 _) (fun r2 M3 hFM3 => ?_)
  refine FJ_if ?_ ?_
  · exact FJ_leaf hFM3
  · refine FJ_bd hT hFM3 (fun gC gT => fj_Mod_in gC gT _ _ _) (fun r4 M5 hFM5 => ?_)
    refine FJ_if ?_ ?_
    · exact FJ_leaf hFM5
    · refine FJ_ck ?_
      refine FJ_nn hFM5 h0 (fun b7 hb7 => ?_)
      refine FJ_ck ?_
      exact FJ_leaf (Fr_sL (Fr_sL hFM5 hb7) h0)
theorem nj_Mod_pay (M : Mm) (a0 : Nat) (a1 : Int32) (a2 : Int32) : NJ M (Mod_pay M a0 a1 a2) := by
  unfold Mod_pay
  refine NJ_ck ?_
  refine NJ_bd Sm.rf (nj_Mod_isPerson _ _ _) (fun r2 M3 hSM3 => ?_)
  refine NJ_if ?_ ?_
  · exact NJ_leaf hSM3
  · refine NJ_bd hSM3 (nj_Mod_in _ _ _ _) (fun r4 M5 hSM5 => ?_)
    refine NJ_if ?_ ?_
    · exact NJ_leaf hSM5
    · refine NJ_ck ?_
      refine NJ_nn (fun b7 => ?_)
      refine NJ_ck ?_
      exact NJ_leaf (Sm_sL (Sm_sL hSM5))
theorem fj_Mod_draw {D : Nat → Prop} {M : Mm} (hC : Cl D M) (hT : Tp D M) (a0 : Nat) (h0 : D a0) (a1 : Int32) (a2 : Int32) : FJ D M (Mod_draw M a0 a1 a2) := by
  unfold Mod_draw
  refine FJ_ck ?_
  refine FJ_bd hT (Fr.rf hC) (fun gC gT => fj_Mod_isPerson gC gT _ h0 _) (fun r2 M3 hFM3 => ?_)
  refine FJ_if ?_ ?_
  · exact FJ_leaf hFM3
  · refine FJ_bd hT hFM3 (fun gC gT => fj_Mod_in gC gT _ _ _) (fun r4 M5 hFM5 => ?_)
    refine FJ_if ?_ ?_
    · exact FJ_leaf hFM5
    · refine FJ_ck ?_
      refine FJ_nn hFM5 h0 (fun b7 hb7 => ?_)
      refine FJ_ck ?_
      refine FJ_bd hT hFM5 (fun gC gT => fj_Mod_needOf gC gT _ h0 _) (fun r9 M10 hFM10 => ?_)
      refine FJ_if ?_ ?_
      · refine FJ_ck ?_
        refine FJ_nn hFM10 h0 (fun b12 hb12 => ?_)
        refine FJ_ck ?_
        exact FJ_leaf (Fr_sL (Fr_sL hFM10 hb12) h0)
      · exact FJ_leaf hFM10
theorem nj_Mod_draw (M : Mm) (a0 : Nat) (a1 : Int32) (a2 : Int32) : NJ M (Mod_draw M a0 a1 a2) := by
  unfold Mod_draw
  refine NJ_ck ?_
  refine NJ_bd Sm.rf (nj_Mod_isPerson _ _ _) (fun r2 M3 hSM3 => ?_)
  refine NJ_if ?_ ?_
  · exact NJ_leaf hSM3
  · refine NJ_bd hSM3 (nj_Mod_in _ _ _ _) (fun r4 M5 hSM5 => ?_)
    refine NJ_if ?_ ?_
    · exact NJ_leaf hSM5
    · refine NJ_ck ?_
      refine NJ_nn (fun b7 => ?_)
      refine NJ_ck ?_
      refine NJ_bd hSM5 (nj_Mod_needOf _ _ _) (fun r9 M10 hSM10 => ?_)
      refine NJ_if ?_ ?_
      · refine NJ_ck ?_
        refine NJ_nn (fun b12 => ?_)
        refine NJ_ck ?_
        exact NJ_leaf (Sm_sL (Sm_sL hSM10))
      · exact NJ_leaf hSM10
theorem fj_Mod_feed_J71 {D : Nat → Prop} {M0 : Mm} (hT : Tp D M0) (k18 : Nat → Int32 → Int32 → Int32 → Int32 → Int32 → Int32 → Mm → Option (Int32 × Mm)) (hk18 : ∀ (x0 : Nat) (hx0 : D x0) (x1 : Int32) (x2 : Int32) (x3 : Int32) (x4 : Int32) (x5 : Int32) (x6 : Int32) (M : Mm) (hF : Fr D M0 M), FJ D M0 (k18 x0 x1 x2 x3 x4 x5 x6 M)) (x0 : Nat) (hx0 : D x0) (x1 : Int32) (x2 : Int32) (x3 : Int32) (x4 : Int32) (x5 : Int32) (x6 : Int32) (s0 : Int32) (M : Mm) (hF : Fr D M0 M) : FJ D M0 (Mod_feed_J71 k18 x0 x1 x2 x3 x4 x5 x6 s0 M) := by
  unfold Mod_feed_J71
  refine FJ_ck ?_
  refine FJ_nn hF hx0 (fun b4 hb4 => ?_)
  refine FJ_ck ?_
  exact hk18 _ hx0 _ _ _ _ _ _ _ (Fr_sI (Fr_sI hF hb4) hx0)
theorem nj_Mod_feed_J71 {M0 : Mm} (k18 : Nat → Int32 → Int32 → Int32 → Int32 → Int32 → Int32 → Mm → Option (Int32 × Mm)) (hk18 : ∀ (x0 : Nat) (x1 : Int32) (x2 : Int32) (x3 : Int32) (x4 : Int32) (x5 : Int32) (x6 : Int32) (M : Mm) (hS : Sm M0 M), NJ M0 (k18 x0 x1 x2 x3 x4 x5 x6 M)) (x0 : Nat) (x1 : Int32) (x2 : Int32) (x3 : Int32) (x4 : Int32) (x5 : Int32) (x6 : Int32) (s0 : Int32) (M : Mm) (hS : Sm M0 M) : NJ M0 (Mod_feed_J71 k18 x0 x1 x2 x3 x4 x5 x6 s0 M) := by
  unfold Mod_feed_J71
  refine NJ_ck ?_
  refine NJ_nn (fun b4 => ?_)
  refine NJ_ck ?_
  exact hk18 _ _ _ _ _ _ _ _ (Sm_sI (Sm_sI hS))
theorem fj_Mod_feed_B18 {D : Nat → Prop} {M0 : Mm} (hT : Tp D M0) (k18 : Nat → Int32 → Int32 → Int32 → Int32 → Int32 → Int32 → Mm → Option (Int32 × Mm)) (hk18 : ∀ (x0 : Nat) (hx0 : D x0) (x1 : Int32) (x2 : Int32) (x3 : Int32) (x4 : Int32) (x5 : Int32) (x6 : Int32) (M : Mm) (hF : Fr D M0 M), FJ D M0 (k18 x0 x1 x2 x3 x4 x5 x6 M)) (x0 : Nat) (hx0 : D x0) (x1 : Int32) (x2 : Int32) (x3 : Int32) (x4 : Int32) (x5 : Int32) (x6 : Int32) (M : Mm) (hF : Fr D M0 M) : FJ D M0 (Mod_feed_B18 k18 x0 x1 x2 x3 x4 x5 x6 M) := by
  unfold Mod_feed_B18
  refine FJ_if ?_ ?_
  · refine FJ_ck ?_
    exact FJ_leaf hF
  · refine FJ_if ?_ ?_
    · refine FJ_if ?_ ?_
      · refine FJ_if ?_ ?_
        · refine FJ_if ?_ ?_
          · exact fj_Mod_feed_J71 hT k18 hk18 _ hx0 _ _ _ _ _ _ _ _ hF
          · exact fj_Mod_feed_J71 hT k18 hk18 _ hx0 _ _ _ _ _ _ _ _ hF
        · exact fj_Mod_feed_J71 hT k18 hk18 _ hx0 _ _ _ _ _ _ _ _ hF
      · exact fj_Mod_feed_J71 hT k18 hk18 _ hx0 _ _ _ _ _ _ _ _ hF
    · exact fj_Mod_feed_J71 hT k18 hk18 _ hx0 _ _ _ _ _ _ _ _ hF
theorem nj_Mod_feed_B18 {M0 : Mm} (k18 : Nat → Int32 → Int32 → Int32 → Int32 → Int32 → Int32 → Mm → Option (Int32 × Mm)) (hk18 : ∀ (x0 : Nat) (x1 : Int32) (x2 : Int32) (x3 : Int32) (x4 : Int32) (x5 : Int32) (x6 : Int32) (M : Mm) (hS : Sm M0 M), NJ M0 (k18 x0 x1 x2 x3 x4 x5 x6 M)) (x0 : Nat) (x1 : Int32) (x2 : Int32) (x3 : Int32) (x4 : Int32) (x5 : Int32) (x6 : Int32) (M : Mm) (hS : Sm M0 M) : NJ M0 (Mod_feed_B18 k18 x0 x1 x2 x3 x4 x5 x6 M) := by
  unfold Mod_feed_B18
  refine NJ_if ?_ ?_
  · refine NJ_ck ?_
    exact NJ_leaf hS
  · refine NJ_if ?_ ?_
    · refine NJ_if ?_ ?_
      · refine NJ_if ?_ ?_
        · refine NJ_if ?_ ?_
          · exact nj_Mod_feed_J71 k18 hk18 _ _ _ _ _ _ _ _ _ hS
          · exact nj_Mod_feed_J71 k18 hk18 _ _ _ _ _ _ _ _ _ hS
        · exact nj_Mod_feed_J71 k18 hk18 _ _ _ _ _ _ _ _ _ hS
      · exact nj_Mod_feed_J71 k18 hk18 _ _ _ _ _ _ _ _ _ hS
    · exact nj_Mod_feed_J71 k18 hk18 _ _ _ _ _ _ _ _ _ hS
theorem fj_Mod_feed_L18 {D : Nat → Prop} {M0 : Mm} (hT : Tp D M0) : ∀ (n : Nat) (x0 : Nat) (hx0 : D x0) (x1 : Int32) (x2 : Int32) (x3 : Int32) (x4 : Int32) (x5 : Int32) (x6 : Int32) (M : Mm) (hF : Fr D M0 M), FJ D M0 (Mod_feed_L18 n x0 x1 x2 x3 x4 x5 x6 M) := by
  intro n
  induction n with
  | zero => intros; exact FJ_none
  | succ n ih => intro x0 hx0 x1 x2 x3 x4 x5 x6 M hF; exact fj_Mod_feed_B18 hT _ ih x0 hx0 x1 x2 x3 x4 x5 x6 M hF
theorem nj_Mod_feed_L18 {M0 : Mm} : ∀ (n : Nat) (x0 : Nat) (x1 : Int32) (x2 : Int32) (x3 : Int32) (x4 : Int32) (x5 : Int32) (x6 : Int32) (M : Mm) (hS : Sm M0 M), NJ M0 (Mod_feed_L18 n x0 x1 x2 x3 x4 x5 x6 M) := by
  intro n
  induction n with
  | zero => intros; exact NJ_none
  | succ n ih => intro x0 x1 x2 x3 x4 x5 x6 M hS; exact nj_Mod_feed_B18 _ ih x0 x1 x2 x3 x4 x5 x6 M hS
theorem fj_Mod_feed {D : Nat → Prop} {M : Mm} (hC : Cl D M) (hT : Tp D M) (a0 : Nat) (h0 : D a0) (a1 : Int32) (a2 : Int32) (a3 : Int32) (a4 : Int32) (a5 : Int32) : FJ D M (Mod_feed M a0 a1 a2 a3 a4 a5) := by
  unfold Mod_feed
  refine FJ_ck ?_
  refine FJ_if ?_ ?_
  · exact fj_Mod_feed_L18 hT fu _ h0 _ _ _ _ _ _ _ (Fr.rf hC)
  · exact FJ_leaf (Fr.rf hC)
theorem nj_Mod_feed (M : Mm) (a0 : Nat) (a1 : Int32) (a2 : Int32) (a3 : Int32) (a4 : Int32) (a5 : Int32) : NJ M (Mod_feed M a0 a1 a2 a3 a4 a5) := by
  unfold Mod_feed
  refine NJ_ck ?_
  refine NJ_if ?_ ?_
  · exact nj_Mod_feed_L18 fu _ _ _ _ _ _ _ _ Sm.rf
  · exact NJ_leaf Sm.rf
theorem fj_Mod_here {D : Nat → Prop} {M : Mm} (hC : Cl D M) (hT : Tp D M) (a0 : Nat) (h0 : D a0) : FJ D M (Mod_here M a0) := by
  unfold Mod_here
  refine FJ_ck ?_
  refine FJ_if ?_ ?_
  · exact FJ_leaf (Fr.rf hC)
  · refine FJ_nn (Fr.rf hC) h0 (fun b2 hb2 => ?_)
    refine FJ_ck ?_
    exact FJ_leaf (Fr.rf hC)
theorem nj_Mod_here (M : Mm) (a0 : Nat) : NJ M (Mod_here M a0) := by
  unfold Mod_here
  refine NJ_ck ?_
  refine NJ_if ?_ ?_
  · exact NJ_leaf Sm.rf
  · refine NJ_nn (fun b2 => ?_)
    refine NJ_ck ?_
    exact NJ_leaf Sm.rf
theorem fj_Mod_next_J18 {D : Nat → Prop} {M0 : Mm} (hT : Tp D M0) (k0 : Nat → Mm → Option (Unit × Mm)) (hk0 : ∀ (x0 : Nat) (hx0 : D x0) (M : Mm) (hF : Fr D M0 M), FJ D M0 (k0 x0 M)) (x0 : Nat) (hx0 : D x0) (M : Mm) (hF : Fr D M0 M) : FJ D M0 (Mod_next_J18 k0 x0 M) := by
  unfold Mod_next_J18
  refine FJ_ck ?_
  exact hk0 _ hx0 _ (Fr_sI hF hx0)
theorem nj_Mod_next_J18 {M0 : Mm} (k0 : Nat → Mm → Option (Unit × Mm)) (hk0 : ∀ (x0 : Nat) (M : Mm) (hS : Sm M0 M), NJ M0 (k0 x0 M)) (x0 : Nat) (M : Mm) (hS : Sm M0 M) : NJ M0 (Mod_next_J18 k0 x0 M) := by
  unfold Mod_next_J18
  refine NJ_ck ?_
  exact hk0 _ _ (Sm_sI hS)
theorem fj_Mod_next_J292 {D : Nat → Prop} {M0 : Mm} (hT : Tp D M0) (x0 : Nat) (hx0 : D x0) (x1 : Int32) (s0 : Int32) (s1 : Nat) (hs1 : D s1) (M : Mm) (hF : Fr D M0 M) : FJ D M0 (Mod_next_J292 x0 x1 s0 s1 M) := by
  unfold Mod_next_J292
  refine FJ_ck ?_
  refine FJ_ck ?_
  exact FJ_leaf (Fr_sI (Fr_sI (Fr_sI hF hs1) hx0) hx0)
theorem nj_Mod_next_J292 {M0 : Mm} (x0 : Nat) (x1 : Int32) (s0 : Int32) (s1 : Nat) (M : Mm) (hS : Sm M0 M) : NJ M0 (Mod_next_J292 x0 x1 s0 s1 M) := by
  unfold Mod_next_J292
  refine NJ_ck ?_
  refine NJ_ck ?_
  exact NJ_leaf (Sm_sI (Sm_sI (Sm_sI hS)))
theorem fj_Mod_next_J287 {D : Nat → Prop} {M0 : Mm} (hT : Tp D M0) (x0 : Nat) (hx0 : D x0) (x1 : Int32) (s0 : Nat) (hs0 : D s0) (M : Mm) (hF : Fr D M0 M) : FJ D M0 (Mod_next_J287 x0 x1 s0 M) := by
  unfold Mod_next_J287
  exact fj_Mod_next_J292 hT _ hx0 _ _ _ hs0 _ hF
theorem nj_Mod_next_J287 {M0 : Mm} (x0 : Nat) (x1 : Int32) (s0 : Nat) (M : Mm) (hS : Sm M0 M) : NJ M0 (Mod_next_J287 x0 x1 s0 M) := by
  unfold Mod_next_J287
  exact nj_Mod_next_J292 _ _ _ _ _ hS
theorem fj_Mod_next_B173 {D : Nat → Prop} {M0 : Mm} (hT : Tp D M0) (k173 : Nat → Mm → Option (Unit × Mm)) (hk173 : ∀ (x0 : Nat) (hx0 : D x0) (M : Mm) (hF : Fr D M0 M), FJ D M0 (k173 x0 M)) (x0 : Nat) (hx0 : D x0) (M : Mm) (hF : Fr D M0 M) : FJ D M0 (Mod_next_B173 k173 x0 M) := by
  unfold Mod_next_B173
  refine FJ_ck ?_
  refine FJ_bd hT hF (fun gC gT => fj_Mod_here gC gT _ hx0) (fun r27 M28 hFM28 => ?_)
  refine FJ_bd hT hFM28 (fun gC gT => fj_Mod_in gC gT _ _ _) (fun r29 M30 hFM30 => ?_)
  refine FJ_if ?_ ?_
  · refine FJ_ck ?_
    refine FJ_if ?_ ?_
    · exact FJ_leaf (Fr_sI hFM30 hx0)
    · exact FJ_leaf (Fr_sI hFM30 hx0)
  · refine FJ_ck ?_
    refine FJ_bd hT hFM30 (fun gC gT => fj_Mod_min gC gT _ _) (fun r35 M36 hFM36 => ?_)
    refine FJ_ck ?_
    refine FJ_bd hT hFM36 (fun gC gT => fj_Mod_here gC gT _ hx0) (fun r38 M39 hFM39 => ?_)
    refine FJ_ck ?_
    exact hk173 _ hx0 _ (Fr_sI (Fr_sI hFM39 hx0) hx0)
theorem nj_Mod_next_B173 {M0 : Mm} (k173 : Nat → Mm → Option (Unit × Mm)) (hk173 : ∀ (x0 : Nat) (M : Mm) (hS : Sm M0 M), NJ M0 (k173 x0 M)) (x0 : Nat) (M : Mm) (hS : Sm M0 M) : NJ M0 (Mod_next_B173 k173 x0 M) := by
  unfold Mod_next_B173
  refine NJ_ck ?_
  refine NJ_bd hS (nj_Mod_here _ _) (fun r27 M28 hSM28 => ?_)
  refine NJ_bd hSM28 (nj_Mod_in _ _ _ _) (fun r29 M30 hSM30 => ?_)
  refine NJ_if ?_ ?_
  · refine NJ_ck ?_
    refine NJ_if ?_ ?_
    · exact NJ_leaf (Sm_sI hSM30)
    · exact NJ_leaf (Sm_sI hSM30)
  · refine NJ_ck ?_
    refine NJ_bd hSM30 (nj_Mod_min _ _ _) (fun r35 M36 hSM36 => ?_)
    refine NJ_ck ?_
    refine NJ_bd hSM36 (nj_Mod_here _ _) (fun r38 M39 hSM39 => ?_)
    refine NJ_ck ?_
    exact hk173 _ _ (Sm_sI (Sm_sI hSM39))
theorem fj_Mod_next_L173 {D : Nat → Prop} {M0 : Mm} (hT : Tp D M0) : ∀ (n : Nat) (x0 : Nat) (hx0 : D x0) (M : Mm) (hF : Fr D M0 M), FJ D M0 (Mod_next_L173 n x0 M) := by
  intro n
  induction n with
  | zero => intros; exact FJ_none
  | succ n ih => intro x0 hx0 M hF; exact fj_Mod_next_B173 hT _ ih x0 hx0 M hF
theorem nj_Mod_next_L173 {M0 : Mm} : ∀ (n : Nat) (x0 : Nat) (M : Mm) (hS : Sm M0 M), NJ M0 (Mod_next_L173 n x0 M) := by
  intro n
  induction n with
  | zero => intros; exact NJ_none
  | succ n ih => intro x0 M hS; exact nj_Mod_next_B173 _ ih x0 M hS
theorem fj_Mod_next_J146 {D : Nat → Prop} {M0 : Mm} (hT : Tp D M0) (k94 : Nat → Mm → Option (Unit × Mm)) (hk94 : ∀ (x0 : Nat) (hx0 : D x0) (M : Mm) (hF : Fr D M0 M), FJ D M0 (k94 x0 M)) (x0 : Nat) (hx0 : D x0) (s0 : Int64) (s1 : Nat) (hs1 : D s1) (M : Mm) (hF : Fr D M0 M) : FJ D M0 (Mod_next_J146 k94 x0 s0 s1 M) := by
  unfold Mod_next_J146
  refine FJ_ck ?_
  refine FJ_ck ?_
  exact hk94 _ hx0 _ (Fr_sI (Fr_sL hF hs1) hx0)
theorem nj_Mod_next_J146 {M0 : Mm} (k94 : Nat → Mm → Option (Unit × Mm)) (hk94 : ∀ (x0 : Nat) (M : Mm) (hS : Sm M0 M), NJ M0 (k94 x0 M)) (x0 : Nat) (s0 : Int64) (s1 : Nat) (M : Mm) (hS : Sm M0 M) : NJ M0 (Mod_next_J146 k94 x0 s0 s1 M) := by
  unfold Mod_next_J146
  refine NJ_ck ?_
  refine NJ_ck ?_
  exact hk94 _ _ (Sm_sI (Sm_sL hS))
theorem fj_Mod_next_B94 {D : Nat → Prop} {M0 : Mm} (hT : Tp D M0) (k94 : Nat → Mm → Option (Unit × Mm)) (hk94 : ∀ (x0 : Nat) (hx0 : D x0) (M : Mm) (hF : Fr D M0 M), FJ D M0 (k94 x0 M)) (x0 : Nat) (hx0 : D x0) (M : Mm) (hF : Fr D M0 M) : FJ D M0 (Mod_next_B94 k94 x0 M) := by
  unfold Mod_next_B94
  refine FJ_ck ?_
  refine FJ_bd hT hF (fun gC gT => fj_Mod_here gC gT _ hx0) (fun r47 M48 hFM48 => ?_)
  refine FJ_bd hT hFM48 (fun gC gT => fj_Mod_in gC gT _ _ _) (fun r49 M50 hFM50 => ?_)
  refine FJ_if ?_ ?_
  · exact FJ_leaf hFM50
  · refine FJ_ck ?_
    refine FJ_if ?_ ?_
    · exact fj_Mod_next_J146 hT k94 hk94 _ hx0 _ _ hx0 _ hFM50
    · refine FJ_bd hT hFM50 (fun gC gT => fj_Mod_here gC gT _ hx0) (fun r56 M57 hFM57 => ?_)
      exact fj_Mod_next_J146 hT k94 hk94 _ hx0 _ _ hx0 _ hFM57
theorem nj_Mod_next_B94 {M0 : Mm} (k94 : Nat → Mm → Option (Unit × Mm)) (hk94 : ∀ (x0 : Nat) (M : Mm) (hS : Sm M0 M), NJ M0 (k94 x0 M)) (x0 : Nat) (M : Mm) (hS : Sm M0 M) : NJ M0 (Mod_next_B94 k94 x0 M) := by
  unfold Mod_next_B94
  refine NJ_ck ?_
  refine NJ_bd hS (nj_Mod_here _ _) (fun r47 M48 hSM48 => ?_)
  refine NJ_bd hSM48 (nj_Mod_in _ _ _ _) (fun r49 M50 hSM50 => ?_)
  refine NJ_if ?_ ?_
  · exact NJ_leaf hSM50
  · refine NJ_ck ?_
    refine NJ_if ?_ ?_
    · exact nj_Mod_next_J146 k94 hk94 _ _ _ _ hSM50
    · refine NJ_bd hSM50 (nj_Mod_here _ _) (fun r56 M57 hSM57 => ?_)
      exact nj_Mod_next_J146 k94 hk94 _ _ _ _ hSM57
theorem fj_Mod_next_L94 {D : Nat → Prop} {M0 : Mm} (hT : Tp D M0) : ∀ (n : Nat) (x0 : Nat) (hx0 : D x0) (M : Mm) (hF : Fr D M0 M), FJ D M0 (Mod_next_L94 n x0 M) := by
  intro n
  induction n with
  | zero => intros; exact FJ_none
  | succ n ih => intro x0 hx0 M hF; exact fj_Mod_next_B94 hT _ ih x0 hx0 M hF
theorem nj_Mod_next_L94 {M0 : Mm} : ∀ (n : Nat) (x0 : Nat) (M : Mm) (hS : Sm M0 M), NJ M0 (Mod_next_L94 n x0 M) := by
  intro n
  induction n with
  | zero => intros; exact NJ_none
  | succ n ih => intro x0 M hS; exact nj_Mod_next_B94 _ ih x0 M hS
theorem fj_Mod_next_B0 {D : Nat → Prop} {M0 : Mm} (hT : Tp D M0) (k0 : Nat → Mm → Option (Unit × Mm)) (hk0 : ∀ (x0 : Nat) (hx0 : D x0) (M : Mm) (hF : Fr D M0 M), FJ D M0 (k0 x0 M)) (x0 : Nat) (hx0 : D x0) (M : Mm) (hF : Fr D M0 M) : FJ D M0 (Mod_next_B0 k0 x0 M) := by
  unfold Mod_next_B0
  refine FJ_ck ?_
  refine FJ_bd hT hF (fun gC gT => fj_Mod_here gC gT _ hx0) (fun r2 M3 hFM3 => ?_)
  refine FJ_if ?_ ?_
  · exact fj_Mod_next_J18 hT k0 hk0 _ hx0 _ hFM3
  · refine FJ_ck ?_
    refine FJ_bd hT hFM3 (fun gC gT => fj_Mod_here gC gT _ hx0) (fun r7 M8 hFM8 => ?_)
    refine FJ_if ?_ ?_
    · exact fj_Mod_next_J18 hT k0 hk0 _ hx0 _ hFM8
    · refine FJ_ck ?_
      refine FJ_bd hT (Fr_sI hFM8 hx0) (fun gC gT => fj_Mod_here gC gT _ hx0) (fun r11 M12 hFM12 => ?_)
      refine FJ_ck ?_
      refine FJ_if ?_ ?_
      · refine FJ_bd hT (Fr_sI (Fr_sI (Fr_sL hFM12 hx0) hx0) hx0) (fun gC gT => fj_Mod_in gC gT _ _ _) (fun r17 M18 hFM18 => ?_)
        refine FJ_if ?_ ?_
        · refine FJ_bd hT hFM18 (fun gC gT => fj_Mod_in gC gT _ _ _) (fun r19 M20 hFM20 => ?_)
          refine FJ_if ?_ ?_
          · refine FJ_if ?_ ?_
            · exact fj_Mod_next_J287 hT _ hx0 _ _ hx0 _ hFM20
            · refine FJ_if ?_ ?_
              · exact fj_Mod_next_J287 hT _ hx0 _ _ hx0 _ hFM20
              · refine FJ_if ?_ ?_
                · exact fj_Mod_next_J287 hT _ hx0 _ _ hx0 _ hFM20
                · refine FJ_if ?_ ?_
                  · exact fj_Mod_next_J287 hT _ hx0 _ _ hx0 _ hFM20
                  · refine FJ_if ?_ ?_
                    · exact fj_Mod_next_J287 hT _ hx0 _ _ hx0 _ hFM20
                    · refine FJ_if ?_ ?_
                      · exact fj_Mod_next_J287 hT _ hx0 _ _ hx0 _ hFM20
                      · exact fj_Mod_next_J292 hT _ hx0 _ _ _ hx0 _ hFM20
          · exact fj_Mod_next_L173 hT fu _ hx0 _ hFM20
        · refine FJ_ck ?_
          exact fj_Mod_next_L94 hT fu _ hx0 _ (Fr_sL (Fr_sI hFM18 hx0) hx0)
      · exact FJ_leaf (Fr_sI (Fr_sI (Fr_sI (Fr_sL hFM12 hx0) hx0) hx0) hx0)
theorem nj_Mod_next_B0 {M0 : Mm} (k0 : Nat → Mm → Option (Unit × Mm)) (hk0 : ∀ (x0 : Nat) (M : Mm) (hS : Sm M0 M), NJ M0 (k0 x0 M)) (x0 : Nat) (M : Mm) (hS : Sm M0 M) : NJ M0 (Mod_next_B0 k0 x0 M) := by
  unfold Mod_next_B0
  refine NJ_ck ?_
  refine NJ_bd hS (nj_Mod_here _ _) (fun r2 M3 hSM3 => ?_)
  refine NJ_if ?_ ?_
  · exact nj_Mod_next_J18 k0 hk0 _ _ hSM3
  · refine NJ_ck ?_
    refine NJ_bd hSM3 (nj_Mod_here _ _) (fun r7 M8 hSM8 => ?_)
    refine NJ_if ?_ ?_
    · exact nj_Mod_next_J18 k0 hk0 _ _ hSM8
    · refine NJ_ck ?_
      refine NJ_bd (Sm_sI hSM8) (nj_Mod_here _ _) (fun r11 M12 hSM12 => ?_)
      refine NJ_ck ?_
      refine NJ_if ?_ ?_
      · refine NJ_bd (Sm_sI (Sm_sI (Sm_sL hSM12))) (nj_Mod_in _ _ _ _) (fun r17 M18 hSM18 => ?_)
        refine NJ_if ?_ ?_
        · refine NJ_bd hSM18 (nj_Mod_in _ _ _ _) (fun r19 M20 hSM20 => ?_)
          refine NJ_if ?_ ?_
          · refine NJ_if ?_ ?_
            · exact nj_Mod_next_J287 _ _ _ _ hSM20
            · refine NJ_if ?_ ?_
              · exact nj_Mod_next_J287 _ _ _ _ hSM20
              · refine NJ_if ?_ ?_
                · exact nj_Mod_next_J287 _ _ _ _ hSM20
                · refine NJ_if ?_ ?_
                  · exact nj_Mod_next_J287 _ _ _ _ hSM20
                  · refine NJ_if ?_ ?_
                    · exact nj_Mod_next_J287 _ _ _ _ hSM20
                    · refine NJ_if ?_ ?_
                      · exact nj_Mod_next_J287 _ _ _ _ hSM20
                      · exact nj_Mod_next_J292 _ _ _ _ _ hSM20
          · exact nj_Mod_next_L173 fu _ _ hSM20
        · refine NJ_ck ?_
          exact nj_Mod_next_L94 fu _ _ (Sm_sL (Sm_sI hSM18))
      · exact NJ_leaf (Sm_sI (Sm_sI (Sm_sI (Sm_sL hSM12))))
theorem fj_Mod_next_L0 {D : Nat → Prop} {M0 : Mm} (hT : Tp D M0) : ∀ (n : Nat) (x0 : Nat) (hx0 : D x0) (M : Mm) (hF : Fr D M0 M), FJ D M0 (Mod_next_L0 n x0 M) := by
  intro n
  induction n with
  | zero => intros; exact FJ_none
  | succ n ih => intro x0 hx0 M hF; exact fj_Mod_next_B0 hT _ ih x0 hx0 M hF
theorem nj_Mod_next_L0 {M0 : Mm} : ∀ (n : Nat) (x0 : Nat) (M : Mm) (hS : Sm M0 M), NJ M0 (Mod_next_L0 n x0 M) := by
  intro n
  induction n with
  | zero => intros; exact NJ_none
  | succ n ih => intro x0 M hS; exact nj_Mod_next_B0 _ ih x0 M hS
theorem fj_Mod_next {D : Nat → Prop} {M : Mm} (hC : Cl D M) (hT : Tp D M) (a0 : Nat) (h0 : D a0) : FJ D M (Mod_next M a0) := by
  unfold Mod_next
  exact fj_Mod_next_L0 hT fu _ h0 _ (Fr.rf hC)
theorem nj_Mod_next (M : Mm) (a0 : Nat) : NJ M (Mod_next M a0) := by
  unfold Mod_next
  exact nj_Mod_next_L0 fu _ _ Sm.rf
theorem fj_Mod_fails0 {D : Nat → Prop} {M : Mm} (hC : Cl D M) (hT : Tp D M) (a0 : Nat) (h0 : D a0) : FJ D M (Mod_fails0 M a0) := by
  unfold Mod_fails0
  refine FJ_ck ?_
  refine FJ_if ?_ ?_
  · exact FJ_leaf (Fr_sI (Fr_sI (Fr.rf hC) h0) h0)
  · exact FJ_leaf (Fr.rf hC)
theorem nj_Mod_fails0 (M : Mm) (a0 : Nat) : NJ M (Mod_fails0 M a0) := by
  unfold Mod_fails0
  refine NJ_ck ?_
  refine NJ_if ?_ ?_
  · exact NJ_leaf (Sm_sI (Sm_sI Sm.rf))
  · exact NJ_leaf Sm.rf
theorem fj_Mod_isWord {D : Nat → Prop} {M : Mm} (hC : Cl D M) (hT : Tp D M) (a0 : Nat) (h0 : D a0) (a1 : Int64) : FJ D M (Mod_isWord M a0 a1) := by
  unfold Mod_isWord
  refine FJ_ck ?_
  refine FJ_if ?_ ?_
  · refine FJ_if ?_ ?_
    · exact FJ_leaf (Fr.rf hC)
    · exact FJ_leaf (Fr.rf hC)
  · exact FJ_leaf (Fr.rf hC)
theorem nj_Mod_isWord (M : Mm) (a0 : Nat) (a1 : Int64) : NJ M (Mod_isWord M a0 a1) := by
  unfold Mod_isWord
  refine NJ_ck ?_
  refine NJ_if ?_ ?_
  · refine NJ_if ?_ ?_
    · exact NJ_leaf Sm.rf
    · exact NJ_leaf Sm.rf
  · exact NJ_leaf Sm.rf
theorem fj_Mod_begin {D : Nat → Prop} {M : Mm} (hC : Cl D M) (hT : Tp D M) (a0 : Nat) (h0 : D a0) (a1 : Int32) : FJ D M (Mod_begin M a0 a1) := by
  unfold Mod_begin
  refine FJ_ck ?_
  refine FJ_nn (Fr.rf hC) h0 (fun b2 hb2 => ?_)
  refine FJ_ck ?_
  refine FJ_nn (Fr_sI (Fr.rf hC) hb2) h0 (fun b5 hb5 => ?_)
  refine FJ_ck ?_
  refine FJ_nn (Fr_sI (Fr_sI (Fr.rf hC) hb2) hb5) h0 (fun b8 hb8 => ?_)
  refine FJ_ck ?_
  exact FJ_leaf (Fr_sI (Fr_sI (Fr_sI (Fr_sI (Fr.rf hC) hb2) hb5) hb8) h0)
theorem nj_Mod_begin (M : Mm) (a0 : Nat) (a1 : Int32) : NJ M (Mod_begin M a0 a1) := by
  unfold Mod_begin
  refine NJ_ck ?_
  refine NJ_nn (fun b2 => ?_)
  refine NJ_ck ?_
  refine NJ_nn (fun b5 => ?_)
  refine NJ_ck ?_
  refine NJ_nn (fun b8 => ?_)
  refine NJ_ck ?_
  exact NJ_leaf (Sm_sI (Sm_sI (Sm_sI (Sm_sI Sm.rf))))
