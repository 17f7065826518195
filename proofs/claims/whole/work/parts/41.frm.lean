theorem fj_Mod_pass_J117 {D : Nat → Prop} {M0 : Mm} (hT : Tp D M0) (k27 : Nat → Int32 → Int32 → Mm → Option (Int32 × Mm)) (hk27 : ∀ (x0 : Nat) (hx0 : D x0) (x1 : Int32) (x2 : Int32) (M : Mm) (hF : Fr D M0 M), FJ D M0 (k27 x0 x1 x2 M)) (x0 : Nat) (hx0 : D x0) (x1 : Int32) (x2 : Int32) (M : Mm) (hF : Fr D M0 M) : FJ D M0 (Mod_pass_J117 k27 x0 x1 x2 M) := by
  unfold Mod_pass_J117
  exact hk27 _ hx0 _ _ _ hF
theorem nj_Mod_pass_J117 {M0 : Mm} (k27 : Nat → Int32 → Int32 → Mm → Option (Int32 × Mm)) (hk27 : ∀ (x0 : Nat) (x1 : Int32) (x2 : Int32) (M : Mm) (hS : Sm M0 M), NJ M0 (k27 x0 x1 x2 M)) (x0 : Nat) (x1 : Int32) (x2 : Int32) (M : Mm) (hS : Sm M0 M) : NJ M0 (Mod_pass_J117 k27 x0 x1 x2 M) := by
  unfold Mod_pass_J117
  exact hk27 _ _ _ _ hS
theorem fj_Mod_pass_J62 {D : Nat → Prop} {M0 : Mm} (hT : Tp D M0) (k27 : Nat → Int32 → Int32 → Mm → Option (Int32 × Mm)) (hk27 : ∀ (x0 : Nat) (hx0 : D x0) (x1 : Int32) (x2 : Int32) (M : Mm) (hF : Fr D M0 M), FJ D M0 (k27 x0 x1 x2 M)) (x0 : Nat) (hx0 : D x0) (x1 : Int32) (x2 : Int32) (s0 : Int64) (M : Mm) (hF : Fr D M0 M) : FJ D M0 (Mod_pass_J62 k27 x0 x1 x2 s0 M) := by
  unfold Mod_pass_J62
  refine FJ_ck ?_
  refine FJ_if ?_ ?_
  · exact fj_Mod_pass_J117 hT k27 hk27 _ hx0 _ _ _ (Fr_sI hF hx0)
  · refine FJ_if ?_ ?_
    · exact fj_Mod_pass_J117 hT k27 hk27 _ hx0 _ _ _ (Fr_sI (Fr_sI hF hx0) hx0)
    · refine FJ_bd hT (Fr_sI hF hx0) (fun gC gT => fj_Mod_closesSession gC gT _ hx0 _) (fun _ M11 hFM11 => ?_)
      exact fj_Mod_pass_J117 hT k27 hk27 _ hx0 _ _ _ hFM11
theorem nj_Mod_pass_J62 {M0 : Mm} (k27 : Nat → Int32 → Int32 → Mm → Option (Int32 × Mm)) (hk27 : ∀ (x0 : Nat) (x1 : Int32) (x2 : Int32) (M : Mm) (hS : Sm M0 M), NJ M0 (k27 x0 x1 x2 M)) (x0 : Nat) (x1 : Int32) (x2 : Int32) (s0 : Int64) (M : Mm) (hS : Sm M0 M) : NJ M0 (Mod_pass_J62 k27 x0 x1 x2 s0 M) := by
  unfold Mod_pass_J62
  refine NJ_ck ?_
  refine NJ_if ?_ ?_
  · exact nj_Mod_pass_J117 k27 hk27 _ _ _ _ (Sm_sI hS)
  · refine NJ_if ?_ ?_
    · exact nj_Mod_pass_J117 k27 hk27 _ _ _ _ (Sm_sI (Sm_sI hS))
    · refine NJ_bd (Sm_sI hS) (nj_Mod_closesSession _ _ _) (fun _ M11 hSM11 => ?_)
      exact nj_Mod_pass_J117 k27 hk27 _ _ _ _ hSM11
theorem fj_Mod_pass_B27 {D : Nat → Prop} {M0 : Mm} (hT : Tp D M0) (k27 : Nat → Int32 → Int32 → Mm → Option (Int32 × Mm)) (hk27 : ∀ (x0 : Nat) (hx0 : D x0) (x1 : Int32) (x2 : Int32) (M : Mm) (hF : Fr D M0 M), FJ D M0 (k27 x0 x1 x2 M)) (x0 : Nat) (hx0 : D x0) (x1 : Int32) (x2 : Int32) (M : Mm) (hF : Fr D M0 M) : FJ D M0 (Mod_pass_B27 k27 x0 x1 x2 M) := by
  unfold Mod_pass_B27
  refine FJ_if ?_ ?_
  · refine FJ_ck ?_
    exact FJ_leaf hF
  · refine FJ_ck ?_
    refine FJ_if ?_ ?_
    · exact fj_Mod_pass_J62 hT k27 hk27 _ hx0 _ _ _ _ hF
    · refine FJ_bd hT hF (fun gC gT => fj_Mod_asked gC gT _ hx0 _) (fun r12 M13 hFM13 => ?_)
      refine FJ_ck ?_
      refine FJ_bd hT hFM13 (fun gC gT => fj_Mod_asked gC gT _ hx0 _) (fun r15 M16 hFM16 => ?_)
      refine FJ_ck ?_
      exact fj_Mod_pass_J62 hT k27 hk27 _ hx0 _ _ _ _ hFM16
theorem nj_Mod_pass_B27 {M0 : Mm} (k27 : Nat → Int32 → Int32 → Mm → Option (Int32 × Mm)) (hk27 : ∀ (x0 : Nat) (x1 : Int32) (x2 : Int32) (M : Mm) (hS : Sm M0 M), NJ M0 (k27 x0 x1 x2 M)) (x0 : Nat) (x1 : Int32) (x2 : Int32) (M : Mm) (hS : Sm M0 M) : NJ M0 (Mod_pass_B27 k27 x0 x1 x2 M) := by
  unfold Mod_pass_B27
  refine NJ_if ?_ ?_
  · refine NJ_ck ?_
    exact NJ_leaf hS
  · refine NJ_ck ?_
    refine NJ_if ?_ ?_
    · exact nj_Mod_pass_J62 k27 hk27 _ _ _ _ _ hS
    · refine NJ_bd hS (nj_Mod_asked _ _ _) (fun r12 M13 hSM13 => ?_)
      refine NJ_ck ?_
      refine NJ_bd hSM13 (nj_Mod_asked _ _ _) (fun r15 M16 hSM16 => ?_)
      refine NJ_ck ?_
      exact nj_Mod_pass_J62 k27 hk27 _ _ _ _ _ hSM16
theorem fj_Mod_pass_L27 {D : Nat → Prop} {M0 : Mm} (hT : Tp D M0) : ∀ (n : Nat) (x0 : Nat) (hx0 : D x0) (x1 : Int32) (x2 : Int32) (M : Mm) (hF : Fr D M0 M), FJ D M0 (Mod_pass_L27 n x0 x1 x2 M) := by
  intro n
  induction n with
  | zero => intros; exact FJ_none
  | succ n ih => intro x0 hx0 x1 x2 M hF; exact fj_Mod_pass_B27 hT _ ih x0 hx0 x1 x2 M hF
theorem nj_Mod_pass_L27 {M0 : Mm} : ∀ (n : Nat) (x0 : Nat) (x1 : Int32) (x2 : Int32) (M : Mm) (hS : Sm M0 M), NJ M0 (Mod_pass_L27 n x0 x1 x2 M) := by
  intro n
  induction n with
  | zero => intros; exact NJ_none
  | succ n ih => intro x0 x1 x2 M hS; exact nj_Mod_pass_B27 _ ih x0 x1 x2 M hS
theorem fj_Mod_pass {D : Nat → Prop} {M : Mm} (hC : Cl D M) (hT : Tp D M) (a0 : Nat) (h0 : D a0) (a1 : Int32) : FJ D M (Mod_pass M a0 a1) := by
  unfold Mod_pass
  refine FJ_bd hT (Fr.rf hC) (fun gC gT => fj_Mod_in gC gT _ _ _) (fun r1 M2 hFM2 => ?_)
  refine FJ_if ?_ ?_
  · exact FJ_leaf hFM2
  · refine FJ_ck ?_
    refine FJ_if ?_ ?_
    · exact fj_Mod_pass_L27 hT fu _ h0 _ _ _ hFM2
    · exact FJ_leaf hFM2
theorem nj_Mod_pass (M : Mm) (a0 : Nat) (a1 : Int32) : NJ M (Mod_pass M a0 a1) := by
  unfold Mod_pass
  refine NJ_bd Sm.rf (nj_Mod_in _ _ _ _) (fun r1 M2 hSM2 => ?_)
  refine NJ_if ?_ ?_
  · exact NJ_leaf hSM2
  · refine NJ_ck ?_
    refine NJ_if ?_ ?_
    · exact nj_Mod_pass_L27 fu _ _ _ _ hSM2
    · exact NJ_leaf hSM2
theorem fj_Mod_session_J36 {D : Nat → Prop} {M0 : Mm} (hT : Tp D M0) (x0 : Nat) (hx0 : D x0) (x1 : Int32) (x2 : Int32) (s0 : Int32) (M : Mm) (hF : Fr D M0 M) : FJ D M0 (Mod_session_J36 x0 x1 x2 s0 M) := by
  unfold Mod_session_J36
  refine FJ_if ?_ ?_
  · refine FJ_ck ?_
    refine FJ_nn hF hx0 (fun b3 hb3 => ?_)
    refine FJ_ck ?_
    exact FJ_leaf hF
  · refine FJ_if ?_ ?_
    · refine FJ_ck ?_
      refine FJ_nn hF hx0 (fun b6 hb6 => ?_)
      refine FJ_ck ?_
      exact FJ_leaf hF
    · refine FJ_if ?_ ?_
      · refine FJ_ck ?_
        refine FJ_nn hF hx0 (fun b9 hb9 => ?_)
        refine FJ_ck ?_
        exact FJ_leaf hF
      · refine FJ_if ?_ ?_
        · refine FJ_ck ?_
          refine FJ_nn hF hx0 (fun b12 hb12 => ?_)
          refine FJ_ck ?_
          exact FJ_leaf hF
        · refine FJ_if ?_ ?_
          · refine FJ_ck ?_
            refine FJ_nn hF hx0 (fun b15 hb15 => ?_)
            refine FJ_ck ?_
            exact FJ_leaf hF
          · refine FJ_if ?_ ?_
            · refine FJ_ck ?_
              refine FJ_nn hF hx0 (fun b18 hb18 => ?_)
              refine FJ_ck ?_
              exact FJ_leaf hF
            · refine FJ_if ?_ ?_
              · refine FJ_if ?_ ?_
                · exact FJ_leaf hF
                · refine FJ_ck ?_
                  exact FJ_leaf hF
              · exact FJ_leaf hF
theorem nj_Mod_session_J36 {M0 : Mm} (x0 : Nat) (x1 : Int32) (x2 : Int32) (s0 : Int32) (M : Mm) (hS : Sm M0 M) : NJ M0 (Mod_session_J36 x0 x1 x2 s0 M) := by
  unfold Mod_session_J36
  refine NJ_if ?_ ?_
  · refine NJ_ck ?_
    refine NJ_nn (fun b3 => ?_)
    refine NJ_ck ?_
    exact NJ_leaf hS
  · refine NJ_if ?_ ?_
    · refine NJ_ck ?_
      refine NJ_nn (fun b6 => ?_)
      refine NJ_ck ?_
      exact NJ_leaf hS
    · refine NJ_if ?_ ?_
      · refine NJ_ck ?_
        refine NJ_nn (fun b9 => ?_)
        refine NJ_ck ?_
        exact NJ_leaf hS
      · refine NJ_if ?_ ?_
        · refine NJ_ck ?_
          refine NJ_nn (fun b12 => ?_)
          refine NJ_ck ?_
          exact NJ_leaf hS
        · refine NJ_if ?_ ?_
          · refine NJ_ck ?_
            refine NJ_nn (fun b15 => ?_)
            refine NJ_ck ?_
            exact NJ_leaf hS
          · refine NJ_if ?_ ?_
            · refine NJ_ck ?_
              refine NJ_nn (fun b18 => ?_)
              refine NJ_ck ?_
              exact NJ_leaf hS
            · refine NJ_if ?_ ?_
              · refine NJ_if ?_ ?_
                · exact NJ_leaf hS
                · refine NJ_ck ?_
                  exact NJ_leaf hS
              · exact NJ_leaf hS
theorem fj_Mod_session_J35 {D : Nat → Prop} {M0 : Mm} (hT : Tp D M0) (x0 : Nat) (hx0 : D x0) (x1 : Int32) (x2 : Int32) (M : Mm) (hF : Fr D M0 M) : FJ D M0 (Mod_session_J35 x0 x1 x2 M) := by
  unfold Mod_session_J35
  exact fj_Mod_session_J36 hT _ hx0 _ _ _ _ hF
theorem nj_Mod_session_J35 {M0 : Mm} (x0 : Nat) (x1 : Int32) (x2 : Int32) (M : Mm) (hS : Sm M0 M) : NJ M0 (Mod_session_J35 x0 x1 x2 M) := by
  unfold Mod_session_J35
  exact nj_Mod_session_J36 _ _ _ _ _ hS
theorem fj_Mod_session {D : Nat → Prop} {M : Mm} (hC : Cl D M) (hT : Tp D M) (a0 : Nat) (h0 : D a0) (a1 : Int32) (a2 : Int32) : FJ D M (Mod_session M a0 a1 a2) := by
  unfold Mod_session
  refine FJ_if ?_ ?_
  · exact FJ_leaf (Fr.rf hC)
  · refine FJ_ck ?_
    refine FJ_if ?_ ?_
    · refine FJ_if ?_ ?_
      · exact fj_Mod_session_J35 hT _ h0 _ _ _ (Fr.rf hC)
      · refine FJ_if ?_ ?_
        · exact fj_Mod_session_J36 hT _ h0 _ _ _ _ (Fr.rf hC)
        · exact fj_Mod_session_J35 hT _ h0 _ _ _ (Fr.rf hC)
    · exact FJ_leaf (Fr.rf hC)
theorem nj_Mod_session (M : Mm) (a0 : Nat) (a1 : Int32) (a2 : Int32) : NJ M (Mod_session M a0 a1 a2) := by
  unfold Mod_session
  refine NJ_if ?_ ?_
  · exact NJ_leaf Sm.rf
  · refine NJ_ck ?_
    refine NJ_if ?_ ?_
    · refine NJ_if ?_ ?_
      · exact nj_Mod_session_J35 _ _ _ _ Sm.rf
      · refine NJ_if ?_ ?_
        · exact nj_Mod_session_J36 _ _ _ _ _ Sm.rf
        · exact nj_Mod_session_J35 _ _ _ _ Sm.rf
    · exact NJ_leaf Sm.rf
theorem fj_Mod_bargain {D : Nat → Prop} {M : Mm} (hC : Cl D M) (hT : Tp D M) (a0 : Nat) (h0 : D a0) (a1 : Int32) (a2 : Int32) (a3 : Int32) : FJ D M (Mod_bargain M a0 a1 a2 a3) := by
  unfold Mod_bargain
  refine FJ_if ?_ ?_
  · exact FJ_leaf (Fr.rf hC)
  · refine FJ_ck ?_
    refine FJ_if ?_ ?_
    · exact FJ_leaf (Fr.rf hC)
    · refine FJ_if ?_ ?_
      · exact FJ_leaf (Fr.rf hC)
      · refine FJ_nn (Fr.rf hC) h0 (fun b2 hb2 => ?_)
        refine FJ_ck ?_
        refine FJ_if ?_ ?_
        · refine FJ_if ?_ ?_
          · refine FJ_nn (Fr.rf hC) h0 (fun b5 hb5 => ?_)
            refine FJ_ck ?_
            exact FJ_leaf (Fr.rf hC)
          · refine FJ_if ?_ ?_
            · refine FJ_nn (Fr.rf hC) h0 (fun b7 hb7 => ?_)
              refine FJ_ck ?_
              exact FJ_leaf (Fr.rf hC)
            · refine FJ_if ?_ ?_
              · refine FJ_nn (Fr.rf hC) h0 (fun b9 hb9 => ?_)
                refine FJ_ck ?_
                exact FJ_leaf (Fr.rf hC)
              · refine FJ_if ?_ ?_
                · refine FJ_nn (Fr.rf hC) h0 (fun b11 hb11 => ?_)
                  refine FJ_ck ?_
                  exact FJ_leaf (Fr.rf hC)
                · refine FJ_if ?_ ?_
                  · refine FJ_nn (Fr.rf hC) h0 (fun b13 hb13 => ?_)
                    refine FJ_ck ?_
                    exact FJ_leaf (Fr.rf hC)
                  · refine FJ_if ?_ ?_
                    · refine FJ_nn (Fr.rf hC) h0 (fun b15 hb15 => ?_)
                      refine FJ_ck ?_
                      exact FJ_leaf (Fr.rf hC)
                    · refine FJ_if ?_ ?_
                      · refine FJ_nn (Fr.rf hC) h0 (fun b17 hb17 => ?_)
                        refine FJ_ck ?_
                        refine FJ_if ?_ ?_
                        · exact FJ_leaf (Fr.rf hC)
                        · refine FJ_nn (Fr.rf hC) h0 (fun b19 hb19 => ?_)
                          refine FJ_ck ?_
                          exact FJ_leaf (Fr.rf hC)
                      · refine FJ_if ?_ ?_
                        · refine FJ_nn (Fr.rf hC) h0 (fun b21 hb21 => ?_)
                          refine FJ_ck ?_
                          refine FJ_if ?_ ?_
                          · exact FJ_leaf (Fr.rf hC)
                          · exact FJ_leaf (Fr.rf hC)
                        · exact FJ_leaf (Fr.rf hC)
        · exact FJ_leaf (Fr.rf hC)
theorem nj_Mod_bargain (M : Mm) (a0 : Nat) (a1 : Int32) (a2 : Int32) (a3 : Int32) : NJ M (Mod_bargain M a0 a1 a2 a3) := by
  unfold Mod_bargain
  refine NJ_if ?_ ?_
  · exact NJ_leaf Sm.rf
  · refine NJ_ck ?_
    refine NJ_if ?_ ?_
    · exact NJ_leaf Sm.rf
    · refine NJ_if ?_ ?_
      · exact NJ_leaf Sm.rf
      · refine NJ_nn (fun b2 => ?_)
        refine NJ_ck ?_
        refine NJ_if ?_ ?_
        · refine NJ_if ?_ ?_
          · refine NJ_nn (fun b5 => ?_)
            refine NJ_ck ?_
            exact NJ_leaf Sm.rf
          · refine NJ_if ?_ ?_
            · refine NJ_nn (fun b7 => ?_)
              refine NJ_ck ?_
              exact NJ_leaf Sm.rf
            · refine NJ_if ?_ ?_
              · refine NJ_nn (fun b9 => ?_)
                refine NJ_ck ?_
                exact NJ_leaf Sm.rf
              · refine NJ_if ?_ ?_
                · refine NJ_nn (fun b11 => ?_)
                  refine NJ_ck ?_
                  exact NJ_leaf Sm.rf
                · refine NJ_if ?_ ?_
                  · refine NJ_nn (fun b13 => ?_)
                    refine NJ_ck ?_
                    exact NJ_leaf Sm.rf
                  · refine NJ_if ?_ ?_
                    · refine NJ_nn (fun b15 => ?_)
                      refine NJ_ck ?_
                      exact NJ_leaf Sm.rf
                    · refine NJ_if ?_ ?_
                      · refine NJ_nn (fun b17 => ?_)
                        refine NJ_ck ?_
                        refine NJ_if ?_ ?_
                        · exact NJ_leaf Sm.rf
                        · refine NJ_nn (fun b19 => ?_)
                          refine NJ_ck ?_
                          exact NJ_leaf Sm.rf
                      · refine NJ_if ?_ ?_
                        · refine NJ_nn (fun b21 => ?_)
                          refine NJ_ck ?_
                          refine NJ_if ?_ ?_
                          · exact NJ_leaf Sm.rf
                          · exact NJ_leaf Sm.rf
                        · exact NJ_leaf Sm.rf
        · exact NJ_leaf Sm.rf
theorem fj_Mod_best_J161 {D : Nat → Prop} {M0 : Mm} (hT : Tp D M0) (k45 : Nat → Int32 → Int32 → Int32 → Int32 → Int32 → Int32 → Mm → Option (Int32 × Mm)) (hk45 : ∀ (x0 : Nat) (hx0 : D x0) (x1 : Int32) (x2 : Int32) (x3 : Int32) (x4 : Int32) (x5 : Int32) (x6 : Int32) (M : Mm) (hF : Fr D M0 M), FJ D M0 (k45 x0 x1 x2 x3 x4 x5 x6 M)) (x0 : Nat) (hx0 : D x0) (x1 : Int32) (x2 : Int32) (x3 : Int32) (x4 : Int32) (x5 : Int32) (x6 : Int32) (M : Mm) (hF : Fr D M0 M) : FJ D M0 (Mod_best_J161 k45 x0 x1 x2 x3 x4 x5 x6 M) := by
  unfold Mod_best_J161
  exact hk45 _ hx0 _ _ _ _ _ _ _ hF
theorem nj_Mod_best_J161 {M0 : Mm} (k45 : Nat → Int32 → Int32 → Int32 → Int32 → Int32 → Int32 → Mm → Option (Int32 × Mm)) (hk45 : ∀ (x0 : Nat) (x1 : Int32) (x2 : Int32) (x3 : Int32) (x4 : Int32) (x5 : Int32) (x6 : Int32) (M : Mm) (hS : Sm M0 M), NJ M0 (k45 x0 x1 x2 x3 x4 x5 x6 M)) (x0 : Nat) (x1 : Int32) (x2 : Int32) (x3 : Int32) (x4 : Int32) (x5 : Int32) (x6 : Int32) (M : Mm) (hS : Sm M0 M) : NJ M0 (Mod_best_J161 k45 x0 x1 x2 x3 x4 x5 x6 M) := by
  unfold Mod_best_J161
  exact hk45 _ _ _ _ _ _ _ _ hS
theorem fj_Mod_best_J137 {D : Nat → Prop} {M0 : Mm} (hT : Tp D M0) (k45 : Nat → Int32 → Int32 → Int32 → Int32 → Int32 → Int32 → Mm → Option (Int32 × Mm)) (hk45 : ∀ (x0 : Nat) (hx0 : D x0) (x1 : Int32) (x2 : Int32) (x3 : Int32) (x4 : Int32) (x5 : Int32) (x6 : Int32) (M : Mm) (hF : Fr D M0 M), FJ D M0 (k45 x0 x1 x2 x3 x4 x5 x6 M)) (x0 : Nat) (hx0 : D x0) (x1 : Int32) (x2 : Int32) (x3 : Int32) (x4 : Int32) (x5 : Int32) (x6 : Int32) (x7 : Int32) (M : Mm) (hF : Fr D M0 M) : FJ D M0 (Mod_best_J137 k45 x0 x1 x2 x3 x4 x5 x6 x7 M) := by
  unfold Mod_best_J137
  refine FJ_ck ?_
  refine FJ_nn hF hx0 (fun b20 hb20 => ?_)
  refine FJ_ck ?_
  refine FJ_if ?_ ?_
  · refine FJ_nn hF hx0 (fun b22 hb22 => ?_)
    refine FJ_ck ?_
    exact fj_Mod_best_J161 hT k45 hk45 _ hx0 _ _ _ _ _ _ _ hF
  · exact fj_Mod_best_J161 hT k45 hk45 _ hx0 _ _ _ _ _ _ _ hF
theorem nj_Mod_best_J137 {M0 : Mm} (k45 : Nat → Int32 → Int32 → Int32 → Int32 → Int32 → Int32 → Mm → Option (Int32 × Mm)) (hk45 : ∀ (x0 : Nat) (x1 : Int32) (x2 : Int32) (x3 : Int32) (x4 : Int32) (x5 : Int32) (x6 : Int32) (M : Mm) (hS : Sm M0 M), NJ M0 (k45 x0 x1 x2 x3 x4 x5 x6 M)) (x0 : Nat) (x1 : Int32) (x2 : Int32) (x3 : Int32) (x4 : Int32) (x5 : Int32) (x6 : Int32) (x7 : Int32) (M : Mm) (hS : Sm M0 M) : NJ M0 (Mod_best_J137 k45 x0 x1 x2 x3 x4 x5 x6 x7 M) := by
  unfold Mod_best_J137
  refine NJ_ck ?_
  refine NJ_nn (fun b20 => ?_)
  refine NJ_ck ?_
  refine NJ_if ?_ ?_
  · refine NJ_nn (fun b22 => ?_)
    refine NJ_ck ?_
    exact nj_Mod_best_J161 k45 hk45 _ _ _ _ _ _ _ _ hS
  · exact nj_Mod_best_J161 k45 hk45 _ _ _ _ _ _ _ _ hS
theorem fj_Mod_best_J125 {D : Nat → Prop} {M0 : Mm} (hT : Tp D M0) (k45 : Nat → Int32 → Int32 → Int32 → Int32 → Int32 → Int32 → Mm → Option (Int32 × Mm)) (hk45 : ∀ (x0 : Nat) (hx0 : D x0) (x1 : Int32) (x2 : Int32) (x3 : Int32) (x4 : Int32) (x5 : Int32) (x6 : Int32) (M : Mm) (hF : Fr D M0 M), FJ D M0 (k45 x0 x1 x2 x3 x4 x5 x6 M)) (x0 : Nat) (hx0 : D x0) (x1 : Int32) (x2 : Int32) (x3 : Int32) (x6 : Int32) (x7 : Int32) (M : Mm) (hF : Fr D M0 M) : FJ D M0 (Mod_best_J125 k45 x0 x1 x2 x3 x6 x7 M) := by
  unfold Mod_best_J125
  refine FJ_ck ?_
  refine FJ_nn hF hx0 (fun b16 hb16 => ?_)
  refine FJ_ck ?_
  exact fj_Mod_best_J137 hT k45 hk45 _ hx0 _ _ _ _ _ _ _ _ hF
theorem nj_Mod_best_J125 {M0 : Mm} (k45 : Nat → Int32 → Int32 → Int32 → Int32 → Int32 → Int32 → Mm → Option (Int32 × Mm)) (hk45 : ∀ (x0 : Nat) (x1 : Int32) (x2 : Int32) (x3 : Int32) (x4 : Int32) (x5 : Int32) (x6 : Int32) (M : Mm) (hS : Sm M0 M), NJ M0 (k45 x0 x1 x2 x3 x4 x5 x6 M)) (x0 : Nat) (x1 : Int32) (x2 : Int32) (x3 : Int32) (x6 : Int32) (x7 : Int32) (M : Mm) (hS : Sm M0 M) : NJ M0 (Mod_best_J125 k45 x0 x1 x2 x3 x6 x7 M) := by
  unfold Mod_best_J125
  refine NJ_ck ?_
  refine NJ_nn (fun b16 => ?_)
  refine NJ_ck ?_
  exact nj_Mod_best_J137 k45 hk45 _ _ _ _ _ _ _ _ _ hS
theorem fj_Mod_best_B45 {D : Nat → Prop} {M0 : Mm} (hT : Tp D M0) (k45 : Nat → Int32 → Int32 → Int32 → Int32 → Int32 → Int32 → Mm → Option (Int32 × Mm)) (hk45 : ∀ (x0 : Nat) (hx0 : D x0) (x1 : Int32) (x2 : Int32) (x3 : Int32) (x4 : Int32) (x5 : Int32) (x6 : Int32) (M : Mm) (hF : Fr D M0 M), FJ D M0 (k45 x0 x1 x2 x3 x4 x5 x6 M)) (x0 : Nat) (hx0 : D x0) (x1 : Int32) (x2 : Int32) (x3 : Int32) (x4 : Int32) (x5 : Int32) (x6 : Int32) (M : Mm) (hF : Fr D M0 M) : FJ D M0 (Mod_best_B45 k45 x0 x1 x2 x3 x4 x5 x6 M) := by
  unfold Mod_best_B45
  refine FJ_ck ?_
  refine FJ_nn hF hx0 (fun b7 hb7 => ?_)
  refine FJ_ck ?_
  refine FJ_if ?_ ?_
  · refine FJ_if ?_ ?_
    · refine FJ_if ?_ ?_
      · exact FJ_leaf hF
      · exact FJ_leaf hF
    · exact FJ_leaf hF
  · refine FJ_nn hF hx0 (fun b10 hb10 => ?_)
    refine FJ_ck ?_
    refine FJ_if ?_ ?_
    · exact fj_Mod_best_J161 hT k45 hk45 _ hx0 _ _ _ _ _ _ _ hF
    · refine FJ_nn hF hx0 (fun b13 hb13 => ?_)
      refine FJ_ck ?_
      refine FJ_if ?_ ?_
      · refine FJ_if ?_ ?_
        · exact fj_Mod_best_J125 hT k45 hk45 _ hx0 _ _ _ _ _ _ hF
        · refine FJ_if ?_ ?_
          · refine FJ_nn hF hx0 (fun b25 hb25 => ?_)
            refine FJ_ck ?_
            refine FJ_if ?_ ?_
            · exact fj_Mod_best_J137 hT k45 hk45 _ hx0 _ _ _ _ _ _ _ _ hF
            · exact fj_Mod_best_J125 hT k45 hk45 _ hx0 _ _ _ _ _ _ hF
          · refine FJ_nn hF hx0 (fun b27 hb27 => ?_)
            refine FJ_ck ?_
            refine FJ_if ?_ ?_
            · exact fj_Mod_best_J137 hT k45 hk45 _ hx0 _ _ _ _ _ _ _ _ hF
            · exact fj_Mod_best_J125 hT k45 hk45 _ hx0 _ _ _ _ _ _ hF
      · exact fj_Mod_best_J161 hT k45 hk45 _ hx0 _ _ _ _ _ _ _ hF
theorem nj_Mod_best_B45 {M0 : Mm} (k45 : Nat → Int32 → Int32 → Int32 → Int32 → Int32 → Int32 → Mm → Option (Int32 × Mm)) (hk45 : ∀ (x0 : Nat) (x1 : Int32) (x2 : Int32) (x3 : Int32) (x4 : Int32) (x5 : Int32) (x6 : Int32) (M : Mm) (hS : Sm M0 M), NJ M0 (k45 x0 x1 x2 x3 x4 x5 x6 M)) (x0 : Nat) (x1 : Int32) (x2 : Int32) (x3 : Int32) (x4 : Int32) (x5 : Int32) (x6 : Int32) (M : Mm) (hS : Sm M0 M) : NJ M0 (Mod_best_B45 k45 x0 x1 x2 x3 x4 x5 x6 M) := by
  unfold Mod_best_B45
  refine NJ_ck ?_
  refine NJ_nn (fun b7 => ?_)
  refine NJ_ck ?_
  refine NJ_if ?_ ?_
  · refine NJ_if ?_ ?_
    · refine NJ_if ?_ ?_
      · exact NJ_leaf hS
      · exact NJ_leaf hS
    · exact NJ_leaf hS
  · refine NJ_nn (fun b10 => ?_)
    refine NJ_ck ?_
    refine NJ_if ?_ ?_
    · exact nj_Mod_best_J161 k45 hk45 _ _ _ _ _ _ _ _ hS
    · refine NJ_nn (fun b13 => ?_)
      refine NJ_ck ?_
      refine NJ_if ?_ ?_
      · refine NJ_if ?_ ?_
        · exact nj_Mod_best_J125 k45 hk45 _ _ _ _ _ _ _ hS
        · refine NJ_if ?_ ?_
          · refine NJ_nn (fun b25 => ?_)
            refine NJ_ck ?_
            refine NJ_if ?_ ?_
            · exact nj_Mod_best_J137 k45 hk45 _ _ _ _ _ _ _ _ _ hS
            · exact nj_Mod_best_J125 k45 hk45 _ _ _ _ _ _ _ hS
          · refine NJ_nn (fun b27 => ?_)
            refine NJ_ck ?_
            refine NJ_if ?_ ?_
            · exact nj_Mod_best_J137 k45 hk45 _ _ _ _ _ _ _ _ _ hS
            · exact nj_Mod_best_J125 k45 hk45 _ _ _ _ _ _ _ hS
      · exact nj_Mod_best_J161 k45 hk45 _ _ _ _ _ _ _ _ hS
theorem fj_Mod_best_L45 {D : Nat → Prop} {M0 : Mm} (hT : Tp D M0) : ∀ (n : Nat) (x0 : Nat) (hx0 : D x0) (x1 : Int32) (x2 : Int32) (x3 : Int32) (x4 : Int32) (x5 : Int32) (x6 : Int32) (M : Mm) (hF : Fr D M0 M), FJ D M0 (Mod_best_L45 n x0 x1 x2 x3 x4 x5 x6 M) := by
  intro n
  induction n with
  | zero => intros; exact FJ_none
  | succ n ih => intro x0 hx0 x1 x2 x3 x4 x5 x6 M hF; exact fj_Mod_best_B45 hT _ ih x0 hx0 x1 x2 x3 x4 x5 x6 M hF
theorem nj_Mod_best_L45 {M0 : Mm} : ∀ (n : Nat) (x0 : Nat) (x1 : Int32) (x2 : Int32) (x3 : Int32) (x4 : Int32) (x5 : Int32) (x6 : Int32) (M : Mm) (hS : Sm M0 M), NJ M0 (Mod_best_L45 n x0 x1 x2 x3 x4 x5 x6 M) := by
  intro n
  induction n with
  | zero => intros; exact NJ_none
  | succ n ih => intro x0 x1 x2 x3 x4 x5 x6 M hS; exact nj_Mod_best_B45 _ ih x0 x1 x2 x3 x4 x5 x6 M hS
theorem fj_Mod_best_J28 {D : Nat → Prop} {M0 : Mm} (hT : Tp D M0) (x0 : Nat) (hx0 : D x0) (x1 : Int32) (s0 : Int32) (M : Mm) (hF : Fr D M0 M) : FJ D M0 (Mod_best_J28 x0 x1 s0 M) := by
  unfold Mod_best_J28
  refine FJ_ck ?_
  exact fj_Mod_best_L45 hT fu _ hx0 _ _ _ _ _ _ _ hF
theorem nj_Mod_best_J28 {M0 : Mm} (x0 : Nat) (x1 : Int32) (s0 : Int32) (M : Mm) (hS : Sm M0 M) : NJ M0 (Mod_best_J28 x0 x1 s0 M) := by
  unfold Mod_best_J28
  refine NJ_ck ?_
  exact nj_Mod_best_L45 fu _ _ _ _ _ _ _ _ hS
theorem fj_Mod_best {D : Nat → Prop} {M : Mm} (hC : Cl D M) (hT : Tp D M) (a0 : Nat) (h0 : D a0) (a1 : Int32) : FJ D M (Mod_best M a0 a1) := by
  unfold Mod_best
  refine FJ_ck ?_
  refine FJ_if ?_ ?_
  · exact FJ_leaf (Fr.rf hC)
  · refine FJ_bd hT (Fr.rf hC) (fun gC gT => fj_Mod_in gC gT _ _ _) (fun r2 M3 hFM3 => ?_)
    refine FJ_if ?_ ?_
    · exact FJ_leaf hFM3
    · refine FJ_if ?_ ?_
      · exact fj_Mod_best_J28 hT _ h0 _ _ _ hFM3
      · exact fj_Mod_best_J28 hT _ h0 _ _ _ hFM3
theorem nj_Mod_best (M : Mm) (a0 : Nat) (a1 : Int32) : NJ M (Mod_best M a0 a1) := by
  unfold Mod_best
  refine NJ_ck ?_
  refine NJ_if ?_ ?_
  · exact NJ_leaf Sm.rf
  · refine NJ_bd Sm.rf (nj_Mod_in _ _ _ _) (fun r2 M3 hSM3 => ?_)
    refine NJ_if ?_ ?_
    · exact NJ_leaf hSM3
    · refine NJ_if ?_ ?_
      · exact nj_Mod_best_J28 _ _ _ _ hSM3
      · exact nj_Mod_best_J28 _ _ _ _ hSM3
theorem fj_Mod_owe {D : Nat → Prop} {M : Mm} (hC : Cl D M) (hT : Tp D M) (a0 : Nat) (h0 : D a0) (a1 : Int32) (a2 : Int32) (a3 : Int32) : FJ D M (Mod_owe M a0 a1 a2 a3) := by
  unfold Mod_owe
  refine FJ_ck ?_
  refine FJ_bd hT (Fr.rf hC) (fun gC gT => fj_Mod_isPerson gC gT _ h0 _) (fun r2 M3 hFM3 => ?_)
  refine FJ_if ?_ ?_
  · exact FJ_leaf hFM3
  · refine FJ_ck ?_
    refine FJ_bd hT hFM3 (fun gC gT => fj_Mod_isPerson gC gT _ h0 _) (fun r5 M6 hFM6 => ?_)
    refine FJ_if ?_ ?_
    · exact FJ_leaf hFM6
    · refine FJ_if ?_ ?_
      · exact FJ_leaf hFM6
      · refine FJ_bd hT hFM6 (fun gC gT => fj_Mod_in gC gT _ _ _) (fun r7 M8 hFM8 => ?_)
        refine FJ_if ?_ ?_
        · exact FJ_leaf hFM8
        · refine FJ_ck ?_
          refine FJ_nn hFM8 h0 (fun b10 hb10 => ?_)
          refine FJ_ck ?_
          exact FJ_leaf (Fr_sI hFM8 hb10)
theorem nj_Mod_owe (M : Mm) (a0 : Nat) (a1 : Int32) (a2 : Int32) (a3 : Int32) : NJ M (Mod_owe M a0 a1 a2 a3) := by
  unfold Mod_owe
  refine NJ_ck ?_
  refine NJ_bd Sm.rf (nj_Mod_isPerson _ _ _) (fun r2 M3 hSM3 => ?_)
  refine NJ_if ?_ ?_
  · exact NJ_leaf hSM3
  · refine NJ_ck ?_
    refine NJ_bd hSM3 (nj_Mod_isPerson _ _ _) (fun r5 M6 hSM6 => ?_)
    refine NJ_if ?_ ?_
    · exact NJ_leaf hSM6
    · refine NJ_if ?_ ?_
      · exact NJ_leaf hSM6
      · refine NJ_bd hSM6 (nj_Mod_in _ _ _ _) (fun r7 M8 hSM8 => ?_)
        refine NJ_if ?_ ?_
        · exact NJ_leaf hSM8
        · refine NJ_ck ?_
          refine NJ_nn (fun b10 => ?_)
          refine NJ_ck ?_
          exact NJ_leaf (Sm_sI hSM8)
theorem fj_Mod_assets_J164 {D : Nat → Prop} {M0 : Mm} (hT : Tp D M0) (k98 : Nat → Int32 → Int32 → Int64 → Int32 → Mm → Option (Int64 × Mm)) (hk98 : ∀ (x0 : Nat) (hx0 : D x0) (x1 : Int32) (x2 : Int32) (x3 : Int64) (x7 : Int32) (M : Mm) (hF : Fr D M0 M), FJ D M0 (k98 x0 x1 x2 x3 x7 M)) (x0 : Nat) (hx0 : D x0) (x1 : Int32) (x2 : Int32) (x7 : Int32) (s0 : Int64) (s1 : Int64) (M : Mm) (hF : Fr D M0 M) : FJ D M0 (Mod_assets_J164 k98 x0 x1 x2 x7 s0 s1 M) := by
  unfold Mod_assets_J164
  exact hk98 _ hx0 _ _ _ _ _ hF
theorem nj_Mod_assets_J164 {M0 : Mm} (k98 : Nat → Int32 → Int32 → Int64 → Int32 → Mm → Option (Int64 × Mm)) (hk98 : ∀ (x0 : Nat) (x1 : Int32) (x2 : Int32) (x3 : Int64) (x7 : Int32) (M : Mm) (hS : Sm M0 M), NJ M0 (k98 x0 x1 x2 x3 x7 M)) (x0 : Nat) (x1 : Int32) (x2 : Int32) (x7 : Int32) (s0 : Int64) (s1 : Int64) (M : Mm) (hS : Sm M0 M) : NJ M0 (Mod_assets_J164 k98 x0 x1 x2 x7 s0 s1 M) := by
  unfold Mod_assets_J164
  exact hk98 _ _ _ _ _ _ hS
theorem fj_Mod_assets_J162 {D : Nat → Prop} {M0 : Mm} (hT : Tp D M0) (k98 : Nat → Int32 → Int32 → Int64 → Int32 → Mm → Option (Int64 × Mm)) (hk98 : ∀ (x0 : Nat) (hx0 : D x0) (x1 : Int32) (x2 : Int32) (x3 : Int64) (x7 : Int32) (M : Mm) (hF : Fr D M0 M), FJ D M0 (k98 x0 x1 x2 x3 x7 M)) (x0 : Nat) (hx0 : D x0) (x1 : Int32) (x2 : Int32) (x7 : Int32) (x8 : Int64) (s0 : Int64) (M : Mm) (hF : Fr D M0 M) : FJ D M0 (Mod_assets_J162 k98 x0 x1 x2 x7 x8 s0 M) := by
  unfold Mod_assets_J162
  exact fj_Mod_assets_J164 hT k98 hk98 _ hx0 _ _ _ _ _ _ hF
theorem nj_Mod_assets_J162 {M0 : Mm} (k98 : Nat → Int32 → Int32 → Int64 → Int32 → Mm → Option (Int64 × Mm)) (hk98 : ∀ (x0 : Nat) (x1 : Int32) (x2 : Int32) (x3 : Int64) (x7 : Int32) (M : Mm) (hS : Sm M0 M), NJ M0 (k98 x0 x1 x2 x3 x7 M)) (x0 : Nat) (x1 : Int32) (x2 : Int32) (x7 : Int32) (x8 : Int64) (s0 : Int64) (M : Mm) (hS : Sm M0 M) : NJ M0 (Mod_assets_J162 k98 x0 x1 x2 x7 x8 s0 M) := by
  unfold Mod_assets_J162
  exact nj_Mod_assets_J164 k98 hk98 _ _ _ _ _ _ _ hS
theorem fj_Mod_assets_B98 {D : Nat → Prop} {M0 : Mm} (hT : Tp D M0) (k98 : Nat → Int32 → Int32 → Int64 → Int32 → Mm → Option (Int64 × Mm)) (hk98 : ∀ (x0 : Nat) (hx0 : D x0) (x1 : Int32) (x2 : Int32) (x3 : Int64) (x7 : Int32) (M : Mm) (hF : Fr D M0 M), FJ D M0 (k98 x0 x1 x2 x3 x7 M)) (x0 : Nat) (hx0 : D x0) (x1 : Int32) (x2 : Int32) (x3 : Int64) (x7 : Int32) (M : Mm) (hF : Fr D M0 M) : FJ D M0 (Mod_assets_B98 k98 x0 x1 x2 x3 x7 M) := by
  unfold Mod_assets_B98
  refine FJ_ck ?_
  refine FJ_if ?_ ?_
  · exact FJ_leaf hF
  · refine FJ_nn hF hx0 (fun b9 hb9 => ?_)
    refine FJ_ck ?_
    refine FJ_nn hF hx0 (fun b12 hb12 => ?_)
    refine FJ_ck ?_
    refine FJ_if ?_ ?_
    · exact fj_Mod_assets_J162 hT k98 hk98 _ hx0 _ _ _ _ _ _ hF
    · refine FJ_nn hF hx0 (fun b16 hb16 => ?_)
      refine FJ_ck ?_
      refine FJ_if ?_ ?_
      · exact fj_Mod_assets_J162 hT k98 hk98 _ hx0 _ _ _ _ _ _ hF
      · refine FJ_nn hF hx0 (fun b18 hb18 => ?_)
        refine FJ_ck ?_
        exact fj_Mod_assets_J164 hT k98 hk98 _ hx0 _ _ _ _ _ _ hF
theorem nj_Mod_assets_B98 {M0 : Mm} (k98 : Nat → Int32 → Int32 → Int64 → Int32 → Mm → Option (Int64 × Mm)) (hk98 : ∀ (x0 : Nat) (x1 : Int32) (x2 : Int32) (x3 : Int64) (x7 : Int32) (M : Mm) (hS : Sm M0 M), NJ M0 (k98 x0 x1 x2 x3 x7 M)) (x0 : Nat) (x1 : Int32) (x2 : Int32) (x3 : Int64) (x7 : Int32) (M : Mm) (hS : Sm M0 M) : NJ M0 (Mod_assets_B98 k98 x0 x1 x2 x3 x7 M) := by
  unfold Mod_assets_B98
  refine NJ_ck ?_
  refine NJ_if ?_ ?_
  · exact NJ_leaf hS
  · refine NJ_nn (fun b9 => ?_)
    refine NJ_ck ?_
    refine NJ_nn (fun b12 => ?_)
    refine NJ_ck ?_
    refine NJ_if ?_ ?_
    · exact nj_Mod_assets_J162 k98 hk98 _ _ _ _ _ _ _ hS
    · refine NJ_nn (fun b16 => ?_)
      refine NJ_ck ?_
      refine NJ_if ?_ ?_
      · exact nj_Mod_assets_J162 k98 hk98 _ _ _ _ _ _ _ hS
      · refine NJ_nn (fun b18 => ?_)
        refine NJ_ck ?_
        exact nj_Mod_assets_J164 k98 hk98 _ _ _ _ _ _ _ hS
theorem fj_Mod_assets_L98 {D : Nat → Prop} {M0 : Mm} (hT : Tp D M0) : ∀ (n : Nat) (x0 : Nat) (hx0 : D x0) (x1 : Int32) (x2 : Int32) (x3 : Int64) (x7 : Int32) (M : Mm) (hF : Fr D M0 M), FJ D M0 (Mod_assets_L98 n x0 x1 x2 x3 x7 M) := by
  intro n
  induction n with
  | zero => intros; exact FJ_none
  | succ n ih => intro x0 hx0 x1 x2 x3 x7 M hF; exact fj_Mod_assets_B98 hT _ ih x0 hx0 x1 x2 x3 x7 M hF
theorem nj_Mod_assets_L98 {M0 : Mm} : ∀ (n : Nat) (x0 : Nat) (x1 : Int32) (x2 : Int32) (x3 : Int64) (x7 : Int32) (M : Mm) (hS : Sm M0 M), NJ M0 (Mod_assets_L98 n x0 x1 x2 x3 x7 M) := by
  intro n
  induction n with
  | zero => intros; exact NJ_none
  | succ n ih => intro x0 x1 x2 x3 x7 M hS; exact nj_Mod_assets_B98 _ ih x0 x1 x2 x3 x7 M hS
theorem fj_Mod_assets_B50 {D : Nat → Prop} {M0 : Mm} (hT : Tp D M0) (k50 : Nat → Int32 → Int32 → Int64 → Int64 → Int32 → Mm → Option (Int64 × Mm)) (hk50 : ∀ (x0 : Nat) (hx0 : D x0) (x1 : Int32) (x2 : Int32) (x3 : Int64) (x5 : Int64) (x7 : Int32) (M : Mm) (hF : Fr D M0 M), FJ D M0 (k50 x0 x1 x2 x3 x5 x7 M)) (x0 : Nat) (hx0 : D x0) (x1 : Int32) (x2 : Int32) (x3 : Int64) (x5 : Int64) (x7 : Int32) (M : Mm) (hF : Fr D M0 M) : FJ D M0 (Mod_assets_B50 k50 x0 x1 x2 x3 x5 x7 M) := by
  unfold Mod_assets_B50
  refine FJ_ck ?_
  refine FJ_if ?_ ?_
  · exact fj_Mod_assets_L98 hT fu _ hx0 _ _ _ _ _ hF
  · refine FJ_nn hF hx0 (fun b20 hb20 => ?_)
    refine FJ_ck ?_
    refine FJ_bd hT hF (fun gC gT => fj_Mod_shareOf gC gT _ hx0 _) (fun r22 M23 hFM23 => ?_)
    exact hk50 _ hx0 _ _ _ _ _ _ hFM23
theorem nj_Mod_assets_B50 {M0 : Mm} (k50 : Nat → Int32 → Int32 → Int64 → Int64 → Int32 → Mm → Option (Int64 × Mm)) (hk50 : ∀ (x0 : Nat) (x1 : Int32) (x2 : Int32) (x3 : Int64) (x5 : Int64) (x7 : Int32) (M : Mm) (hS : Sm M0 M), NJ M0 (k50 x0 x1 x2 x3 x5 x7 M)) (x0 : Nat) (x1 : Int32) (x2 : Int32) (x3 : Int64) (x5 : Int64) (x7 : Int32) (M : Mm) (hS : Sm M0 M) : NJ M0 (Mod_assets_B50 k50 x0 x1 x2 x3 x5 x7 M) := by
  unfold Mod_assets_B50
  refine NJ_ck ?_
  refine NJ_if ?_ ?_
  · exact nj_Mod_assets_L98 fu _ _ _ _ _ _ hS
  · refine NJ_nn (fun b20 => ?_)
    refine NJ_ck ?_
    refine NJ_bd hS (nj_Mod_shareOf _ _ _) (fun r22 M23 hSM23 => ?_)
    exact hk50 _ _ _ _ _ _ _ hSM23
theorem fj_Mod_assets_L50 {D : Nat → Prop} {M0 : Mm} (hT : Tp D M0) : ∀ (n : Nat) (x0 : Nat) (hx0 : D x0) (x1 : Int32) (x2 : Int32) (x3 : Int64) (x5 : Int64) (x7 : Int32) (M : Mm) (hF : Fr D M0 M), FJ D M0 (Mod_assets_L50 n x0 x1 x2 x3 x5 x7 M) := by
  intro n
  induction n with
  | zero => intros; exact FJ_none
  | succ n ih => intro x0 hx0 x1 x2 x3 x5 x7 M hF; exact fj_Mod_assets_B50 hT _ ih x0 hx0 x1 x2 x3 x5 x7 M hF
theorem nj_Mod_assets_L50 {M0 : Mm} : ∀ (n : Nat) (x0 : Nat) (x1 : Int32) (x2 : Int32) (x3 : Int64) (x5 : Int64) (x7 : Int32) (M : Mm) (hS : Sm M0 M), NJ M0 (Mod_assets_L50 n x0 x1 x2 x3 x5 x7 M) := by
  intro n
  induction n with
  | zero => intros; exact NJ_none
  | succ n ih => intro x0 x1 x2 x3 x5 x7 M hS; exact nj_Mod_assets_B50 _ ih x0 x1 x2 x3 x5 x7 M hS
theorem fj_Mod_assets_J45 {D : Nat → Prop} {M0 : Mm} (hT : Tp D M0) (x0 : Nat) (hx0 : D x0) (x1 : Int32) (x2 : Int32) (x3 : Int64) (s0 : Int64) (M : Mm) (hF : Fr D M0 M) : FJ D M0 (Mod_assets_J45 x0 x1 x2 x3 s0 M) := by
  unfold Mod_assets_J45
  exact fj_Mod_assets_L50 hT fu _ hx0 _ _ _ _ _ _ hF
theorem nj_Mod_assets_J45 {M0 : Mm} (x0 : Nat) (x1 : Int32) (x2 : Int32) (x3 : Int64) (s0 : Int64) (M : Mm) (hS : Sm M0 M) : NJ M0 (Mod_assets_J45 x0 x1 x2 x3 s0 M) := by
  unfold Mod_assets_J45
  exact nj_Mod_assets_L50 fu _ _ _ _ _ _ _ hS
theorem fj_Mod_assets_J21 {D : Nat → Prop} {M0 : Mm} (hT : Tp D M0) (x0 : Nat) (hx0 : D x0) (x1 : Int32) (x2 : Int32) (s0 : Int64) (M : Mm) (hF : Fr D M0 M) : FJ D M0 (Mod_assets_J21 x0 x1 x2 s0 M) := by
  unfold Mod_assets_J21
  refine FJ_ck ?_
  refine FJ_if ?_ ?_
  · exact fj_Mod_assets_J45 hT _ hx0 _ _ _ _ _ hF
  · refine FJ_nn hF hx0 (fun b5 hb5 => ?_)
    refine FJ_ck ?_
    exact fj_Mod_assets_J45 hT _ hx0 _ _ _ _ _ hF
theorem nj_Mod_assets_J21 {M0 : Mm} (x0 : Nat) (x1 : Int32) (x2 : Int32) (s0 : Int64) (M : Mm) (hS : Sm M0 M) : NJ M0 (Mod_assets_J21 x0 x1 x2 s0 M) := by
  unfold Mod_assets_J21
  refine NJ_ck ?_
  refine NJ_if ?_ ?_
  · exact nj_Mod_assets_J45 _ _ _ _ _ _ hS
  · refine NJ_nn (fun b5 => ?_)
    refine NJ_ck ?_
    exact nj_Mod_assets_J45 _ _ _ _ _ _ hS
theorem fj_Mod_assets {D : Nat → Prop} {M : Mm} (hC : Cl D M) (hT : Tp D M) (a0 : Nat) (h0 : D a0) (a1 : Int32) (a2 : Int32) : FJ D M (Mod_assets M a0 a1 a2) := by
  unfold Mod_assets
  refine FJ_ck ?_
  refine FJ_nn (Fr.rf hC) h0 (fun b2 hb2 => ?_)
  refine FJ_ck ?_
  refine FJ_if ?_ ?_
  · exact fj_Mod_assets_J21 hT _ h0 _ _ _ _ (Fr.rf hC)
  · refine FJ_nn (Fr.rf hC) h0 (fun b26 hb26 => ?_)
    refine FJ_ck ?_
    exact fj_Mod_assets_J21 hT _ h0 _ _ _ _ (Fr.rf hC)
theorem nj_Mod_assets (M : Mm) (a0 : Nat) (a1 : Int32) (a2 : Int32) : NJ M (Mod_assets M a0 a1 a2) := by
  unfold Mod_assets
  refine NJ_ck ?_
  refine NJ_nn (fun b2 => ?_)
  refine NJ_ck ?_
  refine NJ_if ?_ ?_
  · exact nj_Mod_assets_J21 _ _ _ _ _ Sm.rf
  · refine NJ_nn (fun b26 => ?_)
    refine NJ_ck ?_
    exact nj_Mod_assets_J21 _ _ _ _ _ Sm.rf
theorem fj_Mod_debts_B26 {D : Nat → Prop} {M0 : Mm} (hT : Tp D M0) (k26 : Nat → Int32 → Int64 → Int32 → Mm → Option (Int64 × Mm)) (hk26 : ∀ (x0 : Nat) (hx0 : D x0) (x1 : Int32) (x2 : Int64) (x4 : Int32) (M : Mm) (hF : Fr D M0 M), FJ D M0 (k26 x0 x1 x2 x4 M)) (x0 : Nat) (hx0 : D x0) (x1 : Int32) (x2 : Int64) (x4 : Int32) (M : Mm) (hF : Fr D M0 M) : FJ D M0 (Mod_debts_B26 k26 x0 x1 x2 x4 M) := by
  unfold Mod_debts_B26
  refine FJ_ck ?_
  refine FJ_if ?_ ?_
  · exact FJ_leaf hF
  · refine FJ_nn hF hx0 (fun b5 hb5 => ?_)
    refine FJ_ck ?_
    exact hk26 _ hx0 _ _ _ _ hF
theorem nj_Mod_debts_B26 {M0 : Mm} (k26 : Nat → Int32 → Int64 → Int32 → Mm → Option (Int64 × Mm)) (hk26 : ∀ (x0 : Nat) (x1 : Int32) (x2 : Int64) (x4 : Int32) (M : Mm) (hS : Sm M0 M), NJ M0 (k26 x0 x1 x2 x4 M)) (x0 : Nat) (x1 : Int32) (x2 : Int64) (x4 : Int32) (M : Mm) (hS : Sm M0 M) : NJ M0 (Mod_debts_B26 k26 x0 x1 x2 x4 M) := by
  unfold Mod_debts_B26
  refine NJ_ck ?_
  refine NJ_if ?_ ?_
  · exact NJ_leaf hS
  · refine NJ_nn (fun b5 => ?_)
    refine NJ_ck ?_
    exact hk26 _ _ _ _ _ hS
theorem fj_Mod_debts_L26 {D : Nat → Prop} {M0 : Mm} (hT : Tp D M0) : ∀ (n : Nat) (x0 : Nat) (hx0 : D x0) (x1 : Int32) (x2 : Int64) (x4 : Int32) (M : Mm) (hF : Fr D M0 M), FJ D M0 (Mod_debts_L26 n x0 x1 x2 x4 M) := by
  intro n
  induction n with
  | zero => intros; exact FJ_none
  | succ n ih => intro x0 hx0 x1 x2 x4 M hF; exact fj_Mod_debts_B26 hT _ ih x0 hx0 x1 x2 x4 M hF
theorem nj_Mod_debts_L26 {M0 : Mm} : ∀ (n : Nat) (x0 : Nat) (x1 : Int32) (x2 : Int64) (x4 : Int32) (M : Mm) (hS : Sm M0 M), NJ M0 (Mod_debts_L26 n x0 x1 x2 x4 M) := by
  intro n
  induction n with
  | zero => intros; exact NJ_none
  | succ n ih => intro x0 x1 x2 x4 M hS; exact nj_Mod_debts_B26 _ ih x0 x1 x2 x4 M hS
theorem fj_Mod_debts_J22 {D : Nat → Prop} {M0 : Mm} (hT : Tp D M0) (x0 : Nat) (hx0 : D x0) (x1 : Int32) (s0 : Int64) (M : Mm) (hF : Fr D M0 M) : FJ D M0 (Mod_debts_J22 x0 x1 s0 M) := by
  unfold Mod_debts_J22
  exact fj_Mod_debts_L26 hT fu _ hx0 _ _ _ _ hF
theorem nj_Mod_debts_J22 {M0 : Mm} (x0 : Nat) (x1 : Int32) (s0 : Int64) (M : Mm) (hS : Sm M0 M) : NJ M0 (Mod_debts_J22 x0 x1 s0 M) := by
  unfold Mod_debts_J22
  exact nj_Mod_debts_L26 fu _ _ _ _ _ hS
theorem fj_Mod_debts {D : Nat → Prop} {M : Mm} (hC : Cl D M) (hT : Tp D M) (a0 : Nat) (h0 : D a0) (a1 : Int32) : FJ D M (Mod_debts M a0 a1) := by
  unfold Mod_debts
  refine FJ_ck ?_
  refine FJ_nn (Fr.rf hC) h0 (fun b2 hb2 => ?_)
  refine FJ_ck ?_
  refine FJ_if ?_ ?_
  · exact fj_Mod_debts_J22 hT _ h0 _ _ _ (Fr.rf hC)
  · refine FJ_nn (Fr.rf hC) h0 (fun b9 hb9 => ?_)
    refine FJ_ck ?_
    exact fj_Mod_debts_J22 hT _ h0 _ _ _ (Fr.rf hC)
theorem nj_Mod_debts (M : Mm) (a0 : Nat) (a1 : Int32) : NJ M (Mod_debts M a0 a1) := by
  unfold Mod_debts
  refine NJ_ck ?_
  refine NJ_nn (fun b2 => ?_)
  refine NJ_ck ?_
  refine NJ_if ?_ ?_
  · exact nj_Mod_debts_J22 _ _ _ _ Sm.rf
  · refine NJ_nn (fun b9 => ?_)
    refine NJ_ck ?_
    exact nj_Mod_debts_J22 _ _ _ _ Sm.rf
theorem fj_Mod_fails_J170 {D : Nat → Prop} {M0 : Mm} (hT : Tp D M0) (k61 : Nat → Int32 → Int32 → Int32 → Int32 → Int32 → Int32 → Mm → Option (Int32 × Mm)) (hk61 : ∀ (x0 : Nat) (hx0 : D x0) (x1 : Int32) (x2 : Int32) (x3 : Int32) (x4 : Int32) (x5 : Int32) (x6 : Int32) (M : Mm) (hF : Fr D M0 M), FJ D M0 (k61 x0 x1 x2 x3 x4 x5 x6 M)) (x0 : Nat) (hx0 : D x0) (x1 : Int32) (x2 : Int32) (x3 : Int32) (x4 : Int32) (x5 : Int32) (x6 : Int32) (M : Mm) (hF : Fr D M0 M) : FJ D M0 (Mod_fails_J170 k61 x0 x1 x2 x3 x4 x5 x6 M) := by
  unfold Mod_fails_J170
  exact hk61 _ hx0 _ _ _ _ _ _ _ hF
theorem nj_Mod_fails_J170 {M0 : Mm} (k61 : Nat → Int32 → Int32 → Int32 → Int32 → Int32 → Int32 → Mm → Option (Int32 × Mm)) (hk61 : ∀ (x0 : Nat) (x1 : Int32) (x2 : Int32) (x3 : Int32) (x4 : Int32) (x5 : Int32) (x6 : Int32) (M : Mm) (hS : Sm M0 M), NJ M0 (k61 x0 x1 x2 x3 x4 x5 x6 M)) (x0 : Nat) (x1 : Int32) (x2 : Int32) (x3 : Int32) (x4 : Int32) (x5 : Int32) (x6 : Int32) (M : Mm) (hS : Sm M0 M) : NJ M0 (Mod_fails_J170 k61 x0 x1 x2 x3 x4 x5 x6 M) := by
  unfold Mod_fails_J170
  exact hk61 _ _ _ _ _ _ _ _ hS
theorem fj_Mod_fails_J155 {D : Nat → Prop} {M0 : Mm} (hT : Tp D M0) (k61 : Nat → Int32 → Int32 → Int32 → Int32 → Int32 → Int32 → Mm → Option (Int32 × Mm)) (k72 : Nat → Int32 → Int32 → Int32 → Int32 → Int32 → Int32 → Int32 → Mm → Option (Int32 × Mm)) (hk61 : ∀ (x0 : Nat) (hx0 : D x0) (x1 : Int32) (x2 : Int32) (x3 : Int32) (x4 : Int32) (x5 : Int32) (x6 : Int32) (M : Mm) (hF : Fr D M0 M), FJ D M0 (k61 x0 x1 x2 x3 x4 x5 x6 M)) (hk72 : ∀ (x0 : Nat) (hx0 : D x0) (x1 : Int32) (x2 : Int32) (x3 : Int32) (x4 : Int32) (x5 : Int32) (x6 : Int32) (x7 : Int32) (M : Mm) (hF : Fr D M0 M), FJ D M0 (k72 x0 x1 x2 x3 x4 x5 x6 x7 M)) (x0 : Nat) (hx0 : D x0) (x1 : Int32) (x2 : Int32) (x3 : Int32) (x4 : Int32) (x5 : Int32) (x6 : Int32) (x7 : Int32) (M : Mm) (hF : Fr D M0 M) : FJ D M0 (Mod_fails_J155 k61 k72 x0 x1 x2 x3 x4 x5 x6 x7 M) := by
  unfold Mod_fails_J155
  exact hk72 _ hx0 _ _ _ _ _ _ _ _ hF
theorem nj_Mod_fails_J155 {M0 : Mm} (k61 : Nat → Int32 → Int32 → Int32 → Int32 → Int32 → Int32 → Mm → Option (Int32 × Mm)) (k72 : Nat → Int32 → Int32 → Int32 → Int32 → Int32 → Int32 → Int32 → Mm → Option (Int32 × Mm)) (hk61 : ∀ (x0 : Nat) (x1 : Int32) (x2 : Int32) (x3 : Int32) (x4 : Int32) (x5 : Int32) (x6 : Int32) (M : Mm) (hS : Sm M0 M), NJ M0 (k61 x0 x1 x2 x3 x4 x5 x6 M)) (hk72 : ∀ (x0 : Nat) (x1 : Int32) (x2 : Int32) (x3 : Int32) (x4 : Int32) (x5 : Int32) (x6 : Int32) (x7 : Int32) (M : Mm) (hS : Sm M0 M), NJ M0 (k72 x0 x1 x2 x3 x4 x5 x6 x7 M)) (x0 : Nat) (x1 : Int32) (x2 : Int32) (x3 : Int32) (x4 : Int32) (x5 : Int32) (x6 : Int32) (x7 : Int32) (M : Mm) (hS : Sm M0 M) : NJ M0 (Mod_fails_J155 k61 k72 x0 x1 x2 x3 x4 x5 x6 x7 M) := by
  unfold Mod_fails_J155
  exact hk72 _ _ _ _ _ _ _ _ _ hS
theorem fj_Mod_fails_B72 {D : Nat → Prop} {M0 : Mm} (hT : Tp D M0) (k61 : Nat → Int32 → Int32 → Int32 → Int32 → Int32 → Int32 → Mm → Option (Int32 × Mm)) (k72 : Nat → Int32 → Int32 → Int32 → Int32 → Int32 → Int32 → Int32 → Mm → Option (Int32 × Mm)) (hk61 : ∀ (x0 : Nat) (hx0 : D x0) (x1 : Int32) (x2 : Int32) (x3 : Int32) (x4 : Int32) (x5 : Int32) (x6 : Int32) (M : Mm) (hF : Fr D M0 M), FJ D M0 (k61 x0 x1 x2 x3 x4 x5 x6 M)) (hk72 : ∀ (x0 : Nat) (hx0 : D x0) (x1 : Int32) (x2 : Int32) (x3 : Int32) (x4 : Int32) (x5 : Int32) (x6 : Int32) (x7 : Int32) (M : Mm) (hF : Fr D M0 M), FJ D M0 (k72 x0 x1 x2 x3 x4 x5 x6 x7 M)) (x0 : Nat) (hx0 : D x0) (x1 : Int32) (x2 : Int32) (x3 : Int32) (x4 : Int32) (x5 : Int32) (x6 : Int32) (x7 : Int32) (M : Mm) (hF : Fr D M0 M) : FJ D M0 (Mod_fails_B72 k61 k72 x0 x1 x2 x3 x4 x5 x6 x7 M) := by
  unfold Mod_fails_B72
  refine FJ_ck ?_
  refine FJ_if ?_ ?_
  · refine FJ_if ?_ ?_
    · exact fj_Mod_fails_J170 hT k61 hk61 _ hx0 _ _ _ _ _ _ _ hF
    · exact fj_Mod_fails_J170 hT k61 hk61 _ hx0 _ _ _ _ _ _ _ hF
  · refine FJ_nn hF hx0 (fun b15 hb15 => ?_)
    refine FJ_ck ?_
    refine FJ_if ?_ ?_
    · refine FJ_bd hT hF (fun gC gT => fj_Mod_assets gC gT _ hx0 _ _) (fun r17 M18 hFM18 => ?_)
      refine FJ_ck ?_
      refine FJ_bd hT hFM18 (fun gC gT => fj_Mod_debts gC gT _ hx0 _) (fun r20 M21 hFM21 => ?_)
      refine FJ_if ?_ ?_
      · refine FJ_ck ?_
        refine FJ_nn hFM21 hx0 (fun b23 hb23 => ?_)
        refine FJ_ck ?_
        refine FJ_nn (Fr_sI hFM21 hb23) hx0 (fun b26 hb26 => ?_)
        refine FJ_ck ?_
        refine FJ_ck ?_
        exact fj_Mod_fails_J155 hT k61 k72 hk61 hk72 _ hx0 _ _ _ _ _ _ _ _ (Fr_sI (Fr_sI hFM21 hb23) hb26)
      · exact fj_Mod_fails_J155 hT k61 k72 hk61 hk72 _ hx0 _ _ _ _ _ _ _ _ hFM21
    · exact fj_Mod_fails_J155 hT k61 k72 hk61 hk72 _ hx0 _ _ _ _ _ _ _ _ hF
theorem nj_Mod_fails_B72 {M0 : Mm} (k61 : Nat → Int32 → Int32 → Int32 → Int32 → Int32 → Int32 → Mm → Option (Int32 × Mm)) (k72 : Nat → Int32 → Int32 → Int32 → Int32 → Int32 → Int32 → Int32 → Mm → Option (Int32 × Mm)) (hk61 : ∀ (x0 : Nat) (x1 : Int32) (x2 : Int32) (x3 : Int32) (x4 : Int32) (x5 : Int32) (x6 : Int32) (M : Mm) (hS : Sm M0 M), NJ M0 (k61 x0 x1 x2 x3 x4 x5 x6 M)) (hk72 : ∀ (x0 : Nat) (x1 : Int32) (x2 : Int32) (x3 : Int32) (x4 : Int32) (x5 : Int32) (x6 : Int32) (x7 : Int32) (M : Mm) (hS : Sm M0 M), NJ M0 (k72 x0 x1 x2 x3 x4 x5 x6 x7 M)) (x0 : Nat) (x1 : Int32) (x2 : Int32) (x3 : Int32) (x4 : Int32) (x5 : Int32) (x6 : Int32) (x7 : Int32) (M : Mm) (hS : Sm M0 M) : NJ M0 (Mod_fails_B72 k61 k72 x0 x1 x2 x3 x4 x5 x6 x7 M) := by
  unfold Mod_fails_B72
  refine NJ_ck ?_
  refine NJ_if ?_ ?_
  · refine NJ_if ?_ ?_
    · exact nj_Mod_fails_J170 k61 hk61 _ _ _ _ _ _ _ _ hS
    · exact nj_Mod_fails_J170 k61 hk61 _ _ _ _ _ _ _ _ hS
  · refine NJ_nn (fun b15 => ?_)
    refine NJ_ck ?_
    refine NJ_if ?_ ?_
    · refine NJ_bd hS (nj_Mod_assets _ _ _ _) (fun r17 M18 hSM18 => ?_)
      refine NJ_ck ?_
      refine NJ_bd hSM18 (nj_Mod_debts _ _ _) (fun r20 M21 hSM21 => ?_)
      refine NJ_if ?_ ?_
      · refine NJ_ck ?_
        refine NJ_nn (fun b23 => ?_)
        refine NJ_ck ?_
        refine NJ_nn (fun b26 => ?_)
        refine NJ_ck ?_
        refine NJ_ck ?_
        exact nj_Mod_fails_J155 k61 k72 hk61 hk72 _ _ _ _ _ _ _ _ _ (Sm_sI (Sm_sI hSM21))
      · exact nj_Mod_fails_J155 k61 k72 hk61 hk72 _ _ _ _ _ _ _ _ _ hSM21
    · exact nj_Mod_fails_J155 k61 k72 hk61 hk72 _ _ _ _ _ _ _ _ _ hS
theorem fj_Mod_fails_L72 {D : Nat → Prop} {M0 : Mm} (hT : Tp D M0) (k61 : Nat → Int32 → Int32 → Int32 → Int32 → Int32 → Int32 → Mm → Option (Int32 × Mm)) (hk61 : ∀ (x0 : Nat) (hx0 : D x0) (x1 : Int32) (x2 : Int32) (x3 : Int32) (x4 : Int32) (x5 : Int32) (x6 : Int32) (M : Mm) (hF : Fr D M0 M), FJ D M0 (k61 x0 x1 x2 x3 x4 x5 x6 M)) : ∀ (n : Nat) (x0 : Nat) (hx0 : D x0) (x1 : Int32) (x2 : Int32) (x3 : Int32) (x4 : Int32) (x5 : Int32) (x6 : Int32) (x7 : Int32) (M : Mm) (hF : Fr D M0 M), FJ D M0 (Mod_fails_L72 k61 n x0 x1 x2 x3 x4 x5 x6 x7 M) := by
  intro n
  induction n with
  | zero => intros; exact FJ_none
  | succ n ih => intro x0 hx0 x1 x2 x3 x4 x5 x6 x7 M hF; exact fj_Mod_fails_B72 hT k61 _ hk61 ih x0 hx0 x1 x2 x3 x4 x5 x6 x7 M hF
theorem nj_Mod_fails_L72 {M0 : Mm} (k61 : Nat → Int32 → Int32 → Int32 → Int32 → Int32 → Int32 → Mm → Option (Int32 × Mm)) (hk61 : ∀ (x0 : Nat) (x1 : Int32) (x2 : Int32) (x3 : Int32) (x4 : Int32) (x5 : Int32) (x6 : Int32) (M : Mm) (hS : Sm M0 M), NJ M0 (k61 x0 x1 x2 x3 x4 x5 x6 M)) : ∀ (n : Nat) (x0 : Nat) (x1 : Int32) (x2 : Int32) (x3 : Int32) (x4 : Int32) (x5 : Int32) (x6 : Int32) (x7 : Int32) (M : Mm) (hS : Sm M0 M), NJ M0 (Mod_fails_L72 k61 n x0 x1 x2 x3 x4 x5 x6 x7 M) := by
  intro n
  induction n with
  | zero => intros; exact NJ_none
  | succ n ih => intro x0 x1 x2 x3 x4 x5 x6 x7 M hS; exact nj_Mod_fails_B72 k61 _ hk61 ih x0 x1 x2 x3 x4 x5 x6 x7 M hS
theorem fj_Mod_fails_B61 {D : Nat → Prop} {M0 : Mm} (hT : Tp D M0) (k61 : Nat → Int32 → Int32 → Int32 → Int32 → Int32 → Int32 → Mm → Option (Int32 × Mm)) (hk61 : ∀ (x0 : Nat) (hx0 : D x0) (x1 : Int32) (x2 : Int32) (x3 : Int32) (x4 : Int32) (x5 : Int32) (x6 : Int32) (M : Mm) (hF : Fr D M0 M), FJ D M0 (k61 x0 x1 x2 x3 x4 x5 x6 M)) (x0 : Nat) (hx0 : D x0) (x1 : Int32) (x2 : Int32) (x3 : Int32) (x4 : Int32) (x5 : Int32) (x6 : Int32) (M : Mm) (hF : Fr D M0 M) : FJ D M0 (Mod_fails_B61 k61 x0 x1 x2 x3 x4 x5 x6 M) := by
  unfold Mod_fails_B61
  refine FJ_if ?_ ?_
  · refine FJ_if ?_ ?_
    · refine FJ_ck ?_
      refine FJ_nn hF hx0 (fun b11 hb11 => ?_)
      refine FJ_ck ?_
      exact FJ_leaf hF
    · refine FJ_if ?_ ?_
      · refine FJ_ck ?_
        refine FJ_nn hF hx0 (fun b8 hb8 => ?_)
        refine FJ_ck ?_
        exact FJ_leaf hF
      · refine FJ_if ?_ ?_
        · exact FJ_leaf hF
        · exact FJ_leaf hF
  · exact fj_Mod_fails_L72 hT k61 hk61 fu _ hx0 _ _ _ _ _ _ _ _ hF
theorem nj_Mod_fails_B61 {M0 : Mm} (k61 : Nat → Int32 → Int32 → Int32 → Int32 → Int32 → Int32 → Mm → Option (Int32 × Mm)) (hk61 : ∀ (x0 : Nat) (x1 : Int32) (x2 : Int32) (x3 : Int32) (x4 : Int32) (x5 : Int32) (x6 : Int32) (M : Mm) (hS : Sm M0 M), NJ M0 (k61 x0 x1 x2 x3 x4 x5 x6 M)) (x0 : Nat) (x1 : Int32) (x2 : Int32) (x3 : Int32) (x4 : Int32) (x5 : Int32) (x6 : Int32) (M : Mm) (hS : Sm M0 M) : NJ M0 (Mod_fails_B61 k61 x0 x1 x2 x3 x4 x5 x6 M) := by
  unfold Mod_fails_B61
  refine NJ_if ?_ ?_
  · refine NJ_if ?_ ?_
    · refine NJ_ck ?_
      refine NJ_nn (fun b11 => ?_)
      refine NJ_ck ?_
      exact NJ_leaf hS
    · refine NJ_if ?_ ?_
      · refine NJ_ck ?_
        refine NJ_nn (fun b8 => ?_)
        refine NJ_ck ?_
        exact NJ_leaf hS
      · refine NJ_if ?_ ?_
        · exact NJ_leaf hS
        · exact NJ_leaf hS
  · exact nj_Mod_fails_L72 k61 hk61 fu _ _ _ _ _ _ _ _ _ hS
theorem fj_Mod_fails_L61 {D : Nat → Prop} {M0 : Mm} (hT : Tp D M0) : ∀ (n : Nat) (x0 : Nat) (hx0 : D x0) (x1 : Int32) (x2 : Int32) (x3 : Int32) (x4 : Int32) (x5 : Int32) (x6 : Int32) (M : Mm) (hF : Fr D M0 M), FJ D M0 (Mod_fails_L61 n x0 x1 x2 x3 x4 x5 x6 M) := by
  intro n
  induction n with
  | zero => intros; exact FJ_none
  | succ n ih => intro x0 hx0 x1 x2 x3 x4 x5 x6 M hF; exact fj_Mod_fails_B61 hT _ ih x0 hx0 x1 x2 x3 x4 x5 x6 M hF
theorem nj_Mod_fails_L61 {M0 : Mm} : ∀ (n : Nat) (x0 : Nat) (x1 : Int32) (x2 : Int32) (x3 : Int32) (x4 : Int32) (x5 : Int32) (x6 : Int32) (M : Mm) (hS : Sm M0 M), NJ M0 (Mod_fails_L61 n x0 x1 x2 x3 x4 x5 x6 M) := by
  intro n
  induction n with
  | zero => intros; exact NJ_none
  | succ n ih => intro x0 x1 x2 x3 x4 x5 x6 M hS; exact nj_Mod_fails_B61 _ ih x0 x1 x2 x3 x4 x5 x6 M hS
theorem fj_Mod_fails_B21 {D : Nat → Prop} {M0 : Mm} (hT : Tp D M0) (k21 : Nat → Int32 → Int32 → Int32 → Mm → Option (Int32 × Mm)) (hk21 : ∀ (x0 : Nat) (hx0 : D x0) (x1 : Int32) (x2 : Int32) (x3 : Int32) (M : Mm) (hF : Fr D M0 M), FJ D M0 (k21 x0 x1 x2 x3 M)) (x0 : Nat) (hx0 : D x0) (x1 : Int32) (x2 : Int32) (x3 : Int32) (M : Mm) (hF : Fr D M0 M) : FJ D M0 (Mod_fails_B21 k21 x0 x1 x2 x3 M) := by
  unfold Mod_fails_B21
  refine FJ_ck ?_
  refine FJ_if ?_ ?_
  · exact fj_Mod_fails_L61 hT fu _ hx0 _ _ _ _ _ _ _ hF
  · refine FJ_nn hF hx0 (fun b32 hb32 => ?_)
    refine FJ_ck ?_
    refine FJ_nn (Fr_sI hF hb32) hx0 (fun b35 hb35 => ?_)
    refine FJ_ck ?_
    exact hk21 _ hx0 _ _ _ _ (Fr_sI (Fr_sI hF hb32) hb35)
theorem nj_Mod_fails_B21 {M0 : Mm} (k21 : Nat → Int32 → Int32 → Int32 → Mm → Option (Int32 × Mm)) (hk21 : ∀ (x0 : Nat) (x1 : Int32) (x2 : Int32) (x3 : Int32) (M : Mm) (hS : Sm M0 M), NJ M0 (k21 x0 x1 x2 x3 M)) (x0 : Nat) (x1 : Int32) (x2 : Int32) (x3 : Int32) (M : Mm) (hS : Sm M0 M) : NJ M0 (Mod_fails_B21 k21 x0 x1 x2 x3 M) := by
  unfold Mod_fails_B21
  refine NJ_ck ?_
  refine NJ_if ?_ ?_
  · exact nj_Mod_fails_L61 fu _ _ _ _ _ _ _ _ hS
  · refine NJ_nn (fun b32 => ?_)
    refine NJ_ck ?_
    refine NJ_nn (fun b35 => ?_)
    refine NJ_ck ?_
    exact hk21 _ _ _ _ _ (Sm_sI (Sm_sI hS))
theorem fj_Mod_fails_L21 {D : Nat → Prop} {M0 : Mm} (hT : Tp D M0) : ∀ (n : Nat) (x0 : Nat) (hx0 : D x0) (x1 : Int32) (x2 : Int32) (x3 : Int32) (M : Mm) (hF : Fr D M0 M), FJ D M0 (Mod_fails_L21 n x0 x1 x2 x3 M) := by
  intro n
  induction n with
  | zero => intros; exact FJ_none
  | succ n ih => intro x0 hx0 x1 x2 x3 M hF; exact fj_Mod_fails_B21 hT _ ih x0 hx0 x1 x2 x3 M hF
theorem nj_Mod_fails_L21 {M0 : Mm} : ∀ (n : Nat) (x0 : Nat) (x1 : Int32) (x2 : Int32) (x3 : Int32) (M : Mm) (hS : Sm M0 M), NJ M0 (Mod_fails_L21 n x0 x1 x2 x3 M) := by
  intro n
  induction n with
  | zero => intros; exact NJ_none
  | succ n ih => intro x0 x1 x2 x3 M hS; exact nj_Mod_fails_B21 _ ih x0 x1 x2 x3 M hS
theorem fj_Mod_fails {D : Nat → Prop} {M : Mm} (hC : Cl D M) (hT : Tp D M) (a0 : Nat) (h0 : D a0) (a1 : Int32) (a2 : Int32) : FJ D M (Mod_fails M a0 a1 a2) := by
  unfold Mod_fails
  refine FJ_ck ?_
  refine FJ_bd hT (Fr.rf hC) (fun gC gT => fj_Mod_isPerson gC gT _ h0 _) (fun r2 M3 hFM3 => ?_)
  refine FJ_if ?_ ?_
  · exact FJ_leaf hFM3
  · refine FJ_bd hT hFM3 (fun gC gT => fj_Mod_in gC gT _ _ _) (fun r4 M5 hFM5 => ?_)
    refine FJ_if ?_ ?_
    · exact FJ_leaf hFM5
    · exact fj_Mod_fails_L21 hT fu _ h0 _ _ _ _ hFM5
theorem nj_Mod_fails (M : Mm) (a0 : Nat) (a1 : Int32) (a2 : Int32) : NJ M (Mod_fails M a0 a1 a2) := by
  unfold Mod_fails
  refine NJ_ck ?_
  refine NJ_bd Sm.rf (nj_Mod_isPerson _ _ _) (fun r2 M3 hSM3 => ?_)
  refine NJ_if ?_ ?_
  · exact NJ_leaf hSM3
  · refine NJ_bd hSM3 (nj_Mod_in _ _ _ _) (fun r4 M5 hSM5 => ?_)
    refine NJ_if ?_ ?_
    · exact NJ_leaf hSM5
    · exact nj_Mod_fails_L21 fu _ _ _ _ _ hSM5
theorem fj_Mod_other_J359 {D : Nat → Prop} {M0 : Mm} (hT : Tp D M0) (k328 : Nat → Int32 → Int32 → Int32 → Int32 → Mm → Option (Int32 × Mm)) (hk328 : ∀ (x0 : Nat) (hx0 : D x0) (x1 : Int32) (x4 : Int32) (x5 : Int32) (x6 : Int32) (M : Mm) (hF : Fr D M0 M), FJ D M0 (k328 x0 x1 x4 x5 x6 M)) (x0 : Nat) (hx0 : D x0) (x1 : Int32) (x4 : Int32) (x5 : Int32) (x6 : Int32) (s0 : Int32) (s1 : Int32) (s2 : Nat) (hs2 : D s2) (M : Mm) (hF : Fr D M0 M) : FJ D M0 (Mod_other_J359 k328 x0 x1 x4 x5 x6 s0 s1 s2 M) := by
  unfold Mod_other_J359
  refine FJ_ck ?_
  exact hk328 _ hx0 _ _ _ _ _ (Fr_sI hF hs2)
theorem nj_Mod_other_J359 {M0 : Mm} (k328 : Nat → Int32 → Int32 → Int32 → Int32 → Mm → Option (Int32 × Mm)) (hk328 : ∀ (x0 : Nat) (x1 : Int32) (x4 : Int32) (x5 : Int32) (x6 : Int32) (M : Mm) (hS : Sm M0 M), NJ M0 (k328 x0 x1 x4 x5 x6 M)) (x0 : Nat) (x1 : Int32) (x4 : Int32) (x5 : Int32) (x6 : Int32) (s0 : Int32) (s1 : Int32) (s2 : Nat) (M : Mm) (hS : Sm M0 M) : NJ M0 (Mod_other_J359 k328 x0 x1 x4 x5 x6 s0 s1 s2 M) := by
  unfold Mod_other_J359
  refine NJ_ck ?_
  exact hk328 _ _ _ _ _ _ (Sm_sI hS)
theorem fj_Mod_other_B328 {D : Nat → Prop} {M0 : Mm} (hT : Tp D M0) (k328 : Nat → Int32 → Int32 → Int32 → Int32 → Mm → Option (Int32 × Mm)) (hk328 : ∀ (x0 : Nat) (hx0 : D x0) (x1 : Int32) (x4 : Int32) (x5 : Int32) (x6 : Int32) (M : Mm) (hF : Fr D M0 M), FJ D M0 (k328 x0 x1 x4 x5 x6 M)) (x0 : Nat) (hx0 : D x0) (x1 : Int32) (x4 : Int32) (x5 : Int32) (x6 : Int32) (M : Mm) (hF : Fr D M0 M) : FJ D M0 (Mod_other_B328 k328 x0 x1 x4 x5 x6 M) := by
  unfold Mod_other_B328
  refine FJ_if ?_ ?_
  · refine FJ_if ?_ ?_
    · exact FJ_leaf hF
    · refine FJ_ck ?_
      refine FJ_nn hF hx0 (fun b13 hb13 => ?_)
      refine FJ_ck ?_
      refine FJ_nn hF hx0 (fun b15 hb15 => ?_)
      refine FJ_ck ?_
      refine FJ_if ?_ ?_
      · exact FJ_leaf hF
      · exact FJ_leaf hF
  · refine FJ_ck ?_
    refine FJ_nn hF hx0 (fun b18 hb18 => ?_)
    refine FJ_if ?_ ?_
    · exact fj_Mod_other_J359 hT k328 hk328 _ hx0 _ _ _ _ _ _ _ hb18 _ hF
    · refine FJ_nn hF hx0 (fun b22 hb22 => ?_)
      refine FJ_ck ?_
      exact fj_Mod_other_J359 hT k328 hk328 _ hx0 _ _ _ _ _ _ _ hb18 _ hF
theorem nj_Mod_other_B328 {M0 : Mm} (k328 : Nat → Int32 → Int32 → Int32 → Int32 → Mm → Option (Int32 × Mm)) (hk328 : ∀ (x0 : Nat) (x1 : Int32) (x4 : Int32) (x5 : Int32) (x6 : Int32) (M : Mm) (hS : Sm M0 M), NJ M0 (k328 x0 x1 x4 x5 x6 M)) (x0 : Nat) (x1 : Int32) (x4 : Int32) (x5 : Int32) (x6 : Int32) (M : Mm) (hS : Sm M0 M) : NJ M0 (Mod_other_B328 k328 x0 x1 x4 x5 x6 M) := by
  unfold Mod_other_B328
  refine NJ_if ?_ ?_
  · refine NJ_if ?_ ?_
    · exact NJ_leaf hS
    · refine NJ_ck ?_
      refine NJ_nn (fun b13 => ?_)
      refine NJ_ck ?_
      refine NJ_nn (fun b15 => ?_)
      refine NJ_ck ?_
      refine NJ_if ?_ ?_
      · exact NJ_leaf hS
      · exact NJ_leaf hS
  · refine NJ_ck ?_
    refine NJ_nn (fun b18 => ?_)
    refine NJ_if ?_ ?_
    · exact nj_Mod_other_J359 k328 hk328 _ _ _ _ _ _ _ _ _ hS
    · refine NJ_nn (fun b22 => ?_)
      refine NJ_ck ?_
      exact nj_Mod_other_J359 k328 hk328 _ _ _ _ _ _ _ _ _ hS
theorem fj_Mod_other_L328 {D : Nat → Prop} {M0 : Mm} (hT : Tp D M0) : ∀ (n : Nat) (x0 : Nat) (hx0 : D x0) (x1 : Int32) (x4 : Int32) (x5 : Int32) (x6 : Int32) (M : Mm) (hF : Fr D M0 M), FJ D M0 (Mod_other_L328 n x0 x1 x4 x5 x6 M) := by
  intro n
  induction n with
  | zero => intros; exact FJ_none
  | succ n ih => intro x0 hx0 x1 x4 x5 x6 M hF; exact fj_Mod_other_B328 hT _ ih x0 hx0 x1 x4 x5 x6 M hF
theorem nj_Mod_other_L328 {M0 : Mm} : ∀ (n : Nat) (x0 : Nat) (x1 : Int32) (x4 : Int32) (x5 : Int32) (x6 : Int32) (M : Mm) (hS : Sm M0 M), NJ M0 (Mod_other_L328 n x0 x1 x4 x5 x6 M) := by
  intro n
  induction n with
  | zero => intros; exact NJ_none
  | succ n ih => intro x0 x1 x4 x5 x6 M hS; exact nj_Mod_other_B328 _ ih x0 x1 x4 x5 x6 M hS
theorem fj_Mod_other_J319 {D : Nat → Prop} {M0 : Mm} (hT : Tp D M0) (k115 : Nat → Int32 → Int32 → Int32 → Int32 → Int32 → Int32 → Mm → Option (Int32 × Mm)) (hk115 : ∀ (x0 : Nat) (hx0 : D x0) (x1 : Int32) (x2 : Int32) (x3 : Int32) (x4 : Int32) (x5 : Int32) (x6 : Int32) (M : Mm) (hF : Fr D M0 M), FJ D M0 (k115 x0 x1 x2 x3 x4 x5 x6 M)) (x0 : Nat) (hx0 : D x0) (x1 : Int32) (x2 : Int32) (x3 : Int32) (x4 : Int32) (x5 : Int32) (x6 : Int32) (M : Mm) (hF : Fr D M0 M) : FJ D M0 (Mod_other_J319 k115 x0 x1 x2 x3 x4 x5 x6 M) := by
  unfold Mod_other_J319
  exact hk115 _ hx0 _ _ _ _ _ _ _ hF
theorem nj_Mod_other_J319 {M0 : Mm} (k115 : Nat → Int32 → Int32 → Int32 → Int32 → Int32 → Int32 → Mm → Option (Int32 × Mm)) (hk115 : ∀ (x0 : Nat) (x1 : Int32) (x2 : Int32) (x3 : Int32) (x4 : Int32) (x5 : Int32) (x6 : Int32) (M : Mm) (hS : Sm M0 M), NJ M0 (k115 x0 x1 x2 x3 x4 x5 x6 M)) (x0 : Nat) (x1 : Int32) (x2 : Int32) (x3 : Int32) (x4 : Int32) (x5 : Int32) (x6 : Int32) (M : Mm) (hS : Sm M0 M) : NJ M0 (Mod_other_J319 k115 x0 x1 x2 x3 x4 x5 x6 M) := by
  unfold Mod_other_J319
  exact hk115 _ _ _ _ _ _ _ _ hS
theorem fj_Mod_other_J314 {D : Nat → Prop} {M0 : Mm} (hT : Tp D M0) (k115 : Nat → Int32 → Int32 → Int32 → Int32 → Int32 → Int32 → Mm → Option (Int32 × Mm)) (k220 : Nat → Int32 → Int32 → Int32 → Int32 → Int32 → Int32 → Int32 → Int32 → Int32 → Mm → Option (Int32 × Mm)) (hk115 : ∀ (x0 : Nat) (hx0 : D x0) (x1 : Int32) (x2 : Int32) (x3 : Int32) (x4 : Int32) (x5 : Int32) (x6 : Int32) (M : Mm) (hF : Fr D M0 M), FJ D M0 (k115 x0 x1 x2 x3 x4 x5 x6 M)) (hk220 : ∀ (x0 : Nat) (hx0 : D x0) (x1 : Int32) (x2 : Int32) (x3 : Int32) (x4 : Int32) (x5 : Int32) (x6 : Int32) (x7 : Int32) (x8 : Int32) (x9 : Int32) (M : Mm) (hF : Fr D M0 M), FJ D M0 (k220 x0 x1 x2 x3 x4 x5 x6 x7 x8 x9 M)) (x0 : Nat) (hx0 : D x0) (x1 : Int32) (x2 : Int32) (x3 : Int32) (x4 : Int32) (x5 : Int32) (x6 : Int32) (x7 : Int32) (x8 : Int32) (s0 : Int32) (M : Mm) (hF : Fr D M0 M) : FJ D M0 (Mod_other_J314 k115 k220 x0 x1 x2 x3 x4 x5 x6 x7 x8 s0 M) := by
  unfold Mod_other_J314
  exact hk220 _ hx0 _ _ _ _ _ _ _ _ _ _ hF
theorem nj_Mod_other_J314 {M0 : Mm} (k115 : Nat → Int32 → Int32 → Int32 → Int32 → Int32 → Int32 → Mm → Option (Int32 × Mm)) (k220 : Nat → Int32 → Int32 → Int32 → Int32 → Int32 → Int32 → Int32 → Int32 → Int32 → Mm → Option (Int32 × Mm)) (hk115 : ∀ (x0 : Nat) (x1 : Int32) (x2 : Int32) (x3 : Int32) (x4 : Int32) (x5 : Int32) (x6 : Int32) (M : Mm) (hS : Sm M0 M), NJ M0 (k115 x0 x1 x2 x3 x4 x5 x6 M)) (hk220 : ∀ (x0 : Nat) (x1 : Int32) (x2 : Int32) (x3 : Int32) (x4 : Int32) (x5 : Int32) (x6 : Int32) (x7 : Int32) (x8 : Int32) (x9 : Int32) (M : Mm) (hS : Sm M0 M), NJ M0 (k220 x0 x1 x2 x3 x4 x5 x6 x7 x8 x9 M)) (x0 : Nat) (x1 : Int32) (x2 : Int32) (x3 : Int32) (x4 : Int32) (x5 : Int32) (x6 : Int32) (x7 : Int32) (x8 : Int32) (s0 : Int32) (M : Mm) (hS : Sm M0 M) : NJ M0 (Mod_other_J314 k115 k220 x0 x1 x2 x3 x4 x5 x6 x7 x8 s0 M) := by
  unfold Mod_other_J314
  exact hk220 _ _ _ _ _ _ _ _ _ _ _ hS
theorem fj_Mod_other_B220 {D : Nat → Prop} {M0 : Mm} (hT : Tp D M0) (k115 : Nat → Int32 → Int32 → Int32 → Int32 → Int32 → Int32 → Mm → Option (Int32 × Mm)) (k220 : Nat → Int32 → Int32 → Int32 → Int32 → Int32 → Int32 → Int32 → Int32 → Int32 → Mm → Option (Int32 × Mm)) (hk115 : ∀ (x0 : Nat) (hx0 : D x0) (x1 : Int32) (x2 : Int32) (x3 : Int32) (x4 : Int32) (x5 : Int32) (x6 : Int32) (M : Mm) (hF : Fr D M0 M), FJ D M0 (k115 x0 x1 x2 x3 x4 x5 x6 M)) (hk220 : ∀ (x0 : Nat) (hx0 : D x0) (x1 : Int32) (x2 : Int32) (x3 : Int32) (x4 : Int32) (x5 : Int32) (x6 : Int32) (x7 : Int32) (x8 : Int32) (x9 : Int32) (M : Mm) (hF : Fr D M0 M), FJ D M0 (k220 x0 x1 x2 x3 x4 x5 x6 x7 x8 x9 M)) (x0 : Nat) (hx0 : D x0) (x1 : Int32) (x2 : Int32) (x3 : Int32) (x4 : Int32) (x5 : Int32) (x6 : Int32) (x7 : Int32) (x8 : Int32) (x9 : Int32) (M : Mm) (hF : Fr D M0 M) : FJ D M0 (Mod_other_B220 k115 k220 x0 x1 x2 x3 x4 x5 x6 x7 x8 x9 M) := by
  unfold Mod_other_B220
  refine FJ_if ?_ ?_
  · exact fj_Mod_other_J319 hT k115 hk115 _ hx0 _ _ _ _ _ _ _ hF
  · refine FJ_ck ?_
    refine FJ_nn hF hx0 (fun b41 hb41 => ?_)
    refine FJ_ck ?_
    refine FJ_nn hF hx0 (fun b43 hb43 => ?_)
    refine FJ_ck ?_
    refine FJ_bd hT hF (fun gC gT => fj_Mod_min gC gT _ _) (fun r45 M46 hFM46 => ?_)
    refine FJ_ck ?_
    refine FJ_nn hFM46 hx0 (fun b48 hb48 => ?_)
    refine FJ_ck ?_
    refine FJ_nn (Fr_sI hFM46 hb48) hx0 (fun b51 hb51 => ?_)
    refine FJ_ck ?_
    refine FJ_nn (Fr_sI (Fr_sI hFM46 hb48) hb51) hx0 (fun b54 hb54 => ?_)
    refine FJ_ck ?_
    refine FJ_nn (Fr_sI (Fr_sI hFM46 hb48) hb51) hx0 (fun b57 hb57 => ?_)
    refine FJ_ck ?_
    refine FJ_nn (Fr_sI (Fr_sI hFM46 hb48) hb51) hx0 (fun b60 hb60 => ?_)
    refine FJ_ck ?_
    refine FJ_if ?_ ?_
    · exact fj_Mod_other_J314 hT k115 k220 hk115 hk220 _ hx0 _ _ _ _ _ _ _ _ _ _ (Fr_sI (Fr_sI hFM46 hb48) hb51)
    · refine FJ_bd hT (Fr_sI (Fr_sI hFM46 hb48) hb51) (fun gC gT => fj_Mod_against gC gT _ hx0 _ _ _) (fun r62 M63 hFM63 => ?_)
      exact fj_Mod_other_J314 hT k115 k220 hk115 hk220 _ hx0 _ _ _ _ _ _ _ _ _ _ hFM63
theorem nj_Mod_other_B220 {M0 : Mm} (k115 : Nat → Int32 → Int32 → Int32 → Int32 → Int32 → Int32 → Mm → Option (Int32 × Mm)) (k220 : Nat → Int32 → Int32 → Int32 → Int32 → Int32 → Int32 → Int32 → Int32 → Int32 → Mm → Option (Int32 × Mm)) (hk115 : ∀ (x0 : Nat) (x1 : Int32) (x2 : Int32) (x3 : Int32) (x4 : Int32) (x5 : Int32) (x6 : Int32) (M : Mm) (hS : Sm M0 M), NJ M0 (k115 x0 x1 x2 x3 x4 x5 x6 M)) (hk220 : ∀ (x0 : Nat) (x1 : Int32) (x2 : Int32) (x3 : Int32) (x4 : Int32) (x5 : Int32) (x6 : Int32) (x7 : Int32) (x8 : Int32) (x9 : Int32) (M : Mm) (hS : Sm M0 M), NJ M0 (k220 x0 x1 x2 x3 x4 x5 x6 x7 x8 x9 M)) (x0 : Nat) (x1 : Int32) (x2 : Int32) (x3 : Int32) (x4 : Int32) (x5 : Int32) (x6 : Int32) (x7 : Int32) (x8 : Int32) (x9 : Int32) (M : Mm) (hS : Sm M0 M) : NJ M0 (Mod_other_B220 k115 k220 x0 x1 x2 x3 x4 x5 x6 x7 x8 x9 M) := by
  unfold Mod_other_B220
  refine NJ_if ?_ ?_
  · exact nj_Mod_other_J319 k115 hk115 _ _ _ _ _ _ _ _ hS
  · refine NJ_ck ?_
    refine NJ_nn (fun b41 => ?_)
    refine NJ_ck ?_
    refine NJ_nn (fun b43 => ?_)
    refine NJ_ck ?_
    refine NJ_bd hS (nj_Mod_min _ _ _) (fun r45 M46 hSM46 => ?_)
    refine NJ_ck ?_
    refine NJ_nn (fun b48 => ?_)
    refine NJ_ck ?_
    refine NJ_nn (fun b51 => ?_)
    refine NJ_ck ?_
    refine NJ_nn (fun b54 => ?_)
    refine NJ_ck ?_
    refine NJ_nn (fun b57 => ?_)
    refine NJ_ck ?_
    refine NJ_nn (fun b60 => ?_)
    refine NJ_ck ?_
    refine NJ_if ?_ ?_
    · exact nj_Mod_other_J314 k115 k220 hk115 hk220 _ _ _ _ _ _ _ _ _ _ _ (Sm_sI (Sm_sI hSM46))
    · refine NJ_bd (Sm_sI (Sm_sI hSM46)) (nj_Mod_against _ _ _ _ _) (fun r62 M63 hSM63 => ?_)
      exact nj_Mod_other_J314 k115 k220 hk115 hk220 _ _ _ _ _ _ _ _ _ _ _ hSM63
theorem fj_Mod_other_L220 {D : Nat → Prop} {M0 : Mm} (hT : Tp D M0) (k115 : Nat → Int32 → Int32 → Int32 → Int32 → Int32 → Int32 → Mm → Option (Int32 × Mm)) (hk115 : ∀ (x0 : Nat) (hx0 : D x0) (x1 : Int32) (x2 : Int32) (x3 : Int32) (x4 : Int32) (x5 : Int32) (x6 : Int32) (M : Mm) (hF : Fr D M0 M), FJ D M0 (k115 x0 x1 x2 x3 x4 x5 x6 M)) : ∀ (n : Nat) (x0 : Nat) (hx0 : D x0) (x1 : Int32) (x2 : Int32) (x3 : Int32) (x4 : Int32) (x5 : Int32) (x6 : Int32) (x7 : Int32) (x8 : Int32) (x9 : Int32) (M : Mm) (hF : Fr D M0 M), FJ D M0 (Mod_other_L220 k115 n x0 x1 x2 x3 x4 x5 x6 x7 x8 x9 M) := by
  intro n
  induction n with
  | zero => intros; exact FJ_none
  | succ n ih => intro x0 hx0 x1 x2 x3 x4 x5 x6 x7 x8 x9 M hF; exact fj_Mod_other_B220 hT k115 _ hk115 ih x0 hx0 x1 x2 x3 x4 x5 x6 x7 x8 x9 M hF
theorem nj_Mod_other_L220 {M0 : Mm} (k115 : Nat → Int32 → Int32 → Int32 → Int32 → Int32 → Int32 → Mm → Option (Int32 × Mm)) (hk115 : ∀ (x0 : Nat) (x1 : Int32) (x2 : Int32) (x3 : Int32) (x4 : Int32) (x5 : Int32) (x6 : Int32) (M : Mm) (hS : Sm M0 M), NJ M0 (k115 x0 x1 x2 x3 x4 x5 x6 M)) : ∀ (n : Nat) (x0 : Nat) (x1 : Int32) (x2 : Int32) (x3 : Int32) (x4 : Int32) (x5 : Int32) (x6 : Int32) (x7 : Int32) (x8 : Int32) (x9 : Int32) (M : Mm) (hS : Sm M0 M), NJ M0 (Mod_other_L220 k115 n x0 x1 x2 x3 x4 x5 x6 x7 x8 x9 M) := by
  intro n
  induction n with
  | zero => intros; exact NJ_none
  | succ n ih => intro x0 x1 x2 x3 x4 x5 x6 x7 x8 x9 M hS; exact nj_Mod_other_B220 k115 _ hk115 ih x0 x1 x2 x3 x4 x5 x6 x7 x8 x9 M hS
theorem fj_Mod_other_B115 {D : Nat → Prop} {M0 : Mm} (hT : Tp D M0) (k115 : Nat → Int32 → Int32 → Int32 → Int32 → Int32 → Int32 → Mm → Option (Int32 × Mm)) (hk115 : ∀ (x0 : Nat) (hx0 : D x0) (x1 : Int32) (x2 : Int32) (x3 : Int32) (x4 : Int32) (x5 : Int32) (x6 : Int32) (M : Mm) (hF : Fr D M0 M), FJ D M0 (k115 x0 x1 x2 x3 x4 x5 x6 M)) (x0 : Nat) (hx0 : D x0) (x1 : Int32) (x2 : Int32) (x3 : Int32) (x4 : Int32) (x5 : Int32) (x6 : Int32) (M : Mm) (hF : Fr D M0 M) : FJ D M0 (Mod_other_B115 k115 x0 x1 x2 x3 x4 x5 x6 M) := by
  unfold Mod_other_B115
  refine FJ_ck ?_
  refine FJ_nn hF hx0 (fun b10 hb10 => ?_)
  refine FJ_ck ?_
  refine FJ_if ?_ ?_
  · exact fj_Mod_other_L328 hT fu _ hx0 _ _ _ _ _ hF
  · refine FJ_nn hF hx0 (fun b24 hb24 => ?_)
    refine FJ_ck ?_
    refine FJ_if ?_ ?_
    · refine FJ_nn hF hx0 (fun b28 hb28 => ?_)
      refine FJ_ck ?_
      refine FJ_if ?_ ?_
      · exact fj_Mod_other_J319 hT k115 hk115 _ hx0 _ _ _ _ _ _ _ hF
      · refine FJ_nn hF hx0 (fun b31 hb31 => ?_)
        refine FJ_ck ?_
        refine FJ_if ?_ ?_
        · refine FJ_nn hF hx0 (fun b33 hb33 => ?_)
          refine FJ_nn hF hx0 (fun b34 hb34 => ?_)
          refine FJ_ck ?_
          refine FJ_ck ?_
          refine FJ_bd hT (Fr_sI hF hb33) (fun gC gT => fj_Mod_against gC gT _ hx0 _ _ _) (fun r38 M39 hFM39 => ?_)
          exact fj_Mod_other_L220 hT k115 hk115 fu _ hx0 _ _ _ _ _ _ _ _ _ _ hFM39
        · exact fj_Mod_other_J319 hT k115 hk115 _ hx0 _ _ _ _ _ _ _ hF
    · refine FJ_nn hF hx0 (fun b64 hb64 => ?_)
      refine FJ_ck ?_
      exact fj_Mod_other_J319 hT k115 hk115 _ hx0 _ _ _ _ _ _ _ (Fr_sI hF hb64)
theorem nj_Mod_other_B115 {M0 : Mm} (k115 : Nat → Int32 → Int32 → Int32 → Int32 → Int32 → Int32 → Mm → Option (Int32 × Mm)) (hk115 : ∀ (x0 : Nat) (x1 : Int32) (x2 : Int32) (x3 : Int32) (x4 : Int32) (x5 : Int32) (x6 : Int32) (M : Mm) (hS : Sm M0 M), NJ M0 (k115 x0 x1 x2 x3 x4 x5 x6 M)) (x0 : Nat) (x1 : Int32) (x2 : Int32) (x3 : Int32) (x4 : Int32) (x5 : Int32) (x6 : Int32) (M : Mm) (hS : Sm M0 M) : NJ M0 (Mod_other_B115 k115 x0 x1 x2 x3 x4 x5 x6 M) := by
  unfold Mod_other_B115
  refine NJ_ck ?_
  refine NJ_nn (fun b10 => ?_)
  refine NJ_ck ?_
  refine NJ_if ?_ ?_
  · exact nj_Mod_other_L328 fu _ _ _ _ _ _ hS
  · refine NJ_nn (fun b24 => ?_)
    refine NJ_ck ?_
    refine NJ_if ?_ ?_
    · refine NJ_nn (fun b28 => ?_)
      refine NJ_ck ?_
      refine NJ_if ?_ ?_
      · exact nj_Mod_other_J319 k115 hk115 _ _ _ _ _ _ _ _ hS
      · refine NJ_nn (fun b31 => ?_)
        refine NJ_ck ?_
        refine NJ_if ?_ ?_
        · refine NJ_nn (fun b33 => ?_)
          refine NJ_nn (fun b34 => ?_)
          refine NJ_ck ?_
          refine NJ_ck ?_
          refine NJ_bd (Sm_sI hS) (nj_Mod_against _ _ _ _ _) (fun r38 M39 hSM39 => ?_)
          exact nj_Mod_other_L220 k115 hk115 fu _ _ _ _ _ _ _ _ _ _ _ hSM39
        · exact nj_Mod_other_J319 k115 hk115 _ _ _ _ _ _ _ _ hS
    · refine NJ_nn (fun b64 => ?_)
      refine NJ_ck ?_
      exact nj_Mod_other_J319 k115 hk115 _ _ _ _ _ _ _ _ (Sm_sI hS)
theorem fj_Mod_other_L115 {D : Nat → Prop} {M0 : Mm} (hT : Tp D M0) : ∀ (n : Nat) (x0 : Nat) (hx0 : D x0) (x1 : Int32) (x2 : Int32) (x3 : Int32) (x4 : Int32) (x5 : Int32) (x6 : Int32) (M : Mm) (hF : Fr D M0 M), FJ D M0 (Mod_other_L115 n x0 x1 x2 x3 x4 x5 x6 M) := by
  intro n
  induction n with
  | zero => intros; exact FJ_none
  | succ n ih => intro x0 hx0 x1 x2 x3 x4 x5 x6 M hF; exact fj_Mod_other_B115 hT _ ih x0 hx0 x1 x2 x3 x4 x5 x6 M hF
theorem nj_Mod_other_L115 {M0 : Mm} : ∀ (n : Nat) (x0 : Nat) (x1 : Int32) (x2 : Int32) (x3 : Int32) (x4 : Int32) (x5 : Int32) (x6 : Int32) (M : Mm) (hS : Sm M0 M), NJ M0 (Mod_other_L115 n x0 x1 x2 x3 x4 x5 x6 M) := by
  intro n
  induction n with
  | zero => intros; exact NJ_none
  | succ n ih => intro x0 x1 x2 x3 x4 x5 x6 M hS; exact nj_Mod_other_B115 _ ih x0 x1 x2 x3 x4 x5 x6 M hS
theorem fj_Mod_other_B85 {D : Nat → Prop} {M0 : Mm} (hT : Tp D M0) (k85 : Nat → Int32 → Int32 → Int32 → Int32 → Mm → Option (Int32 × Mm)) (hk85 : ∀ (x0 : Nat) (hx0 : D x0) (x1 : Int32) (x2 : Int32) (x3 : Int32) (x4 : Int32) (M : Mm) (hF : Fr D M0 M), FJ D M0 (k85 x0 x1 x2 x3 x4 M)) (x0 : Nat) (hx0 : D x0) (x1 : Int32) (x2 : Int32) (x3 : Int32) (x4 : Int32) (M : Mm) (hF : Fr D M0 M) : FJ D M0 (Mod_other_B85 k85 x0 x1 x2 x3 x4 M) := by
  unfold Mod_other_B85
  refine FJ_if ?_ ?_
  · exact fj_Mod_other_L115 hT fu _ hx0 _ _ _ _ _ _ _ hF
  · refine FJ_ck ?_
    refine FJ_nn hF hx0 (fun b68 hb68 => ?_)
    refine FJ_ck ?_
    exact hk85 _ hx0 _ _ _ _ _ (Fr_sI hF hb68)
theorem nj_Mod_other_B85 {M0 : Mm} (k85 : Nat → Int32 → Int32 → Int32 → Int32 → Mm → Option (Int32 × Mm)) (hk85 : ∀ (x0 : Nat) (x1 : Int32) (x2 : Int32) (x3 : Int32) (x4 : Int32) (M : Mm) (hS : Sm M0 M), NJ M0 (k85 x0 x1 x2 x3 x4 M)) (x0 : Nat) (x1 : Int32) (x2 : Int32) (x3 : Int32) (x4 : Int32) (M : Mm) (hS : Sm M0 M) : NJ M0 (Mod_other_B85 k85 x0 x1 x2 x3 x4 M) := by
  unfold Mod_other_B85
  refine NJ_if ?_ ?_
  · exact nj_Mod_other_L115 fu _ _ _ _ _ _ _ _ hS
  · refine NJ_ck ?_
    refine NJ_nn (fun b68 => ?_)
    refine NJ_ck ?_
    exact hk85 _ _ _ _ _ _ (Sm_sI hS)
theorem fj_Mod_other_L85 {D : Nat → Prop} {M0 : Mm} (hT : Tp D M0) : ∀ (n : Nat) (x0 : Nat) (hx0 : D x0) (x1 : Int32) (x2 : Int32) (x3 : Int32) (x4 : Int32) (M : Mm) (hF : Fr D M0 M), FJ D M0 (Mod_other_L85 n x0 x1 x2 x3 x4 M) := by
  intro n
  induction n with
  | zero => intros; exact FJ_none
  | succ n ih => intro x0 hx0 x1 x2 x3 x4 M hF; exact fj_Mod_other_B85 hT _ ih x0 hx0 x1 x2 x3 x4 M hF
theorem nj_Mod_other_L85 {M0 : Mm} : ∀ (n : Nat) (x0 : Nat) (x1 : Int32) (x2 : Int32) (x3 : Int32) (x4 : Int32) (M : Mm) (hS : Sm M0 M), NJ M0 (Mod_other_L85 n x0 x1 x2 x3 x4 M) := by
  intro n
  induction n with
  | zero => intros; exact NJ_none
  | succ n ih => intro x0 x1 x2 x3 x4 M hS; exact nj_Mod_other_B85 _ ih x0 x1 x2 x3 x4 M hS
theorem fj_Mod_other_J82 {D : Nat → Prop} {M0 : Mm} (hT : Tp D M0) (x0 : Nat) (hx0 : D x0) (x1 : Int32) (x2 : Int32) (x3 : Int32) (M : Mm) (hF : Fr D M0 M) : FJ D M0 (Mod_other_J82 x0 x1 x2 x3 M) := by
  unfold Mod_other_J82
  exact fj_Mod_other_L85 hT fu _ hx0 _ _ _ _ _ hF
theorem nj_Mod_other_J82 {M0 : Mm} (x0 : Nat) (x1 : Int32) (x2 : Int32) (x3 : Int32) (M : Mm) (hS : Sm M0 M) : NJ M0 (Mod_other_J82 x0 x1 x2 x3 M) := by
  unfold Mod_other_J82
  exact nj_Mod_other_L85 fu _ _ _ _ _ _ hS
theorem fj_Mod_other_B55 {D : Nat → Prop} {M0 : Mm} (hT : Tp D M0) (k55 : Nat → Int32 → Int32 → Int32 → Int32 → Mm → Option (Int32 × Mm)) (hk55 : ∀ (x0 : Nat) (hx0 : D x0) (x1 : Int32) (x2 : Int32) (x3 : Int32) (x4 : Int32) (M : Mm) (hF : Fr D M0 M), FJ D M0 (k55 x0 x1 x2 x3 x4 M)) (x0 : Nat) (hx0 : D x0) (x1 : Int32) (x2 : Int32) (x3 : Int32) (x4 : Int32) (M : Mm) (hF : Fr D M0 M) : FJ D M0 (Mod_other_B55 k55 x0 x1 x2 x3 x4 M) := by
  unfold Mod_other_B55
  refine FJ_if ?_ ?_
  · exact fj_Mod_other_J82 hT _ hx0 _ _ _ _ hF
  · refine FJ_ck ?_
    refine FJ_nn hF hx0 (fun b73 hb73 => ?_)
    refine FJ_nn hF hx0 (fun b74 hb74 => ?_)
    refine FJ_ck ?_
    refine FJ_ck ?_
    exact hk55 _ hx0 _ _ _ _ _ (Fr_sI hF hb73)
theorem nj_Mod_other_B55 {M0 : Mm} (k55 : Nat → Int32 → Int32 → Int32 → Int32 → Mm → Option (Int32 × Mm)) (hk55 : ∀ (x0 : Nat) (x1 : Int32) (x2 : Int32) (x3 : Int32) (x4 : Int32) (M : Mm) (hS : Sm M0 M), NJ M0 (k55 x0 x1 x2 x3 x4 M)) (x0 : Nat) (x1 : Int32) (x2 : Int32) (x3 : Int32) (x4 : Int32) (M : Mm) (hS : Sm M0 M) : NJ M0 (Mod_other_B55 k55 x0 x1 x2 x3 x4 M) := by
  unfold Mod_other_B55
  refine NJ_if ?_ ?_
  · exact nj_Mod_other_J82 _ _ _ _ _ hS
  · refine NJ_ck ?_
    refine NJ_nn (fun b73 => ?_)
    refine NJ_nn (fun b74 => ?_)
    refine NJ_ck ?_
    refine NJ_ck ?_
    exact hk55 _ _ _ _ _ _ (Sm_sI hS)
theorem fj_Mod_other_L55 {D : Nat → Prop} {M0 : Mm} (hT : Tp D M0) : ∀ (n : Nat) (x0 : Nat) (hx0 : D x0) (x1 : Int32) (x2 : Int32) (x3 : Int32) (x4 : Int32) (M : Mm) (hF : Fr D M0 M), FJ D M0 (Mod_other_L55 n x0 x1 x2 x3 x4 M) := by
  intro n
  induction n with
  | zero => intros; exact FJ_none
  | succ n ih => intro x0 hx0 x1 x2 x3 x4 M hF; exact fj_Mod_other_B55 hT _ ih x0 hx0 x1 x2 x3 x4 M hF
theorem nj_Mod_other_L55 {M0 : Mm} : ∀ (n : Nat) (x0 : Nat) (x1 : Int32) (x2 : Int32) (x3 : Int32) (x4 : Int32) (M : Mm) (hS : Sm M0 M), NJ M0 (Mod_other_L55 n x0 x1 x2 x3 x4 M) := by
  intro n
  induction n with
  | zero => intros; exact NJ_none
  | succ n ih => intro x0 x1 x2 x3 x4 M hS; exact nj_Mod_other_B55 _ ih x0 x1 x2 x3 x4 M hS
theorem fj_Mod_other {D : Nat → Prop} {M : Mm} (hC : Cl D M) (hT : Tp D M) (a0 : Nat) (h0 : D a0) (a1 : Int32) (a2 : Int32) (a3 : Int32) : FJ D M (Mod_other M a0 a1 a2 a3) := by
  unfold Mod_other
  refine FJ_if ?_ ?_
  · exact FJ_leaf (Fr.rf hC)
  · refine FJ_ck ?_
    refine FJ_if ?_ ?_
    · exact FJ_leaf (Fr.rf hC)
    · refine FJ_nn (Fr.rf hC) h0 (fun b2 hb2 => ?_)
      refine FJ_ck ?_
      refine FJ_if ?_ ?_
      · exact FJ_leaf (Fr.rf hC)
      · refine FJ_bd hT (Fr.rf hC) (fun gC gT => fj_Mod_in gC gT _ _ _) (fun r4 M5 hFM5 => ?_)
        refine FJ_if ?_ ?_
        · exact FJ_leaf hFM5
        · refine FJ_bd hT hFM5 (fun gC gT => fj_Mod_in gC gT _ _ _) (fun r6 M7 hFM7 => ?_)
          refine FJ_if ?_ ?_
          · exact FJ_leaf hFM7
          · refine FJ_ck ?_
            refine FJ_if ?_ ?_
            · exact fj_Mod_other_J82 hT _ h0 _ _ _ _ hFM7
            · exact fj_Mod_other_L55 hT fu _ h0 _ _ _ _ _ hFM7
theorem nj_Mod_other (M : Mm) (a0 : Nat) (a1 : Int32) (a2 : Int32) (a3 : Int32) : NJ M (Mod_other M a0 a1 a2 a3) := by
  unfold Mod_other
  refine NJ_if ?_ ?_
  · exact NJ_leaf Sm.rf
  · refine NJ_ck ?_
    refine NJ_if ?_ ?_
    · exact NJ_leaf Sm.rf
    · refine NJ_nn (fun b2 => ?_)
      refine NJ_ck ?_
      refine NJ_if ?_ ?_
      · exact NJ_leaf Sm.rf
      · refine NJ_bd Sm.rf (nj_Mod_in _ _ _ _) (fun r4 M5 hSM5 => ?_)
        refine NJ_if ?_ ?_
        · exact NJ_leaf hSM5
        · refine NJ_bd hSM5 (nj_Mod_in _ _ _ _) (fun r6 M7 hSM7 => ?_)
          refine NJ_if ?_ ?_
          · exact NJ_leaf hSM7
          · refine NJ_ck ?_
            refine NJ_if ?_ ?_
            · exact nj_Mod_other_J82 _ _ _ _ _ hSM7
            · exact nj_Mod_other_L55 fu _ _ _ _ _ _ hSM7
theorem fj_Mod_least_J82 {D : Nat → Prop} {M0 : Mm} (hT : Tp D M0) (k24 : Nat → Int32 → Int32 → Int32 → Mm → Option (Int32 × Mm)) (hk24 : ∀ (x0 : Nat) (hx0 : D x0) (x1 : Int32) (x2 : Int32) (x3 : Int32) (M : Mm) (hF : Fr D M0 M), FJ D M0 (k24 x0 x1 x2 x3 M)) (x0 : Nat) (hx0 : D x0) (x1 : Int32) (x2 : Int32) (x3 : Int32) (M : Mm) (hF : Fr D M0 M) : FJ D M0 (Mod_least_J82 k24 x0 x1 x2 x3 M) := by
  unfold Mod_least_J82
  exact hk24 _ hx0 _ _ _ _ hF
theorem nj_Mod_least_J82 {M0 : Mm} (k24 : Nat → Int32 → Int32 → Int32 → Mm → Option (Int32 × Mm)) (hk24 : ∀ (x0 : Nat) (x1 : Int32) (x2 : Int32) (x3 : Int32) (M : Mm) (hS : Sm M0 M), NJ M0 (k24 x0 x1 x2 x3 M)) (x0 : Nat) (x1 : Int32) (x2 : Int32) (x3 : Int32) (M : Mm) (hS : Sm M0 M) : NJ M0 (Mod_least_J82 k24 x0 x1 x2 x3 M) := by
  unfold Mod_least_J82
  exact hk24 _ _ _ _ _ hS
theorem fj_Mod_least_B37 {D : Nat → Prop} {M0 : Mm} (hT : Tp D M0) (k24 : Nat → Int32 → Int32 → Int32 → Mm → Option (Int32 × Mm)) (k37 : Nat → Int32 → Int32 → Int32 → Int32 → Mm → Option (Int32 × Mm)) (hk24 : ∀ (x0 : Nat) (hx0 : D x0) (x1 : Int32) (x2 : Int32) (x3 : Int32) (M : Mm) (hF : Fr D M0 M), FJ D M0 (k24 x0 x1 x2 x3 M)) (hk37 : ∀ (x0 : Nat) (hx0 : D x0) (x1 : Int32) (x2 : Int32) (x3 : Int32) (x4 : Int32) (M : Mm) (hF : Fr D M0 M), FJ D M0 (k37 x0 x1 x2 x3 x4 M)) (x0 : Nat) (hx0 : D x0) (x1 : Int32) (x2 : Int32) (x3 : Int32) (x4 : Int32) (M : Mm) (hF : Fr D M0 M) : FJ D M0 (Mod_least_B37 k24 k37 x0 x1 x2 x3 x4 M) := by
  unfold Mod_least_B37
  refine FJ_ck ?_
  refine FJ_if ?_ ?_
  · exact fj_Mod_least_J82 hT k24 hk24 _ hx0 _ _ _ _ hF
  · refine FJ_if ?_ ?_
    · exact fj_Mod_least_J82 hT k24 hk24 _ hx0 _ _ _ _ hF
    · refine FJ_nn hF hx0 (fun b8 hb8 => ?_)
      refine FJ_ck ?_
      refine FJ_nn hF hx0 (fun b10 hb10 => ?_)
      refine FJ_ck ?_
      refine FJ_bd hT hF (fun gC gT => fj_Mod_abs gC gT _) (fun r12 M13 hFM13 => ?_)
      refine FJ_bd hT hFM13 (fun gC gT => fj_Mod_max gC gT _ _) (fun r14 M15 hFM15 => ?_)
      exact hk37 _ hx0 _ _ _ _ _ hFM15
theorem nj_Mod_least_B37 {M0 : Mm} (k24 : Nat → Int32 → Int32 → Int32 → Mm → Option (Int32 × Mm)) (k37 : Nat → Int32 → Int32 → Int32 → Int32 → Mm → Option (Int32 × Mm)) (hk24 : ∀ (x0 : Nat) (x1 : Int32) (x2 : Int32) (x3 : Int32) (M : Mm) (hS : Sm M0 M), NJ M0 (k24 x0 x1 x2 x3 M)) (hk37 : ∀ (x0 : Nat) (x1 : Int32) (x2 : Int32) (x3 : Int32) (x4 : Int32) (M : Mm) (hS : Sm M0 M), NJ M0 (k37 x0 x1 x2 x3 x4 M)) (x0 : Nat) (x1 : Int32) (x2 : Int32) (x3 : Int32) (x4 : Int32) (M : Mm) (hS : Sm M0 M) : NJ M0 (Mod_least_B37 k24 k37 x0 x1 x2 x3 x4 M) := by
  unfold Mod_least_B37
  refine NJ_ck ?_
  refine NJ_if ?_ ?_
  · exact nj_Mod_least_J82 k24 hk24 _ _ _ _ _ hS
  · refine NJ_if ?_ ?_
    · exact nj_Mod_least_J82 k24 hk24 _ _ _ _ _ hS
    · refine NJ_nn (fun b8 => ?_)
      refine NJ_ck ?_
      refine NJ_nn (fun b10 => ?_)
      refine NJ_ck ?_
      refine NJ_bd hS (nj_Mod_abs _ _) (fun r12 M13 hSM13 => ?_)
      refine NJ_bd hSM13 (nj_Mod_max _ _ _) (fun r14 M15 hSM15 => ?_)
      exact hk37 _ _ _ _ _ _ hSM15
theorem fj_Mod_least_L37 {D : Nat → Prop} {M0 : Mm} (hT : Tp D M0) (k24 : Nat → Int32 → Int32 → Int32 → Mm → Option (Int32 × Mm)) (hk24 : ∀ (x0 : Nat) (hx0 : D x0) (x1 : Int32) (x2 : Int32) (x3 : Int32) (M : Mm) (hF : Fr D M0 M), FJ D M0 (k24 x0 x1 x2 x3 M)) : ∀ (n : Nat) (x0 : Nat) (hx0 : D x0) (x1 : Int32) (x2 : Int32) (x3 : Int32) (x4 : Int32) (M : Mm) (hF : Fr D M0 M), FJ D M0 (Mod_least_L37 k24 n x0 x1 x2 x3 x4 M) := by
  intro n
  induction n with
  | zero => intros; exact FJ_none
  | succ n ih => intro x0 hx0 x1 x2 x3 x4 M hF; exact fj_Mod_least_B37 hT k24 _ hk24 ih x0 hx0 x1 x2 x3 x4 M hF
theorem nj_Mod_least_L37 {M0 : Mm} (k24 : Nat → Int32 → Int32 → Int32 → Mm → Option (Int32 × Mm)) (hk24 : ∀ (x0 : Nat) (x1 : Int32) (x2 : Int32) (x3 : Int32) (M : Mm) (hS : Sm M0 M), NJ M0 (k24 x0 x1 x2 x3 M)) : ∀ (n : Nat) (x0 : Nat) (x1 : Int32) (x2 : Int32) (x3 : Int32) (x4 : Int32) (M : Mm) (hS : Sm M0 M), NJ M0 (Mod_least_L37 k24 n x0 x1 x2 x3 x4 M) := by
  intro n
  induction n with
  | zero => intros; exact NJ_none
  | succ n ih => intro x0 x1 x2 x3 x4 M hS; exact nj_Mod_least_B37 k24 _ hk24 ih x0 x1 x2 x3 x4 M hS
theorem fj_Mod_least_B24 {D : Nat → Prop} {M0 : Mm} (hT : Tp D M0) (k24 : Nat → Int32 → Int32 → Int32 → Mm → Option (Int32 × Mm)) (hk24 : ∀ (x0 : Nat) (hx0 : D x0) (x1 : Int32) (x2 : Int32) (x3 : Int32) (M : Mm) (hF : Fr D M0 M), FJ D M0 (k24 x0 x1 x2 x3 M)) (x0 : Nat) (hx0 : D x0) (x1 : Int32) (x2 : Int32) (x3 : Int32) (M : Mm) (hF : Fr D M0 M) : FJ D M0 (Mod_least_B24 k24 x0 x1 x2 x3 M) := by
  unfold Mod_least_B24
  refine FJ_ck ?_
  refine FJ_if ?_ ?_
  · exact FJ_leaf hF
  · exact fj_Mod_least_L37 hT k24 hk24 fu _ hx0 _ _ _ _ _ hF
theorem nj_Mod_least_B24 {M0 : Mm} (k24 : Nat → Int32 → Int32 → Int32 → Mm → Option (Int32 × Mm)) (hk24 : ∀ (x0 : Nat) (x1 : Int32) (x2 : Int32) (x3 : Int32) (M : Mm) (hS : Sm M0 M), NJ M0 (k24 x0 x1 x2 x3 M)) (x0 : Nat) (x1 : Int32) (x2 : Int32) (x3 : Int32) (M : Mm) (hS : Sm M0 M) : NJ M0 (Mod_least_B24 k24 x0 x1 x2 x3 M) := by
  unfold Mod_least_B24
  refine NJ_ck ?_
  refine NJ_if ?_ ?_
  · exact NJ_leaf hS
  · exact nj_Mod_least_L37 k24 hk24 fu _ _ _ _ _ _ hS
theorem fj_Mod_least_L24 {D : Nat → Prop} {M0 : Mm} (hT : Tp D M0) : ∀ (n : Nat) (x0 : Nat) (hx0 : D x0) (x1 : Int32) (x2 : Int32) (x3 : Int32) (M : Mm) (hF : Fr D M0 M), FJ D M0 (Mod_least_L24 n x0 x1 x2 x3 M) := by
  intro n
  induction n with
  | zero => intros; exact FJ_none
  | succ n ih => intro x0 hx0 x1 x2 x3 M hF; exact fj_Mod_least_B24 hT _ ih x0 hx0 x1 x2 x3 M hF
theorem nj_Mod_least_L24 {M0 : Mm} : ∀ (n : Nat) (x0 : Nat) (x1 : Int32) (x2 : Int32) (x3 : Int32) (M : Mm) (hS : Sm M0 M), NJ M0 (Mod_least_L24 n x0 x1 x2 x3 M) := by
  intro n
  induction n with
  | zero => intros; exact NJ_none
  | succ n ih => intro x0 x1 x2 x3 M hS; exact nj_Mod_least_B24 _ ih x0 x1 x2 x3 M hS
theorem fj_Mod_least {D : Nat → Prop} {M : Mm} (hC : Cl D M) (hT : Tp D M) (a0 : Nat) (h0 : D a0) (a1 : Int32) : FJ D M (Mod_least M a0 a1) := by
  unfold Mod_least
  refine FJ_bd hT (Fr.rf hC) (fun gC gT => fj_Mod_in gC gT _ _ _) (fun r1 M2 hFM2 => ?_)
  refine FJ_if ?_ ?_
  · exact FJ_leaf hFM2
  · refine FJ_ck ?_
    refine FJ_if ?_ ?_
    · exact fj_Mod_least_L24 hT fu _ h0 _ _ _ _ hFM2
    · exact FJ_leaf hFM2
theorem nj_Mod_least (M : Mm) (a0 : Nat) (a1 : Int32) : NJ M (Mod_least M a0 a1) := by
  unfold Mod_least
  refine NJ_bd Sm.rf (nj_Mod_in _ _ _ _) (fun r1 M2 hSM2 => ?_)
  refine NJ_if ?_ ?_
  · exact NJ_leaf hSM2
  · refine NJ_ck ?_
    refine NJ_if ?_ ?_
    · exact nj_Mod_least_L24 fu _ _ _ _ _ hSM2
    · exact NJ_leaf hSM2
theorem fj_Mod_judged_J103 {D : Nat → Prop} {M0 : Mm} (hT : Tp D M0) (k28 : Nat → Int32 → Int32 → Int32 → Int32 → Mm → Option (Int32 × Mm)) (hk28 : ∀ (x0 : Nat) (hx0 : D x0) (x1 : Int32) (x2 : Int32) (x3 : Int32) (x4 : Int32) (M : Mm) (hF : Fr D M0 M), FJ D M0 (k28 x0 x1 x2 x3 x4 M)) (x0 : Nat) (hx0 : D x0) (x1 : Int32) (x2 : Int32) (x3 : Int32) (x4 : Int32) (M : Mm) (hF : Fr D M0 M) : FJ D M0 (Mod_judged_J103 k28 x0 x1 x2 x3 x4 M) := by
  unfold Mod_judged_J103
  exact hk28 _ hx0 _ _ _ _ _ hF
theorem nj_Mod_judged_J103 {M0 : Mm} (k28 : Nat → Int32 → Int32 → Int32 → Int32 → Mm → Option (Int32 × Mm)) (hk28 : ∀ (x0 : Nat) (x1 : Int32) (x2 : Int32) (x3 : Int32) (x4 : Int32) (M : Mm) (hS : Sm M0 M), NJ M0 (k28 x0 x1 x2 x3 x4 M)) (x0 : Nat) (x1 : Int32) (x2 : Int32) (x3 : Int32) (x4 : Int32) (M : Mm) (hS : Sm M0 M) : NJ M0 (Mod_judged_J103 k28 x0 x1 x2 x3 x4 M) := by
  unfold Mod_judged_J103
  exact hk28 _ _ _ _ _ _ hS
theorem fj_Mod_judged_J95 {D : Nat → Prop} {M0 : Mm} (hT : Tp D M0) (k28 : Nat → Int32 → Int32 → Int32 → Int32 → Mm → Option (Int32 × Mm)) (hk28 : ∀ (x0 : Nat) (hx0 : D x0) (x1 : Int32) (x2 : Int32) (x3 : Int32) (x4 : Int32) (M : Mm) (hF : Fr D M0 M), FJ D M0 (k28 x0 x1 x2 x3 x4 M)) (x0 : Nat) (hx0 : D x0) (x1 : Int32) (x2 : Int32) (x3 : Int32) (x4 : Int32) (x5 : Int32) (M : Mm) (hF : Fr D M0 M) : FJ D M0 (Mod_judged_J95 k28 x0 x1 x2 x3 x4 x5 M) := by
  unfold Mod_judged_J95
  refine FJ_if ?_ ?_
  · exact fj_Mod_judged_J103 hT k28 hk28 _ hx0 _ _ _ _ _ hF
  · exact fj_Mod_judged_J103 hT k28 hk28 _ hx0 _ _ _ _ _ hF
theorem nj_Mod_judged_J95 {M0 : Mm} (k28 : Nat → Int32 → Int32 → Int32 → Int32 → Mm → Option (Int32 × Mm)) (hk28 : ∀ (x0 : Nat) (x1 : Int32) (x2 : Int32) (x3 : Int32) (x4 : Int32) (M : Mm) (hS : Sm M0 M), NJ M0 (k28 x0 x1 x2 x3 x4 M)) (x0 : Nat) (x1 : Int32) (x2 : Int32) (x3 : Int32) (x4 : Int32) (x5 : Int32) (M : Mm) (hS : Sm M0 M) : NJ M0 (Mod_judged_J95 k28 x0 x1 x2 x3 x4 x5 M) := by
  unfold Mod_judged_J95
  refine NJ_if ?_ ?_
  · exact nj_Mod_judged_J103 k28 hk28 _ _ _ _ _ _ hS
  · exact nj_Mod_judged_J103 k28 hk28 _ _ _ _ _ _ hS
theorem fj_Mod_judged_J89 {D : Nat → Prop} {M0 : Mm} (hT : Tp D M0) (k28 : Nat → Int32 → Int32 → Int32 → Int32 → Mm → Option (Int32 × Mm)) (k46 : Nat → Int32 → Int32 → Int32 → Int32 → Int32 → Int32 → Mm → Option (Int32 × Mm)) (hk28 : ∀ (x0 : Nat) (hx0 : D x0) (x1 : Int32) (x2 : Int32) (x3 : Int32) (x4 : Int32) (M : Mm) (hF : Fr D M0 M), FJ D M0 (k28 x0 x1 x2 x3 x4 M)) (hk46 : ∀ (x0 : Nat) (hx0 : D x0) (x1 : Int32) (x2 : Int32) (x3 : Int32) (x4 : Int32) (x5 : Int32) (x6 : Int32) (M : Mm) (hF : Fr D M0 M), FJ D M0 (k46 x0 x1 x2 x3 x4 x5 x6 M)) (x0 : Nat) (hx0 : D x0) (x1 : Int32) (x2 : Int32) (x3 : Int32) (x4 : Int32) (x5 : Int32) (x6 : Int32) (M : Mm) (hF : Fr D M0 M) : FJ D M0 (Mod_judged_J89 k28 k46 x0 x1 x2 x3 x4 x5 x6 M) := by
  unfold Mod_judged_J89
  exact hk46 _ hx0 _ _ _ _ _ _ _ hF
theorem nj_Mod_judged_J89 {M0 : Mm} (k28 : Nat → Int32 → Int32 → Int32 → Int32 → Mm → Option (Int32 × Mm)) (k46 : Nat → Int32 → Int32 → Int32 → Int32 → Int32 → Int32 → Mm → Option (Int32 × Mm)) (hk28 : ∀ (x0 : Nat) (x1 : Int32) (x2 : Int32) (x3 : Int32) (x4 : Int32) (M : Mm) (hS : Sm M0 M), NJ M0 (k28 x0 x1 x2 x3 x4 M)) (hk46 : ∀ (x0 : Nat) (x1 : Int32) (x2 : Int32) (x3 : Int32) (x4 : Int32) (x5 : Int32) (x6 : Int32) (M : Mm) (hS : Sm M0 M), NJ M0 (k46 x0 x1 x2 x3 x4 x5 x6 M)) (x0 : Nat) (x1 : Int32) (x2 : Int32) (x3 : Int32) (x4 : Int32) (x5 : Int32) (x6 : Int32) (M : Mm) (hS : Sm M0 M) : NJ M0 (Mod_judged_J89 k28 k46 x0 x1 x2 x3 x4 x5 x6 M) := by
  unfold Mod_judged_J89
  exact hk46 _ _ _ _ _ _ _ _ hS
theorem fj_Mod_judged_B46 {D : Nat → Prop} {M0 : Mm} (hT : Tp D M0) (k28 : Nat → Int32 → Int32 → Int32 → Int32 → Mm → Option (Int32 × Mm)) (k46 : Nat → Int32 → Int32 → Int32 → Int32 → Int32 → Int32 → Mm → Option (Int32 × Mm)) (hk28 : ∀ (x0 : Nat) (hx0 : D x0) (x1 : Int32) (x2 : Int32) (x3 : Int32) (x4 : Int32) (M : Mm) (hF : Fr D M0 M), FJ D M0 (k28 x0 x1 x2 x3 x4 M)) (hk46 : ∀ (x0 : Nat) (hx0 : D x0) (x1 : Int32) (x2 : Int32) (x3 : Int32) (x4 : Int32) (x5 : Int32) (x6 : Int32) (M : Mm) (hF : Fr D M0 M), FJ D M0 (k46 x0 x1 x2 x3 x4 x5 x6 M)) (x0 : Nat) (hx0 : D x0) (x1 : Int32) (x2 : Int32) (x3 : Int32) (x4 : Int32) (x5 : Int32) (x6 : Int32) (M : Mm) (hF : Fr D M0 M) : FJ D M0 (Mod_judged_B46 k28 k46 x0 x1 x2 x3 x4 x5 x6 M) := by
  unfold Mod_judged_B46
  refine FJ_ck ?_
  refine FJ_if ?_ ?_
  · exact fj_Mod_judged_J95 hT k28 hk28 _ hx0 _ _ _ _ _ _ hF
  · refine FJ_if ?_ ?_
    · exact fj_Mod_judged_J95 hT k28 hk28 _ hx0 _ _ _ _ _ _ hF
    · refine FJ_nn hF hx0 (fun b10 hb10 => ?_)
      refine FJ_ck ?_
      refine FJ_nn hF hx0 (fun b12 hb12 => ?_)
      refine FJ_ck ?_
      refine FJ_bd hT hF (fun gC gT => fj_Mod_abs gC gT _) (fun r14 M15 hFM15 => ?_)
      refine FJ_if ?_ ?_
      · exact fj_Mod_judged_J89 hT k28 k46 hk28 hk46 _ hx0 _ _ _ _ _ _ _ hFM15
      · exact fj_Mod_judged_J89 hT k28 k46 hk28 hk46 _ hx0 _ _ _ _ _ _ _ hFM15
theorem nj_Mod_judged_B46 {M0 : Mm} (k28 : Nat → Int32 → Int32 → Int32 → Int32 → Mm → Option (Int32 × Mm)) (k46 : Nat → Int32 → Int32 → Int32 → Int32 → Int32 → Int32 → Mm → Option (Int32 × Mm)) (hk28 : ∀ (x0 : Nat) (x1 : Int32) (x2 : Int32) (x3 : Int32) (x4 : Int32) (M : Mm) (hS : Sm M0 M), NJ M0 (k28 x0 x1 x2 x3 x4 M)) (hk46 : ∀ (x0 : Nat) (x1 : Int32) (x2 : Int32) (x3 : Int32) (x4 : Int32) (x5 : Int32) (x6 : Int32) (M : Mm) (hS : Sm M0 M), NJ M0 (k46 x0 x1 x2 x3 x4 x5 x6 M)) (x0 : Nat) (x1 : Int32) (x2 : Int32) (x3 : Int32) (x4 : Int32) (x5 : Int32) (x6 : Int32) (M : Mm) (hS : Sm M0 M) : NJ M0 (Mod_judged_B46 k28 k46 x0 x1 x2 x3 x4 x5 x6 M) := by
  unfold Mod_judged_B46
  refine NJ_ck ?_
  refine NJ_if ?_ ?_
  · exact nj_Mod_judged_J95 k28 hk28 _ _ _ _ _ _ _ hS
  · refine NJ_if ?_ ?_
    · exact nj_Mod_judged_J95 k28 hk28 _ _ _ _ _ _ _ hS
    · refine NJ_nn (fun b10 => ?_)
      refine NJ_ck ?_
      refine NJ_nn (fun b12 => ?_)
      refine NJ_ck ?_
      refine NJ_bd hS (nj_Mod_abs _ _) (fun r14 M15 hSM15 => ?_)
      refine NJ_if ?_ ?_
      · exact nj_Mod_judged_J89 k28 k46 hk28 hk46 _ _ _ _ _ _ _ _ hSM15
      · exact nj_Mod_judged_J89 k28 k46 hk28 hk46 _ _ _ _ _ _ _ _ hSM15
theorem fj_Mod_judged_L46 {D : Nat → Prop} {M0 : Mm} (hT : Tp D M0) (k28 : Nat → Int32 → Int32 → Int32 → Int32 → Mm → Option (Int32 × Mm)) (hk28 : ∀ (x0 : Nat) (hx0 : D x0) (x1 : Int32) (x2 : Int32) (x3 : Int32) (x4 : Int32) (M : Mm) (hF : Fr D M0 M), FJ D M0 (k28 x0 x1 x2 x3 x4 M)) : ∀ (n : Nat) (x0 : Nat) (hx0 : D x0) (x1 : Int32) (x2 : Int32) (x3 : Int32) (x4 : Int32) (x5 : Int32) (x6 : Int32) (M : Mm) (hF : Fr D M0 M), FJ D M0 (Mod_judged_L46 k28 n x0 x1 x2 x3 x4 x5 x6 M) := by
  intro n
  induction n with
  | zero => intros; exact FJ_none
  | succ n ih => intro x0 hx0 x1 x2 x3 x4 x5 x6 M hF; exact fj_Mod_judged_B46 hT k28 _ hk28 ih x0 hx0 x1 x2 x3 x4 x5 x6 M hF
theorem nj_Mod_judged_L46 {M0 : Mm} (k28 : Nat → Int32 → Int32 → Int32 → Int32 → Mm → Option (Int32 × Mm)) (hk28 : ∀ (x0 : Nat) (x1 : Int32) (x2 : Int32) (x3 : Int32) (x4 : Int32) (M : Mm) (hS : Sm M0 M), NJ M0 (k28 x0 x1 x2 x3 x4 M)) : ∀ (n : Nat) (x0 : Nat) (x1 : Int32) (x2 : Int32) (x3 : Int32) (x4 : Int32) (x5 : Int32) (x6 : Int32) (M : Mm) (hS : Sm M0 M), NJ M0 (Mod_judged_L46 k28 n x0 x1 x2 x3 x4 x5 x6 M) := by
  intro n
  induction n with
  | zero => intros; exact NJ_none
  | succ n ih => intro x0 x1 x2 x3 x4 x5 x6 M hS; exact nj_Mod_judged_B46 k28 _ hk28 ih x0 x1 x2 x3 x4 x5 x6 M hS
theorem fj_Mod_judged_B28 {D : Nat → Prop} {M0 : Mm} (hT : Tp D M0) (k28 : Nat → Int32 → Int32 → Int32 → Int32 → Mm → Option (Int32 × Mm)) (hk28 : ∀ (x0 : Nat) (hx0 : D x0) (x1 : Int32) (x2 : Int32) (x3 : Int32) (x4 : Int32) (M : Mm) (hF : Fr D M0 M), FJ D M0 (k28 x0 x1 x2 x3 x4 M)) (x0 : Nat) (hx0 : D x0) (x1 : Int32) (x2 : Int32) (x3 : Int32) (x4 : Int32) (M : Mm) (hF : Fr D M0 M) : FJ D M0 (Mod_judged_B28 k28 x0 x1 x2 x3 x4 M) := by
  unfold Mod_judged_B28
  refine FJ_ck ?_
  refine FJ_if ?_ ?_
  · exact FJ_leaf hF
  · exact fj_Mod_judged_L46 hT k28 hk28 fu _ hx0 _ _ _ _ _ _ _ hF
theorem nj_Mod_judged_B28 {M0 : Mm} (k28 : Nat → Int32 → Int32 → Int32 → Int32 → Mm → Option (Int32 × Mm)) (hk28 : ∀ (x0 : Nat) (x1 : Int32) (x2 : Int32) (x3 : Int32) (x4 : Int32) (M : Mm) (hS : Sm M0 M), NJ M0 (k28 x0 x1 x2 x3 x4 M)) (x0 : Nat) (x1 : Int32) (x2 : Int32) (x3 : Int32) (x4 : Int32) (M : Mm) (hS : Sm M0 M) : NJ M0 (Mod_judged_B28 k28 x0 x1 x2 x3 x4 M) := by
  unfold Mod_judged_B28
  refine NJ_ck ?_
  refine NJ_if ?_ ?_
  · exact NJ_leaf hS
  · exact nj_Mod_judged_L46 k28 hk28 fu _ _ _ _ _ _ _ _ hS
theorem fj_Mod_judged_L28 {D : Nat → Prop} {M0 : Mm} (hT : Tp D M0) : ∀ (n : Nat) (x0 : Nat) (hx0 : D x0) (x1 : Int32) (x2 : Int32) (x3 : Int32) (x4 : Int32) (M : Mm) (hF : Fr D M0 M), FJ D M0 (Mod_judged_L28 n x0 x1 x2 x3 x4 M) := by
  intro n
  induction n with
  | zero => intros; exact FJ_none
  | succ n ih => intro x0 hx0 x1 x2 x3 x4 M hF; exact fj_Mod_judged_B28 hT _ ih x0 hx0 x1 x2 x3 x4 M hF
theorem nj_Mod_judged_L28 {M0 : Mm} : ∀ (n : Nat) (x0 : Nat) (x1 : Int32) (x2 : Int32) (x3 : Int32) (x4 : Int32) (M : Mm) (hS : Sm M0 M), NJ M0 (Mod_judged_L28 n x0 x1 x2 x3 x4 M) := by
  intro n
  induction n with
  | zero => intros; exact NJ_none
  | succ n ih => intro x0 x1 x2 x3 x4 M hS; exact nj_Mod_judged_B28 _ ih x0 x1 x2 x3 x4 M hS
theorem fj_Mod_judged {D : Nat → Prop} {M : Mm} (hC : Cl D M) (hT : Tp D M) (a0 : Nat) (h0 : D a0) (a1 : Int32) (a2 : Int32) : FJ D M (Mod_judged M a0 a1 a2) := by
  unfold Mod_judged
  refine FJ_bd hT (Fr.rf hC) (fun gC gT => fj_Mod_in gC gT _ _ _) (fun r1 M2 hFM2 => ?_)
  refine FJ_if ?_ ?_
  · exact FJ_leaf hFM2
  · refine FJ_bd hT hFM2 (fun gC gT => fj_Mod_in gC gT _ _ _) (fun r3 M4 hFM4 => ?_)
    refine FJ_if ?_ ?_
    · exact FJ_leaf hFM4
    · exact fj_Mod_judged_L28 hT fu _ h0 _ _ _ _ _ hFM4
theorem nj_Mod_judged (M : Mm) (a0 : Nat) (a1 : Int32) (a2 : Int32) : NJ M (Mod_judged M a0 a1 a2) := by
  unfold Mod_judged
  refine NJ_bd Sm.rf (nj_Mod_in _ _ _ _) (fun r1 M2 hSM2 => ?_)
  refine NJ_if ?_ ?_
  · exact NJ_leaf hSM2
  · refine NJ_bd hSM2 (nj_Mod_in _ _ _ _) (fun r3 M4 hSM4 => ?_)
    refine NJ_if ?_ ?_
    · exact NJ_leaf hSM4
    · exact nj_Mod_judged_L28 fu _ _ _ _ _ _ hSM4
theorem fj_Mod_count {D : Nat → Prop} {M : Mm} (hC : Cl D M) (hT : Tp D M) (a0 : Nat) (h0 : D a0) (a1 : Int32) : FJ D M (Mod_count M a0 a1) := by
  unfold Mod_count
  refine FJ_if ?_ ?_
  · refine FJ_ck ?_
    exact FJ_leaf (Fr.rf hC)
  · refine FJ_if ?_ ?_
    · refine FJ_ck ?_
      exact FJ_leaf (Fr.rf hC)
    · refine FJ_if ?_ ?_
      · refine FJ_ck ?_
        exact FJ_leaf (Fr.rf hC)
      · refine FJ_if ?_ ?_
        · refine FJ_ck ?_
          exact FJ_leaf (Fr.rf hC)
        · refine FJ_if ?_ ?_
          · refine FJ_ck ?_
            exact FJ_leaf (Fr.rf hC)
          · refine FJ_if ?_ ?_
            · refine FJ_ck ?_
              exact FJ_leaf (Fr.rf hC)
            · refine FJ_if ?_ ?_
              · refine FJ_ck ?_
                refine FJ_if ?_ ?_
                · exact FJ_leaf (Fr.rf hC)
                · refine FJ_nn (Fr.rf hC) h0 (fun b8 hb8 => ?_)
                  refine FJ_ck ?_
                  exact FJ_leaf (Fr.rf hC)
              · refine FJ_if ?_ ?_
                · refine FJ_ck ?_
                  exact FJ_leaf (Fr.rf hC)
                · refine FJ_if ?_ ?_
                  · refine FJ_ck ?_
                    exact FJ_leaf (Fr.rf hC)
                  · refine FJ_if ?_ ?_
                    · refine FJ_ck ?_
                      exact FJ_leaf (Fr.rf hC)
                    · refine FJ_if ?_ ?_
                      · refine FJ_ck ?_
                        exact FJ_leaf (Fr.rf hC)
                      · refine FJ_if ?_ ?_
                        · refine FJ_ck ?_
                          exact FJ_leaf (Fr.rf hC)
                        · refine FJ_if ?_ ?_
                          · refine FJ_ck ?_
                            exact FJ_leaf (Fr.rf hC)
                          · refine FJ_if ?_ ?_
                            · refine FJ_ck ?_
                              refine FJ_if ?_ ?_
                              · exact FJ_leaf (Fr.rf hC)
                              · exact FJ_leaf (Fr.rf hC)
                            · exact FJ_leaf (Fr.rf hC)
theorem nj_Mod_count (M : Mm) (a0 : Nat) (a1 : Int32) : NJ M (Mod_count M a0 a1) := by
  unfold Mod_count
  refine NJ_if ?_ ?_
  · refine NJ_ck ?_
    exact NJ_leaf Sm.rf
  · refine NJ_if ?_ ?_
    · refine NJ_ck ?_
      exact NJ_leaf Sm.rf
    · refine NJ_if ?_ ?_
      · refine NJ_ck ?_
        exact NJ_leaf Sm.rf
      · refine NJ_if ?_ ?_
        · refine NJ_ck ?_
          exact NJ_leaf Sm.rf
        · refine NJ_if ?_ ?_
          · refine NJ_ck ?_
            exact NJ_leaf Sm.rf
          · refine NJ_if ?_ ?_
            · refine NJ_ck ?_
              exact NJ_leaf Sm.rf
            · refine NJ_if ?_ ?_
              · refine NJ_ck ?_
                refine NJ_if ?_ ?_
                · exact NJ_leaf Sm.rf
                · refine NJ_nn (fun b8 => ?_)
                  refine NJ_ck ?_
                  exact NJ_leaf Sm.rf
              · refine NJ_if ?_ ?_
                · refine NJ_ck ?_
                  exact NJ_leaf Sm.rf
                · refine NJ_if ?_ ?_
                  · refine NJ_ck ?_
                    exact NJ_leaf Sm.rf
                  · refine NJ_if ?_ ?_
                    · refine NJ_ck ?_
                      exact NJ_leaf Sm.rf
                    · refine NJ_if ?_ ?_
                      · refine NJ_ck ?_
                        exact NJ_leaf Sm.rf
                      · refine NJ_if ?_ ?_
                        · refine NJ_ck ?_
                          exact NJ_leaf Sm.rf
                        · refine NJ_if ?_ ?_
                          · refine NJ_ck ?_
                            exact NJ_leaf Sm.rf
                          · refine NJ_if ?_ ?_
                            · refine NJ_ck ?_
                              refine NJ_if ?_ ?_
                              · exact NJ_leaf Sm.rf
                              · exact NJ_leaf Sm.rf
                            · exact NJ_leaf Sm.rf
theorem fj_Mod_sum_B36 {D : Nat → Prop} {M0 : Mm} (hT : Tp D M0) (k36 : Nat → Int64 → Int32 → Mm → Option (Int64 × Mm)) (hk36 : ∀ (x0 : Nat) (hx0 : D x0) (x2 : Int64) (x4 : Int32) (M : Mm) (hF : Fr D M0 M), FJ D M0 (k36 x0 x2 x4 M)) (x0 : Nat) (hx0 : D x0) (x2 : Int64) (x4 : Int32) (M : Mm) (hF : Fr D M0 M) : FJ D M0 (Mod_sum_B36 k36 x0 x2 x4 M) := by
  unfold Mod_sum_B36
  refine FJ_ck ?_
  refine FJ_if ?_ ?_
  · exact FJ_leaf hF
  · refine FJ_nn hF hx0 (fun b4 hb4 => ?_)
    refine FJ_ck ?_
    exact hk36 _ hx0 _ _ _ hF
theorem nj_Mod_sum_B36 {M0 : Mm} (k36 : Nat → Int64 → Int32 → Mm → Option (Int64 × Mm)) (hk36 : ∀ (x0 : Nat) (x2 : Int64) (x4 : Int32) (M : Mm) (hS : Sm M0 M), NJ M0 (k36 x0 x2 x4 M)) (x0 : Nat) (x2 : Int64) (x4 : Int32) (M : Mm) (hS : Sm M0 M) : NJ M0 (Mod_sum_B36 k36 x0 x2 x4 M) := by
  unfold Mod_sum_B36
  refine NJ_ck ?_
  refine NJ_if ?_ ?_
  · exact NJ_leaf hS
  · refine NJ_nn (fun b4 => ?_)
    refine NJ_ck ?_
    exact hk36 _ _ _ _ hS
theorem fj_Mod_sum_L36 {D : Nat → Prop} {M0 : Mm} (hT : Tp D M0) : ∀ (n : Nat) (x0 : Nat) (hx0 : D x0) (x2 : Int64) (x4 : Int32) (M : Mm) (hF : Fr D M0 M), FJ D M0 (Mod_sum_L36 n x0 x2 x4 M) := by
  intro n
  induction n with
  | zero => intros; exact FJ_none
  | succ n ih => intro x0 hx0 x2 x4 M hF; exact fj_Mod_sum_B36 hT _ ih x0 hx0 x2 x4 M hF
theorem nj_Mod_sum_L36 {M0 : Mm} : ∀ (n : Nat) (x0 : Nat) (x2 : Int64) (x4 : Int32) (M : Mm) (hS : Sm M0 M), NJ M0 (Mod_sum_L36 n x0 x2 x4 M) := by
  intro n
  induction n with
  | zero => intros; exact NJ_none
  | succ n ih => intro x0 x2 x4 M hS; exact nj_Mod_sum_B36 _ ih x0 x2 x4 M hS
theorem fj_Mod_sum {D : Nat → Prop} {M : Mm} (hC : Cl D M) (hT : Tp D M) (a0 : Nat) (h0 : D a0) (a1 : Int32) : FJ D M (Mod_sum M a0 a1) := by
  unfold Mod_sum
  refine FJ_if ?_ ?_
  · refine FJ_ck ?_
    exact FJ_leaf (Fr.rf hC)
  · refine FJ_if ?_ ?_
    · refine FJ_ck ?_
      exact FJ_leaf (Fr.rf hC)
    · refine FJ_if ?_ ?_
      · refine FJ_ck ?_
        exact fj_Mod_sum_L36 hT fu _ h0 _ _ _ (Fr.rf hC)
      · exact FJ_leaf (Fr.rf hC)
theorem nj_Mod_sum (M : Mm) (a0 : Nat) (a1 : Int32) : NJ M (Mod_sum M a0 a1) := by
  unfold Mod_sum
  refine NJ_if ?_ ?_
  · refine NJ_ck ?_
    exact NJ_leaf Sm.rf
  · refine NJ_if ?_ ?_
    · refine NJ_ck ?_
      exact NJ_leaf Sm.rf
    · refine NJ_if ?_ ?_
      · refine NJ_ck ?_
        exact nj_Mod_sum_L36 fu _ _ _ _ Sm.rf
      · exact NJ_leaf Sm.rf
