theorem fj_Hall_session {D : Nat → Prop} {M : Mm} (hC : Cl D M) (hT : Tp D M) (a0 : Nat) (h0 : D a0) (a1 : Int32) (a2 : Int32) : FJ D M (Hall_session M a0 a1 a2) := by
  unfold Hall_session
  refine FJ_ck ?_
  refine FJ_bd hT (Fr.rf hC) (fun gC gT => fj_Hall_isSession gC gT _ h0 _) (fun r2 M3 hFM3 => ?_)
  refine FJ_if ?_ ?_
  · exact FJ_leaf hFM3
  · refine FJ_ck ?_
    refine FJ_nn hFM3 h0 (fun b5 hb5 => ?_)
    refine FJ_ck ?_
    refine FJ_nn hFM3 hb5 (fun b7 hb7 => ?_)
    refine FJ_if ?_ ?_
    · refine FJ_ck ?_
      exact FJ_leaf hFM3
    · refine FJ_if ?_ ?_
      · refine FJ_ck ?_
        exact FJ_leaf hFM3
      · refine FJ_if ?_ ?_
        · refine FJ_ck ?_
          exact FJ_leaf hFM3
        · refine FJ_if ?_ ?_
          · refine FJ_ck ?_
            exact FJ_leaf hFM3
          · refine FJ_if ?_ ?_
            · refine FJ_ck ?_
              exact FJ_leaf hFM3
            · refine FJ_if ?_ ?_
              · refine FJ_ck ?_
                exact FJ_leaf hFM3
              · refine FJ_if ?_ ?_
                · refine FJ_ck ?_
                  exact FJ_leaf hFM3
                · exact FJ_leaf hFM3
theorem nj_Hall_session (M : Mm) (a0 : Nat) (a1 : Int32) (a2 : Int32) : NJ M (Hall_session M a0 a1 a2) := by
  unfold Hall_session
  refine NJ_ck ?_
  refine NJ_bd Sm.rf (nj_Hall_isSession _ _ _) (fun r2 M3 hSM3 => ?_)
  refine NJ_if ?_ ?_
  · exact NJ_leaf hSM3
  · refine NJ_ck ?_
    refine NJ_nn (fun b5 => ?_)
    refine NJ_ck ?_
    refine NJ_nn (fun b7 => ?_)
    refine NJ_if ?_ ?_
    · refine NJ_ck ?_
      exact NJ_leaf hSM3
    · refine NJ_if ?_ ?_
      · refine NJ_ck ?_
        exact NJ_leaf hSM3
      · refine NJ_if ?_ ?_
        · refine NJ_ck ?_
          exact NJ_leaf hSM3
        · refine NJ_if ?_ ?_
          · refine NJ_ck ?_
            exact NJ_leaf hSM3
          · refine NJ_if ?_ ?_
            · refine NJ_ck ?_
              exact NJ_leaf hSM3
            · refine NJ_if ?_ ?_
              · refine NJ_ck ?_
                exact NJ_leaf hSM3
              · refine NJ_if ?_ ?_
                · refine NJ_ck ?_
                  exact NJ_leaf hSM3
                · exact NJ_leaf hSM3
theorem fj_Hall_bargain {D : Nat → Prop} {M : Mm} (hC : Cl D M) (hT : Tp D M) (a0 : Nat) (h0 : D a0) (a1 : Int32) (a2 : Int32) (a3 : Int32) : FJ D M (Hall_bargain M a0 a1 a2 a3) := by
  unfold Hall_bargain
  refine FJ_ck ?_
  refine FJ_bd hT (Fr.rf hC) (fun gC gT => fj_Hall_isSession gC gT _ h0 _) (fun r2 M3 hFM3 => ?_)
  refine FJ_if ?_ ?_
  · exact FJ_leaf hFM3
  · refine FJ_ck ?_
    refine FJ_nn hFM3 h0 (fun b5 hb5 => ?_)
    refine FJ_ck ?_
    refine FJ_nn hFM3 hb5 (fun b7 hb7 => ?_)
    refine FJ_ck ?_
    refine FJ_bd hT hFM3 (fun gC gT => fj_Session_hasBargain gC gT _ hb7 _) (fun r9 M10 hFM10 => ?_)
    refine FJ_if ?_ ?_
    · exact FJ_leaf hFM10
    · refine FJ_ck ?_
      refine FJ_nn hFM10 h0 (fun b12 hb12 => ?_)
      refine FJ_ck ?_
      refine FJ_nn hFM10 hb12 (fun b14 hb14 => ?_)
      refine FJ_ck ?_
      refine FJ_nn hFM10 hb14 (fun b16 hb16 => ?_)
      refine FJ_ck ?_
      refine FJ_nn hFM10 hb16 (fun b18 hb18 => ?_)
      refine FJ_if ?_ ?_
      · refine FJ_ck ?_
        exact FJ_leaf hFM10
      · refine FJ_if ?_ ?_
        · refine FJ_ck ?_
          exact FJ_leaf hFM10
        · refine FJ_if ?_ ?_
          · refine FJ_ck ?_
            exact FJ_leaf hFM10
          · refine FJ_if ?_ ?_
            · refine FJ_ck ?_
              exact FJ_leaf hFM10
            · refine FJ_if ?_ ?_
              · refine FJ_ck ?_
                exact FJ_leaf hFM10
              · refine FJ_if ?_ ?_
                · refine FJ_ck ?_
                  exact FJ_leaf hFM10
                · refine FJ_if ?_ ?_
                  · refine FJ_ck ?_
                    exact FJ_leaf hFM10
                  · refine FJ_if ?_ ?_
                    · refine FJ_ck ?_
                      refine FJ_bd hT hFM10 (fun gC gT => fj_Bargain_isDenied gC gT _ hb18) (fun r27 M28 hFM28 => ?_)
                      refine FJ_if ?_ ?_
                      · exact FJ_leaf hFM28
                      · exact FJ_leaf hFM28
                    · exact FJ_leaf hFM10
theorem nj_Hall_bargain (M : Mm) (a0 : Nat) (a1 : Int32) (a2 : Int32) (a3 : Int32) : NJ M (Hall_bargain M a0 a1 a2 a3) := by
  unfold Hall_bargain
  refine NJ_ck ?_
  refine NJ_bd Sm.rf (nj_Hall_isSession _ _ _) (fun r2 M3 hSM3 => ?_)
  refine NJ_if ?_ ?_
  · exact NJ_leaf hSM3
  · refine NJ_ck ?_
    refine NJ_nn (fun b5 => ?_)
    refine NJ_ck ?_
    refine NJ_nn (fun b7 => ?_)
    refine NJ_ck ?_
    refine NJ_bd hSM3 (nj_Session_hasBargain _ _ _) (fun r9 M10 hSM10 => ?_)
    refine NJ_if ?_ ?_
    · exact NJ_leaf hSM10
    · refine NJ_ck ?_
      refine NJ_nn (fun b12 => ?_)
      refine NJ_ck ?_
      refine NJ_nn (fun b14 => ?_)
      refine NJ_ck ?_
      refine NJ_nn (fun b16 => ?_)
      refine NJ_ck ?_
      refine NJ_nn (fun b18 => ?_)
      refine NJ_if ?_ ?_
      · refine NJ_ck ?_
        exact NJ_leaf hSM10
      · refine NJ_if ?_ ?_
        · refine NJ_ck ?_
          exact NJ_leaf hSM10
        · refine NJ_if ?_ ?_
          · refine NJ_ck ?_
            exact NJ_leaf hSM10
          · refine NJ_if ?_ ?_
            · refine NJ_ck ?_
              exact NJ_leaf hSM10
            · refine NJ_if ?_ ?_
              · refine NJ_ck ?_
                exact NJ_leaf hSM10
              · refine NJ_if ?_ ?_
                · refine NJ_ck ?_
                  exact NJ_leaf hSM10
                · refine NJ_if ?_ ?_
                  · refine NJ_ck ?_
                    exact NJ_leaf hSM10
                  · refine NJ_if ?_ ?_
                    · refine NJ_ck ?_
                      refine NJ_bd hSM10 (nj_Bargain_isDenied _ _) (fun r27 M28 hSM28 => ?_)
                      refine NJ_if ?_ ?_
                      · exact NJ_leaf hSM28
                      · exact NJ_leaf hSM28
                    · exact NJ_leaf hSM10
theorem fj_Hall_best_J28 {D : Nat → Prop} {M0 : Mm} (hT : Tp D M0) (x0 : Nat) (hx0 : D x0) (x1 : Int32) (s0 : Int32) (M : Mm) (hF : Fr D M0 M) : FJ D M0 (Hall_best_J28 x0 x1 s0 M) := by
  unfold Hall_best_J28
  refine FJ_ck ?_
  refine FJ_nn hF hx0 (fun b6 hb6 => ?_)
  refine FJ_ck ?_
  refine FJ_bd hT hF (fun gC gT => fj_Session_bestPrice gC gT _ hb6 _) (fun r8 M9 hFM9 => ?_)
  refine FJ_if ?_ ?_
  · exact FJ_leaf hFM9
  · refine FJ_if ?_ ?_
    · exact FJ_leaf hFM9
    · refine FJ_if ?_ ?_
      · exact FJ_leaf hFM9
      · refine FJ_ck ?_
        refine FJ_nn hFM9 hx0 (fun b11 hb11 => ?_)
        refine FJ_ck ?_
        refine FJ_bd hT hFM9 (fun gC gT => fj_Session_lotsAt gC gT _ hb11 _ _) (fun r13 M14 hFM14 => ?_)
        exact FJ_leaf hFM14
theorem nj_Hall_best_J28 {M0 : Mm} (x0 : Nat) (x1 : Int32) (s0 : Int32) (M : Mm) (hS : Sm M0 M) : NJ M0 (Hall_best_J28 x0 x1 s0 M) := by
  unfold Hall_best_J28
  refine NJ_ck ?_
  refine NJ_nn (fun b6 => ?_)
  refine NJ_ck ?_
  refine NJ_bd hS (nj_Session_bestPrice _ _ _) (fun r8 M9 hSM9 => ?_)
  refine NJ_if ?_ ?_
  · exact NJ_leaf hSM9
  · refine NJ_if ?_ ?_
    · exact NJ_leaf hSM9
    · refine NJ_if ?_ ?_
      · exact NJ_leaf hSM9
      · refine NJ_ck ?_
        refine NJ_nn (fun b11 => ?_)
        refine NJ_ck ?_
        refine NJ_bd hSM9 (nj_Session_lotsAt _ _ _ _) (fun r13 M14 hSM14 => ?_)
        exact NJ_leaf hSM14
theorem fj_Hall_best {D : Nat → Prop} {M : Mm} (hC : Cl D M) (hT : Tp D M) (a0 : Nat) (h0 : D a0) (a1 : Int32) : FJ D M (Hall_best M a0 a1) := by
  unfold Hall_best
  refine FJ_ck ?_
  refine FJ_nl (Fr.rf hC) h0 ?_ (fun b2 hb2 => ?_)
  · exact FJ_leaf (Fr.rf hC)
  · refine FJ_bd hT (Fr.rf hC) (fun gC gT => fj_Hall_isWithin gC gT _ _ _) (fun r3 M4 hFM4 => ?_)
    refine FJ_if ?_ ?_
    · exact FJ_leaf hFM4
    · refine FJ_if ?_ ?_
      · exact fj_Hall_best_J28 hT _ h0 _ _ _ hFM4
      · exact fj_Hall_best_J28 hT _ h0 _ _ _ hFM4
theorem nj_Hall_best (M : Mm) (a0 : Nat) (a1 : Int32) : NJ M (Hall_best M a0 a1) := by
  unfold Hall_best
  refine NJ_ck ?_
  refine NJ_nl ?_ (fun b2 => ?_)
  · exact NJ_leaf Sm.rf
  · refine NJ_bd Sm.rf (nj_Hall_isWithin _ _ _ _) (fun r3 M4 hSM4 => ?_)
    refine NJ_if ?_ ?_
    · exact NJ_leaf hSM4
    · refine NJ_if ?_ ?_
      · exact nj_Hall_best_J28 _ _ _ _ hSM4
      · exact nj_Hall_best_J28 _ _ _ _ hSM4
theorem fj_Hall_owe {D : Nat → Prop} {M : Mm} (hC : Cl D M) (hT : Tp D M) (a0 : Nat) (h0 : D a0) (a1 : Int32) (a2 : Int32) (a3 : Int32) : FJ D M (Hall_owe M a0 a1 a2 a3) := by
  unfold Hall_owe
  refine FJ_ck ?_
  refine FJ_bd hT (Fr.rf hC) (fun gC gT => fj_Hall_isPerson gC gT _ h0 _) (fun r2 M3 hFM3 => ?_)
  refine FJ_if ?_ ?_
  · exact FJ_leaf hFM3
  · refine FJ_ck ?_
    refine FJ_bd hT hFM3 (fun gC gT => fj_Hall_isPerson gC gT _ h0 _) (fun r5 M6 hFM6 => ?_)
    refine FJ_if ?_ ?_
    · exact FJ_leaf hFM6
    · refine FJ_if ?_ ?_
      · exact FJ_leaf hFM6
      · refine FJ_bd hT hFM6 (fun gC gT => fj_Hall_isWithin gC gT _ _ _) (fun r7 M8 hFM8 => ?_)
        refine FJ_if ?_ ?_
        · exact FJ_leaf hFM8
        · refine FJ_ck ?_
          refine FJ_nn hFM8 h0 (fun b10 hb10 => ?_)
          refine FJ_ck ?_
          refine FJ_nn hFM8 hb10 (fun b12 hb12 => ?_)
          refine FJ_ck ?_
          refine FJ_nn hFM8 hb12 (fun b14 hb14 => ?_)
          refine FJ_ck ?_
          exact FJ_leaf (Fr_sI hFM8 hb14)
theorem nj_Hall_owe (M : Mm) (a0 : Nat) (a1 : Int32) (a2 : Int32) (a3 : Int32) : NJ M (Hall_owe M a0 a1 a2 a3) := by
  unfold Hall_owe
  refine NJ_ck ?_
  refine NJ_bd Sm.rf (nj_Hall_isPerson _ _ _) (fun r2 M3 hSM3 => ?_)
  refine NJ_if ?_ ?_
  · exact NJ_leaf hSM3
  · refine NJ_ck ?_
    refine NJ_bd hSM3 (nj_Hall_isPerson _ _ _) (fun r5 M6 hSM6 => ?_)
    refine NJ_if ?_ ?_
    · exact NJ_leaf hSM6
    · refine NJ_if ?_ ?_
      · exact NJ_leaf hSM6
      · refine NJ_bd hSM6 (nj_Hall_isWithin _ _ _ _) (fun r7 M8 hSM8 => ?_)
        refine NJ_if ?_ ?_
        · exact NJ_leaf hSM8
        · refine NJ_ck ?_
          refine NJ_nn (fun b10 => ?_)
          refine NJ_ck ?_
          refine NJ_nn (fun b12 => ?_)
          refine NJ_ck ?_
          refine NJ_nn (fun b14 => ?_)
          refine NJ_ck ?_
          exact NJ_leaf (Sm_sI hSM8)
theorem fj_Hall_fails {D : Nat → Prop} {M : Mm} (hC : Cl D M) (hT : Tp D M) (a0 : Nat) (h0 : D a0) (a1 : Int32) (a2 : Int32) : FJ D M (Hall_fails M a0 a1 a2) := by
  unfold Hall_fails
  refine FJ_ck ?_
  refine FJ_bd hT (Fr.rf hC) (fun gC gT => fj_Hall_isPerson gC gT _ h0 _) (fun r2 M3 hFM3 => ?_)
  refine FJ_if ?_ ?_
  · exact FJ_leaf hFM3
  · refine FJ_bd hT hFM3 (fun gC gT => fj_Hall_isWithin gC gT _ _ _) (fun r4 M5 hFM5 => ?_)
    refine FJ_if ?_ ?_
    · exact FJ_leaf hFM5
    · refine FJ_ck ?_
      refine FJ_nn hFM5 h0 (fun b7 hb7 => ?_)
      refine FJ_nn hFM5 h0 (fun b8 hb8 => ?_)
      refine FJ_nn hFM5 h0 (fun b9 hb9 => ?_)
      refine FJ_nn hFM5 h0 (fun b10 hb10 => ?_)
      refine FJ_ck ?_
      refine FJ_bd hT hFM5 (fun gC gT => fj_House_latestClose gC gT _ hb10) (fun r12 M13 hFM13 => ?_)
      refine FJ_ck ?_
      refine FJ_bd hT hFM13 (fun gC gT => fj_Ruin_reckon gC gT _ hb7 _ hb8 _ _ hb9 _ _) (fun _ M16 hFM16 => ?_)
      refine FJ_if ?_ ?_
      · refine FJ_ck ?_
        refine FJ_nn hFM16 h0 (fun b18 hb18 => ?_)
        refine FJ_ck ?_
        refine FJ_nn hFM16 hb18 (fun b20 hb20 => ?_)
        refine FJ_ck ?_
        exact FJ_leaf hFM16
      · refine FJ_if ?_ ?_
        · refine FJ_ck ?_
          refine FJ_nn hFM16 h0 (fun b23 hb23 => ?_)
          refine FJ_ck ?_
          refine FJ_nn hFM16 hb23 (fun b25 hb25 => ?_)
          refine FJ_ck ?_
          exact FJ_leaf hFM16
        · refine FJ_if ?_ ?_
          · refine FJ_ck ?_
            refine FJ_nn hFM16 h0 (fun b28 hb28 => ?_)
            refine FJ_ck ?_
            exact FJ_leaf hFM16
          · refine FJ_ck ?_
            refine FJ_nn hFM16 h0 (fun b31 hb31 => ?_)
            refine FJ_ck ?_
            exact FJ_leaf hFM16
theorem nj_Hall_fails (M : Mm) (a0 : Nat) (a1 : Int32) (a2 : Int32) : NJ M (Hall_fails M a0 a1 a2) := by
  unfold Hall_fails
  refine NJ_ck ?_
  refine NJ_bd Sm.rf (nj_Hall_isPerson _ _ _) (fun r2 M3 hSM3 => ?_)
  refine NJ_if ?_ ?_
  · exact NJ_leaf hSM3
  · refine NJ_bd hSM3 (nj_Hall_isWithin _ _ _ _) (fun r4 M5 hSM5 => ?_)
    refine NJ_if ?_ ?_
    · exact NJ_leaf hSM5
    · refine NJ_ck ?_
      refine NJ_nn (fun b7 => ?_)
      refine NJ_nn (fun b8 => ?_)
      refine NJ_nn (fun b9 => ?_)
      refine NJ_nn (fun b10 => ?_)
      refine NJ_ck ?_
      refine NJ_bd hSM5 (nj_House_latestClose _ _) (fun r12 M13 hSM13 => ?_)
      refine NJ_ck ?_
      refine NJ_bd hSM13 (nj_Ruin_reckon _ _ _ _ _ _ _) (fun _ M16 hSM16 => ?_)
      refine NJ_if ?_ ?_
      · refine NJ_ck ?_
        refine NJ_nn (fun b18 => ?_)
        refine NJ_ck ?_
        refine NJ_nn (fun b20 => ?_)
        refine NJ_ck ?_
        exact NJ_leaf hSM16
      · refine NJ_if ?_ ?_
        · refine NJ_ck ?_
          refine NJ_nn (fun b23 => ?_)
          refine NJ_ck ?_
          refine NJ_nn (fun b25 => ?_)
          refine NJ_ck ?_
          exact NJ_leaf hSM16
        · refine NJ_if ?_ ?_
          · refine NJ_ck ?_
            refine NJ_nn (fun b28 => ?_)
            refine NJ_ck ?_
            exact NJ_leaf hSM16
          · refine NJ_ck ?_
            refine NJ_nn (fun b31 => ?_)
            refine NJ_ck ?_
            exact NJ_leaf hSM16
theorem fj_Hall_other {D : Nat → Prop} {M : Mm} (hC : Cl D M) (hT : Tp D M) (a0 : Nat) (h0 : D a0) (a1 : Int32) (a2 : Int32) (a3 : Int32) : FJ D M (Hall_other M a0 a1 a2 a3) := by
  unfold Hall_other
  refine FJ_ck ?_
  refine FJ_bd hT (Fr.rf hC) (fun gC gT => fj_Hall_isSession gC gT _ h0 _) (fun r2 M3 hFM3 => ?_)
  refine FJ_if ?_ ?_
  · exact FJ_leaf hFM3
  · refine FJ_ck ?_
    refine FJ_nn hFM3 h0 (fun b5 hb5 => ?_)
    refine FJ_ck ?_
    refine FJ_nn hFM3 hb5 (fun b7 hb7 => ?_)
    refine FJ_ck ?_
    refine FJ_if ?_ ?_
    · exact FJ_leaf hFM3
    · refine FJ_bd hT hFM3 (fun gC gT => fj_Hall_isWithin gC gT _ _ _) (fun r9 M10 hFM10 => ?_)
      refine FJ_if ?_ ?_
      · exact FJ_leaf hFM10
      · refine FJ_bd hT hFM10 (fun gC gT => fj_Hall_isWithin gC gT _ _ _) (fun r11 M12 hFM12 => ?_)
        refine FJ_if ?_ ?_
        · exact FJ_leaf hFM12
        · refine FJ_ck ?_
          refine FJ_nn hFM12 h0 (fun b14 hb14 => ?_)
          refine FJ_ck ?_
          refine FJ_nn hFM12 hb14 (fun b16 hb16 => ?_)
          refine FJ_nn hFM12 h0 (fun b17 hb17 => ?_)
          refine FJ_ck ?_
          refine FJ_bd hT hFM12 (fun gC gT => fj_Session_otherClose gC gT _ hb16 _ _ _ hb17) (fun r19 M20 hFM20 => ?_)
          exact FJ_leaf hFM20
theorem nj_Hall_other (M : Mm) (a0 : Nat) (a1 : Int32) (a2 : Int32) (a3 : Int32) : NJ M (Hall_other M a0 a1 a2 a3) := by
  unfold Hall_other
  refine NJ_ck ?_
  refine NJ_bd Sm.rf (nj_Hall_isSession _ _ _) (fun r2 M3 hSM3 => ?_)
  refine NJ_if ?_ ?_
  · exact NJ_leaf hSM3
  · refine NJ_ck ?_
    refine NJ_nn (fun b5 => ?_)
    refine NJ_ck ?_
    refine NJ_nn (fun b7 => ?_)
    refine NJ_ck ?_
    refine NJ_if ?_ ?_
    · exact NJ_leaf hSM3
    · refine NJ_bd hSM3 (nj_Hall_isWithin _ _ _ _) (fun r9 M10 hSM10 => ?_)
      refine NJ_if ?_ ?_
      · exact NJ_leaf hSM10
      · refine NJ_bd hSM10 (nj_Hall_isWithin _ _ _ _) (fun r11 M12 hSM12 => ?_)
        refine NJ_if ?_ ?_
        · exact NJ_leaf hSM12
        · refine NJ_ck ?_
          refine NJ_nn (fun b14 => ?_)
          refine NJ_ck ?_
          refine NJ_nn (fun b16 => ?_)
          refine NJ_nn (fun b17 => ?_)
          refine NJ_ck ?_
          refine NJ_bd hSM12 (nj_Session_otherClose _ _ _ _ _) (fun r19 M20 hSM20 => ?_)
          exact NJ_leaf hSM20
theorem fj_Hall_least_B27 {D : Nat → Prop} {M0 : Mm} (hT : Tp D M0) (k27 : Nat → Int32 → Int32 → Int32 → Mm → Option (Int32 × Mm)) (hk27 : ∀ (x0 : Nat) (hx0 : D x0) (x1 : Int32) (x2 : Int32) (x3 : Int32) (M : Mm) (hF : Fr D M0 M), FJ D M0 (k27 x0 x1 x2 x3 M)) (x0 : Nat) (hx0 : D x0) (x1 : Int32) (x2 : Int32) (x3 : Int32) (M : Mm) (hF : Fr D M0 M) : FJ D M0 (Hall_least_B27 k27 x0 x1 x2 x3 M) := by
  unfold Hall_least_B27
  refine FJ_ck ?_
  refine FJ_nn hF hx0 (fun b7 hb7 => ?_)
  refine FJ_ck ?_
  refine FJ_if ?_ ?_
  · exact FJ_leaf hF
  · refine FJ_nn hF hx0 (fun b9 hb9 => ?_)
    refine FJ_ck ?_
    refine FJ_bd hT hF (fun gC gT => fj_House_widest gC gT _ hb9 _ _) (fun r11 M12 hFM12 => ?_)
    refine FJ_bd hT hFM12 (fun gC gT => fj_Math_max_I gC gT _ _) (fun r13 M14 hFM14 => ?_)
    exact hk27 _ hx0 _ _ _ _ hFM14
theorem nj_Hall_least_B27 {M0 : Mm} (k27 : Nat → Int32 → Int32 → Int32 → Mm → Option (Int32 × Mm)) (hk27 : ∀ (x0 : Nat) (x1 : Int32) (x2 : Int32) (x3 : Int32) (M : Mm) (hS : Sm M0 M), NJ M0 (k27 x0 x1 x2 x3 M)) (x0 : Nat) (x1 : Int32) (x2 : Int32) (x3 : Int32) (M : Mm) (hS : Sm M0 M) : NJ M0 (Hall_least_B27 k27 x0 x1 x2 x3 M) := by
  unfold Hall_least_B27
  refine NJ_ck ?_
  refine NJ_nn (fun b7 => ?_)
  refine NJ_ck ?_
  refine NJ_if ?_ ?_
  · exact NJ_leaf hS
  · refine NJ_nn (fun b9 => ?_)
    refine NJ_ck ?_
    refine NJ_bd hS (nj_House_widest _ _ _ _) (fun r11 M12 hSM12 => ?_)
    refine NJ_bd hSM12 (nj_Math_max_I _ _ _) (fun r13 M14 hSM14 => ?_)
    exact hk27 _ _ _ _ _ hSM14
theorem fj_Hall_least_L27 {D : Nat → Prop} {M0 : Mm} (hT : Tp D M0) : ∀ (n : Nat) (x0 : Nat) (hx0 : D x0) (x1 : Int32) (x2 : Int32) (x3 : Int32) (M : Mm) (hF : Fr D M0 M), FJ D M0 (Hall_least_L27 n x0 x1 x2 x3 M) := by
  intro n
  induction n with
  | zero => intros; exact FJ_none
  | succ n ih => intro x0 hx0 x1 x2 x3 M hF; exact fj_Hall_least_B27 hT _ ih x0 hx0 x1 x2 x3 M hF
theorem nj_Hall_least_L27 {M0 : Mm} : ∀ (n : Nat) (x0 : Nat) (x1 : Int32) (x2 : Int32) (x3 : Int32) (M : Mm) (hS : Sm M0 M), NJ M0 (Hall_least_L27 n x0 x1 x2 x3 M) := by
  intro n
  induction n with
  | zero => intros; exact NJ_none
  | succ n ih => intro x0 x1 x2 x3 M hS; exact nj_Hall_least_B27 _ ih x0 x1 x2 x3 M hS
theorem fj_Hall_least {D : Nat → Prop} {M : Mm} (hC : Cl D M) (hT : Tp D M) (a0 : Nat) (h0 : D a0) (a1 : Int32) : FJ D M (Hall_least M a0 a1) := by
  unfold Hall_least
  refine FJ_bd hT (Fr.rf hC) (fun gC gT => fj_Hall_isWithin gC gT _ _ _) (fun r1 M2 hFM2 => ?_)
  refine FJ_if ?_ ?_
  · exact FJ_leaf hFM2
  · refine FJ_ck ?_
    refine FJ_nn hFM2 h0 (fun b4 hb4 => ?_)
    refine FJ_ck ?_
    refine FJ_if ?_ ?_
    · exact fj_Hall_least_L27 hT fu _ h0 _ _ _ _ hFM2
    · exact FJ_leaf hFM2
theorem nj_Hall_least (M : Mm) (a0 : Nat) (a1 : Int32) : NJ M (Hall_least M a0 a1) := by
  unfold Hall_least
  refine NJ_bd Sm.rf (nj_Hall_isWithin _ _ _ _) (fun r1 M2 hSM2 => ?_)
  refine NJ_if ?_ ?_
  · exact NJ_leaf hSM2
  · refine NJ_ck ?_
    refine NJ_nn (fun b4 => ?_)
    refine NJ_ck ?_
    refine NJ_if ?_ ?_
    · exact nj_Hall_least_L27 fu _ _ _ _ _ hSM2
    · exact NJ_leaf hSM2
theorem fj_Hall_judged_J56 {D : Nat → Prop} {M0 : Mm} (hT : Tp D M0) (k27 : Nat → Int32 → Int32 → Int32 → Int32 → Mm → Option (Int32 × Mm)) (hk27 : ∀ (x0 : Nat) (hx0 : D x0) (x1 : Int32) (x2 : Int32) (x3 : Int32) (x4 : Int32) (M : Mm) (hF : Fr D M0 M), FJ D M0 (k27 x0 x1 x2 x3 x4 M)) (x0 : Nat) (hx0 : D x0) (x1 : Int32) (x2 : Int32) (x3 : Int32) (x4 : Int32) (M : Mm) (hF : Fr D M0 M) : FJ D M0 (Hall_judged_J56 k27 x0 x1 x2 x3 x4 M) := by
  unfold Hall_judged_J56
  exact hk27 _ hx0 _ _ _ _ _ hF
theorem nj_Hall_judged_J56 {M0 : Mm} (k27 : Nat → Int32 → Int32 → Int32 → Int32 → Mm → Option (Int32 × Mm)) (hk27 : ∀ (x0 : Nat) (x1 : Int32) (x2 : Int32) (x3 : Int32) (x4 : Int32) (M : Mm) (hS : Sm M0 M), NJ M0 (k27 x0 x1 x2 x3 x4 M)) (x0 : Nat) (x1 : Int32) (x2 : Int32) (x3 : Int32) (x4 : Int32) (M : Mm) (hS : Sm M0 M) : NJ M0 (Hall_judged_J56 k27 x0 x1 x2 x3 x4 M) := by
  unfold Hall_judged_J56
  exact hk27 _ _ _ _ _ _ hS
theorem fj_Hall_judged_B27 {D : Nat → Prop} {M0 : Mm} (hT : Tp D M0) (k27 : Nat → Int32 → Int32 → Int32 → Int32 → Mm → Option (Int32 × Mm)) (hk27 : ∀ (x0 : Nat) (hx0 : D x0) (x1 : Int32) (x2 : Int32) (x3 : Int32) (x4 : Int32) (M : Mm) (hF : Fr D M0 M), FJ D M0 (k27 x0 x1 x2 x3 x4 M)) (x0 : Nat) (hx0 : D x0) (x1 : Int32) (x2 : Int32) (x3 : Int32) (x4 : Int32) (M : Mm) (hF : Fr D M0 M) : FJ D M0 (Hall_judged_B27 k27 x0 x1 x2 x3 x4 M) := by
  unfold Hall_judged_B27
  refine FJ_ck ?_
  refine FJ_nn hF hx0 (fun b6 hb6 => ?_)
  refine FJ_ck ?_
  refine FJ_if ?_ ?_
  · exact FJ_leaf hF
  · refine FJ_nn hF hx0 (fun b8 hb8 => ?_)
    refine FJ_ck ?_
    refine FJ_bd hT hF (fun gC gT => fj_House_widest gC gT _ hb8 _ _) (fun r10 M11 hFM11 => ?_)
    refine FJ_if ?_ ?_
    · exact fj_Hall_judged_J56 hT k27 hk27 _ hx0 _ _ _ _ _ hFM11
    · exact fj_Hall_judged_J56 hT k27 hk27 _ hx0 _ _ _ _ _ hFM11
theorem nj_Hall_judged_B27 {M0 : Mm} (k27 : Nat → Int32 → Int32 → Int32 → Int32 → Mm → Option (Int32 × Mm)) (hk27 : ∀ (x0 : Nat) (x1 : Int32) (x2 : Int32) (x3 : Int32) (x4 : Int32) (M : Mm) (hS : Sm M0 M), NJ M0 (k27 x0 x1 x2 x3 x4 M)) (x0 : Nat) (x1 : Int32) (x2 : Int32) (x3 : Int32) (x4 : Int32) (M : Mm) (hS : Sm M0 M) : NJ M0 (Hall_judged_B27 k27 x0 x1 x2 x3 x4 M) := by
  unfold Hall_judged_B27
  refine NJ_ck ?_
  refine NJ_nn (fun b6 => ?_)
  refine NJ_ck ?_
  refine NJ_if ?_ ?_
  · exact NJ_leaf hS
  · refine NJ_nn (fun b8 => ?_)
    refine NJ_ck ?_
    refine NJ_bd hS (nj_House_widest _ _ _ _) (fun r10 M11 hSM11 => ?_)
    refine NJ_if ?_ ?_
    · exact nj_Hall_judged_J56 k27 hk27 _ _ _ _ _ _ hSM11
    · exact nj_Hall_judged_J56 k27 hk27 _ _ _ _ _ _ hSM11
theorem fj_Hall_judged_L27 {D : Nat → Prop} {M0 : Mm} (hT : Tp D M0) : ∀ (n : Nat) (x0 : Nat) (hx0 : D x0) (x1 : Int32) (x2 : Int32) (x3 : Int32) (x4 : Int32) (M : Mm) (hF : Fr D M0 M), FJ D M0 (Hall_judged_L27 n x0 x1 x2 x3 x4 M) := by
  intro n
  induction n with
  | zero => intros; exact FJ_none
  | succ n ih => intro x0 hx0 x1 x2 x3 x4 M hF; exact fj_Hall_judged_B27 hT _ ih x0 hx0 x1 x2 x3 x4 M hF
theorem nj_Hall_judged_L27 {M0 : Mm} : ∀ (n : Nat) (x0 : Nat) (x1 : Int32) (x2 : Int32) (x3 : Int32) (x4 : Int32) (M : Mm) (hS : Sm M0 M), NJ M0 (Hall_judged_L27 n x0 x1 x2 x3 x4 M) := by
  intro n
  induction n with
  | zero => intros; exact NJ_none
  | succ n ih => intro x0 x1 x2 x3 x4 M hS; exact nj_Hall_judged_B27 _ ih x0 x1 x2 x3 x4 M hS
theorem fj_Hall_judged {D : Nat → Prop} {M : Mm} (hC : Cl D M) (hT : Tp D M) (a0 : Nat) (h0 : D a0) (a1 : Int32) (a2 : Int32) : FJ D M (Hall_judged M a0 a1 a2) := by
  unfold Hall_judged
  refine FJ_bd hT (Fr.rf hC) (fun gC gT => fj_Hall_isWithin gC gT _ _ _) (fun r1 M2 hFM2 => ?_)
  refine FJ_if ?_ ?_
  · exact FJ_leaf hFM2
  · refine FJ_bd hT hFM2 (fun gC gT => fj_Hall_isWithin gC gT _ _ _) (fun r3 M4 hFM4 => ?_)
    refine FJ_if ?_ ?_
    · exact FJ_leaf hFM4
    · exact fj_Hall_judged_L27 hT fu _ h0 _ _ _ _ _ hFM4
theorem nj_Hall_judged (M : Mm) (a0 : Nat) (a1 : Int32) (a2 : Int32) : NJ M (Hall_judged M a0 a1 a2) := by
  unfold Hall_judged
  refine NJ_bd Sm.rf (nj_Hall_isWithin _ _ _ _) (fun r1 M2 hSM2 => ?_)
  refine NJ_if ?_ ?_
  · exact NJ_leaf hSM2
  · refine NJ_bd hSM2 (nj_Hall_isWithin _ _ _ _) (fun r3 M4 hSM4 => ?_)
    refine NJ_if ?_ ?_
    · exact NJ_leaf hSM4
    · exact nj_Hall_judged_L27 fu _ _ _ _ _ _ hSM4
theorem fj_Hall_count {D : Nat → Prop} {M : Mm} (hC : Cl D M) (hT : Tp D M) (a0 : Nat) (h0 : D a0) (a1 : Int32) : FJ D M (Hall_count M a0 a1) := by
  unfold Hall_count
  refine FJ_if ?_ ?_
  · refine FJ_ck ?_
    exact FJ_leaf (Fr.rf hC)
  · refine FJ_if ?_ ?_
    · refine FJ_ck ?_
      refine FJ_nn (Fr.rf hC) h0 (fun b3 hb3 => ?_)
      refine FJ_ck ?_
      exact FJ_leaf (Fr.rf hC)
    · refine FJ_if ?_ ?_
      · refine FJ_ck ?_
        exact FJ_leaf (Fr.rf hC)
      · refine FJ_if ?_ ?_
        · refine FJ_ck ?_
          exact FJ_leaf (Fr.rf hC)
        · refine FJ_if ?_ ?_
          · refine FJ_ck ?_
            exact FJ_leaf (Fr.rf hC)
          · refine FJ_if ?_ ?_
            · refine FJ_ck ?_
              refine FJ_nn (Fr.rf hC) h0 (fun b9 hb9 => ?_)
              refine FJ_ck ?_
              exact FJ_leaf (Fr.rf hC)
            · refine FJ_if ?_ ?_
              · refine FJ_ck ?_
                refine FJ_nn (Fr.rf hC) h0 (fun b12 hb12 => ?_)
                refine FJ_ck ?_
                refine FJ_bd hT (Fr.rf hC) (fun gC gT => fj_House_latestClose gC gT _ hb12) (fun r14 M15 hFM15 => ?_)
                exact FJ_leaf hFM15
              · refine FJ_if ?_ ?_
                · refine FJ_ck ?_
                  exact FJ_leaf (Fr.rf hC)
                · refine FJ_if ?_ ?_
                  · refine FJ_ck ?_
                    refine FJ_nn (Fr.rf hC) h0 (fun b18 hb18 => ?_)
                    refine FJ_ck ?_
                    exact FJ_leaf (Fr.rf hC)
                  · refine FJ_if ?_ ?_
                    · refine FJ_ck ?_
                      refine FJ_nn (Fr.rf hC) h0 (fun b21 hb21 => ?_)
                      refine FJ_ck ?_
                      exact FJ_leaf (Fr.rf hC)
                    · refine FJ_if ?_ ?_
                      · refine FJ_ck ?_
                        exact FJ_leaf (Fr.rf hC)
                      · refine FJ_if ?_ ?_
                        · refine FJ_ck ?_
                          exact FJ_leaf (Fr.rf hC)
                        · refine FJ_if ?_ ?_
                          · refine FJ_ck ?_
                            exact FJ_leaf (Fr.rf hC)
                          · refine FJ_if ?_ ?_
                            · refine FJ_ck ?_
                              refine FJ_nl (Fr.rf hC) h0 ?_ (fun b27 hb27 => ?_)
                              · exact FJ_leaf (Fr.rf hC)
                              · exact FJ_leaf (Fr.rf hC)
                            · exact FJ_leaf (Fr.rf hC)
theorem nj_Hall_count (M : Mm) (a0 : Nat) (a1 : Int32) : NJ M (Hall_count M a0 a1) := by
  unfold Hall_count
  refine NJ_if ?_ ?_
  · refine NJ_ck ?_
    exact NJ_leaf Sm.rf
  · refine NJ_if ?_ ?_
    · refine NJ_ck ?_
      refine NJ_nn (fun b3 => ?_)
      refine NJ_ck ?_
      exact NJ_leaf Sm.rf
    · refine NJ_if ?_ ?_
      · refine NJ_ck ?_
        exact NJ_leaf Sm.rf
      · refine NJ_if ?_ ?_
        · refine NJ_ck ?_
          exact NJ_leaf Sm.rf
        · refine NJ_if ?_ ?_
          · refine NJ_ck ?_
            exact NJ_leaf Sm.rf
          · refine NJ_if ?_ ?_
            · refine NJ_ck ?_
              refine NJ_nn (fun b9 => ?_)
              refine NJ_ck ?_
              exact NJ_leaf Sm.rf
            · refine NJ_if ?_ ?_
              · refine NJ_ck ?_
                refine NJ_nn (fun b12 => ?_)
                refine NJ_ck ?_
                refine NJ_bd Sm.rf (nj_House_latestClose _ _) (fun r14 M15 hSM15 => ?_)
                exact NJ_leaf hSM15
              · refine NJ_if ?_ ?_
                · refine NJ_ck ?_
                  exact NJ_leaf Sm.rf
                · refine NJ_if ?_ ?_
                  · refine NJ_ck ?_
                    refine NJ_nn (fun b18 => ?_)
                    refine NJ_ck ?_
                    exact NJ_leaf Sm.rf
                  · refine NJ_if ?_ ?_
                    · refine NJ_ck ?_
                      refine NJ_nn (fun b21 => ?_)
                      refine NJ_ck ?_
                      exact NJ_leaf Sm.rf
                    · refine NJ_if ?_ ?_
                      · refine NJ_ck ?_
                        exact NJ_leaf Sm.rf
                      · refine NJ_if ?_ ?_
                        · refine NJ_ck ?_
                          exact NJ_leaf Sm.rf
                        · refine NJ_if ?_ ?_
                          · refine NJ_ck ?_
                            exact NJ_leaf Sm.rf
                          · refine NJ_if ?_ ?_
                            · refine NJ_ck ?_
                              refine NJ_nl ?_ (fun b27 => ?_)
                              · exact NJ_leaf Sm.rf
                              · exact NJ_leaf Sm.rf
                            · exact NJ_leaf Sm.rf
theorem fj_Hall_sum {D : Nat → Prop} {M : Mm} (hC : Cl D M) (hT : Tp D M) (a0 : Nat) (h0 : D a0) (a1 : Int32) : FJ D M (Hall_sum M a0 a1) := by
  unfold Hall_sum
  refine FJ_if ?_ ?_
  · refine FJ_ck ?_
    refine FJ_nn (Fr.rf hC) h0 (fun b2 hb2 => ?_)
    refine FJ_ck ?_
    exact FJ_leaf (Fr.rf hC)
  · refine FJ_if ?_ ?_
    · refine FJ_ck ?_
      refine FJ_nn (Fr.rf hC) h0 (fun b5 hb5 => ?_)
      refine FJ_ck ?_
      exact FJ_leaf (Fr.rf hC)
    · refine FJ_if ?_ ?_
      · refine FJ_ck ?_
        refine FJ_nn (Fr.rf hC) h0 (fun b8 hb8 => ?_)
        refine FJ_nn (Fr.rf hC) h0 (fun b9 hb9 => ?_)
        refine FJ_ck ?_
        refine FJ_bd hT (Fr.rf hC) (fun gC gT => fj_House_allCoins gC gT _ hb8 _ hb9 _) (fun r11 M12 hFM12 => ?_)
        exact FJ_leaf hFM12
      · exact FJ_leaf (Fr.rf hC)
theorem nj_Hall_sum (M : Mm) (a0 : Nat) (a1 : Int32) : NJ M (Hall_sum M a0 a1) := by
  unfold Hall_sum
  refine NJ_if ?_ ?_
  · refine NJ_ck ?_
    refine NJ_nn (fun b2 => ?_)
    refine NJ_ck ?_
    exact NJ_leaf Sm.rf
  · refine NJ_if ?_ ?_
    · refine NJ_ck ?_
      refine NJ_nn (fun b5 => ?_)
      refine NJ_ck ?_
      exact NJ_leaf Sm.rf
    · refine NJ_if ?_ ?_
      · refine NJ_ck ?_
        refine NJ_nn (fun b8 => ?_)
        refine NJ_nn (fun b9 => ?_)
        refine NJ_ck ?_
        refine NJ_bd Sm.rf (nj_House_allCoins _ _ _ _) (fun r11 M12 hSM12 => ?_)
        exact NJ_leaf hSM12
      · exact NJ_leaf Sm.rf
theorem fj_Mod_town {D : Nat → Prop} {M : Mm} (hC : Cl D M) (hT : Tp D M) (a0 : Nat) (h0 : D a0) : FJ D M (Mod_town M a0) := by
  unfold Mod_town
  refine FJ_ck ?_
  refine FJ_if ?_ ?_
  · exact FJ_leaf (Fr.rf hC)
  · exact FJ_leaf (Fr_sI (Fr.rf hC) h0)
theorem nj_Mod_town (M : Mm) (a0 : Nat) : NJ M (Mod_town M a0) := by
  unfold Mod_town
  refine NJ_ck ?_
  refine NJ_if ?_ ?_
  · exact NJ_leaf Sm.rf
  · exact NJ_leaf (Sm_sI Sm.rf)
theorem fj_Mod_isTown {D : Nat → Prop} {M : Mm} (hC : Cl D M) (hT : Tp D M) (a0 : Nat) (h0 : D a0) (a1 : Int32) : FJ D M (Mod_isTown M a0 a1) := by
  unfold Mod_isTown
  refine FJ_if ?_ ?_
  · exact FJ_leaf (Fr.rf hC)
  · refine FJ_ck ?_
    refine FJ_if ?_ ?_
    · exact FJ_leaf (Fr.rf hC)
    · exact FJ_leaf (Fr.rf hC)
theorem nj_Mod_isTown (M : Mm) (a0 : Nat) (a1 : Int32) : NJ M (Mod_isTown M a0 a1) := by
  unfold Mod_isTown
  refine NJ_if ?_ ?_
  · exact NJ_leaf Sm.rf
  · refine NJ_ck ?_
    refine NJ_if ?_ ?_
    · exact NJ_leaf Sm.rf
    · exact NJ_leaf Sm.rf
theorem fj_Mod_in {D : Nat → Prop} {M : Mm} (hC : Cl D M) (hT : Tp D M) (a0 : Int32) (a1 : Int32) (a2 : Int32) : FJ D M (Mod_in M a0 a1 a2) := by
  unfold Mod_in
  refine FJ_if ?_ ?_
  · exact FJ_leaf (Fr.rf hC)
  · refine FJ_if ?_ ?_
    · exact FJ_leaf (Fr.rf hC)
    · exact FJ_leaf (Fr.rf hC)
theorem nj_Mod_in (M : Mm) (a0 : Int32) (a1 : Int32) (a2 : Int32) : NJ M (Mod_in M a0 a1 a2) := by
  unfold Mod_in
  refine NJ_if ?_ ?_
  · exact NJ_leaf Sm.rf
  · refine NJ_if ?_ ?_
    · exact NJ_leaf Sm.rf
    · exact NJ_leaf Sm.rf
theorem fj_Mod_fog {D : Nat → Prop} {M : Mm} (hC : Cl D M) (hT : Tp D M) (a0 : Nat) (h0 : D a0) (a1 : Int32) (a2 : Int32) (a3 : Int32) : FJ D M (Mod_fog M a0 a1 a2 a3) := by
  unfold Mod_fog
  refine FJ_ck ?_
  refine FJ_bd hT (Fr.rf hC) (fun gC gT => fj_Mod_isTown gC gT _ h0 _) (fun r2 M3 hFM3 => ?_)
  refine FJ_if ?_ ?_
  · exact FJ_leaf hFM3
  · refine FJ_if ?_ ?_
    · refine FJ_ck ?_
      refine FJ_nn hFM3 h0 (fun b16 hb16 => ?_)
      refine FJ_ck ?_
      exact FJ_leaf (Fr_sI hFM3 hb16)
    · refine FJ_bd hT hFM3 (fun gC gT => fj_Mod_in gC gT _ _ _) (fun r4 M5 hFM5 => ?_)
      refine FJ_if ?_ ?_
      · exact FJ_leaf hFM5
      · refine FJ_bd hT hFM5 (fun gC gT => fj_Mod_in gC gT _ _ _) (fun r6 M7 hFM7 => ?_)
        refine FJ_if ?_ ?_
        · exact FJ_leaf hFM7
        · refine FJ_ck ?_
          refine FJ_nn hFM7 h0 (fun b9 hb9 => ?_)
          refine FJ_ck ?_
          refine FJ_nn (Fr_sI hFM7 hb9) h0 (fun b12 hb12 => ?_)
          refine FJ_ck ?_
          exact FJ_leaf (Fr_sI (Fr_sI hFM7 hb9) hb12)
theorem nj_Mod_fog (M : Mm) (a0 : Nat) (a1 : Int32) (a2 : Int32) (a3 : Int32) : NJ M (Mod_fog M a0 a1 a2 a3) := by
  unfold Mod_fog
  refine NJ_ck ?_
  refine NJ_bd Sm.rf (nj_Mod_isTown _ _ _) (fun r2 M3 hSM3 => ?_)
  refine NJ_if ?_ ?_
  · exact NJ_leaf hSM3
  · refine NJ_if ?_ ?_
    · refine NJ_ck ?_
      refine NJ_nn (fun b16 => ?_)
      refine NJ_ck ?_
      exact NJ_leaf (Sm_sI hSM3)
    · refine NJ_bd hSM3 (nj_Mod_in _ _ _ _) (fun r4 M5 hSM5 => ?_)
      refine NJ_if ?_ ?_
      · exact NJ_leaf hSM5
      · refine NJ_bd hSM5 (nj_Mod_in _ _ _ _) (fun r6 M7 hSM7 => ?_)
        refine NJ_if ?_ ?_
        · exact NJ_leaf hSM7
        · refine NJ_ck ?_
          refine NJ_nn (fun b9 => ?_)
          refine NJ_ck ?_
          refine NJ_nn (fun b12 => ?_)
          refine NJ_ck ?_
          exact NJ_leaf (Sm_sI (Sm_sI hSM7))
theorem fj_Mod_road {D : Nat → Prop} {M : Mm} (hC : Cl D M) (hT : Tp D M) (a0 : Nat) (h0 : D a0) (a1 : Int32) (a2 : Int32) (a3 : Int32) (a4 : Int32) : FJ D M (Mod_road M a0 a1 a2 a3 a4) := by
  unfold Mod_road
  refine FJ_ck ?_
  refine FJ_bd hT (Fr.rf hC) (fun gC gT => fj_Mod_isTown gC gT _ h0 _) (fun r2 M3 hFM3 => ?_)
  refine FJ_if ?_ ?_
  · exact FJ_leaf hFM3
  · refine FJ_ck ?_
    refine FJ_bd hT hFM3 (fun gC gT => fj_Mod_isTown gC gT _ h0 _) (fun r5 M6 hFM6 => ?_)
    refine FJ_if ?_ ?_
    · exact FJ_leaf hFM6
    · refine FJ_if ?_ ?_
      · exact FJ_leaf hFM6
      · refine FJ_bd hT hFM6 (fun gC gT => fj_Mod_in gC gT _ _ _) (fun r7 M8 hFM8 => ?_)
        refine FJ_if ?_ ?_
        · exact FJ_leaf hFM8
        · refine FJ_bd hT hFM8 (fun gC gT => fj_Mod_in gC gT _ _ _) (fun r9 M10 hFM10 => ?_)
          refine FJ_if ?_ ?_
          · exact FJ_leaf hFM10
          · refine FJ_ck ?_
            refine FJ_nn hFM10 h0 (fun b12 hb12 => ?_)
            refine FJ_ck ?_
            refine FJ_nn (Fr_sI hFM10 hb12) h0 (fun b15 hb15 => ?_)
            refine FJ_ck ?_
            refine FJ_nn (Fr_sI (Fr_sI hFM10 hb12) hb15) h0 (fun b18 hb18 => ?_)
            refine FJ_ck ?_
            refine FJ_nn (Fr_sI (Fr_sI (Fr_sI hFM10 hb12) hb15) hb18) h0 (fun b21 hb21 => ?_)
            refine FJ_ck ?_
            exact FJ_leaf (Fr_sI (Fr_sI (Fr_sI (Fr_sI hFM10 hb12) hb15) hb18) hb21)
theorem nj_Mod_road (M : Mm) (a0 : Nat) (a1 : Int32) (a2 : Int32) (a3 : Int32) (a4 : Int32) : NJ M (Mod_road M a0 a1 a2 a3 a4) := by
  unfold Mod_road
  refine NJ_ck ?_
  refine NJ_bd Sm.rf (nj_Mod_isTown _ _ _) (fun r2 M3 hSM3 => ?_)
  refine NJ_if ?_ ?_
  · exact NJ_leaf hSM3
  · refine NJ_ck ?_
    refine NJ_bd hSM3 (nj_Mod_isTown _ _ _) (fun r5 M6 hSM6 => ?_)
    refine NJ_if ?_ ?_
    · exact NJ_leaf hSM6
    · refine NJ_if ?_ ?_
      · exact NJ_leaf hSM6
      · refine NJ_bd hSM6 (nj_Mod_in _ _ _ _) (fun r7 M8 hSM8 => ?_)
        refine NJ_if ?_ ?_
        · exact NJ_leaf hSM8
        · refine NJ_bd hSM8 (nj_Mod_in _ _ _ _) (fun r9 M10 hSM10 => ?_)
          refine NJ_if ?_ ?_
          · exact NJ_leaf hSM10
          · refine NJ_ck ?_
            refine NJ_nn (fun b12 => ?_)
            refine NJ_ck ?_
            refine NJ_nn (fun b15 => ?_)
            refine NJ_ck ?_
            refine NJ_nn (fun b18 => ?_)
            refine NJ_ck ?_
            refine NJ_nn (fun b21 => ?_)
            refine NJ_ck ?_
            exact NJ_leaf (Sm_sI (Sm_sI (Sm_sI (Sm_sI hSM10))))
theorem fj_Mod_hasFog {D : Nat → Prop} {M : Mm} (hC : Cl D M) (hT : Tp D M) (a0 : Nat) (h0 : D a0) (a1 : Int32) (a2 : Int32) : FJ D M (Mod_hasFog M a0 a1 a2) := by
  unfold Mod_hasFog
  refine FJ_ck ?_
  refine FJ_nn (Fr.rf hC) h0 (fun b2 hb2 => ?_)
  refine FJ_ck ?_
  refine FJ_if ?_ ?_
  · refine FJ_nn (Fr.rf hC) h0 (fun b4 hb4 => ?_)
    refine FJ_ck ?_
    refine FJ_nn (Fr.rf hC) h0 (fun b6 hb6 => ?_)
    refine FJ_ck ?_
    refine FJ_if ?_ ?_
    · refine FJ_nn (Fr.rf hC) h0 (fun b8 hb8 => ?_)
      refine FJ_ck ?_
      refine FJ_if ?_ ?_
      · exact FJ_leaf (Fr.rf hC)
      · refine FJ_nn (Fr.rf hC) h0 (fun b10 hb10 => ?_)
        refine FJ_ck ?_
        refine FJ_if ?_ ?_
        · exact FJ_leaf (Fr.rf hC)
        · exact FJ_leaf (Fr.rf hC)
    · refine FJ_nn (Fr.rf hC) h0 (fun b12 hb12 => ?_)
      refine FJ_ck ?_
      refine FJ_if ?_ ?_
      · exact FJ_leaf (Fr.rf hC)
      · refine FJ_nn (Fr.rf hC) h0 (fun b14 hb14 => ?_)
        refine FJ_ck ?_
        refine FJ_if ?_ ?_
        · exact FJ_leaf (Fr.rf hC)
        · exact FJ_leaf (Fr.rf hC)
  · exact FJ_leaf (Fr.rf hC)
theorem nj_Mod_hasFog (M : Mm) (a0 : Nat) (a1 : Int32) (a2 : Int32) : NJ M (Mod_hasFog M a0 a1 a2) := by
  unfold Mod_hasFog
  refine NJ_ck ?_
  refine NJ_nn (fun b2 => ?_)
  refine NJ_ck ?_
  refine NJ_if ?_ ?_
  · refine NJ_nn (fun b4 => ?_)
    refine NJ_ck ?_
    refine NJ_nn (fun b6 => ?_)
    refine NJ_ck ?_
    refine NJ_if ?_ ?_
    · refine NJ_nn (fun b8 => ?_)
      refine NJ_ck ?_
      refine NJ_if ?_ ?_
      · exact NJ_leaf Sm.rf
      · refine NJ_nn (fun b10 => ?_)
        refine NJ_ck ?_
        refine NJ_if ?_ ?_
        · exact NJ_leaf Sm.rf
        · exact NJ_leaf Sm.rf
    · refine NJ_nn (fun b12 => ?_)
      refine NJ_ck ?_
      refine NJ_if ?_ ?_
      · exact NJ_leaf Sm.rf
      · refine NJ_nn (fun b14 => ?_)
        refine NJ_ck ?_
        refine NJ_if ?_ ?_
        · exact NJ_leaf Sm.rf
        · exact NJ_leaf Sm.rf
  · exact NJ_leaf Sm.rf
theorem fj_Mod_goes_J109 {D : Nat → Prop} {M0 : Mm} (hT : Tp D M0) (k39 : Nat → Int32 → Int32 → Int32 → Int32 → Int32 → Int32 → Mm → Option (Int32 × Mm)) (hk39 : ∀ (x0 : Nat) (hx0 : D x0) (x1 : Int32) (x2 : Int32) (x3 : Int32) (x4 : Int32) (x5 : Int32) (x6 : Int32) (M : Mm) (hF : Fr D M0 M), FJ D M0 (k39 x0 x1 x2 x3 x4 x5 x6 M)) (x0 : Nat) (hx0 : D x0) (x1 : Int32) (x2 : Int32) (x3 : Int32) (x4 : Int32) (x5 : Int32) (x6 : Int32) (M : Mm) (hF : Fr D M0 M) : FJ D M0 (Mod_goes_J109 k39 x0 x1 x2 x3 x4 x5 x6 M) := by
  unfold Mod_goes_J109
  exact hk39 _ hx0 _ _ _ _ _ _ _ hF
theorem nj_Mod_goes_J109 {M0 : Mm} (k39 : Nat → Int32 → Int32 → Int32 → Int32 → Int32 → Int32 → Mm → Option (Int32 × Mm)) (hk39 : ∀ (x0 : Nat) (x1 : Int32) (x2 : Int32) (x3 : Int32) (x4 : Int32) (x5 : Int32) (x6 : Int32) (M : Mm) (hS : Sm M0 M), NJ M0 (k39 x0 x1 x2 x3 x4 x5 x6 M)) (x0 : Nat) (x1 : Int32) (x2 : Int32) (x3 : Int32) (x4 : Int32) (x5 : Int32) (x6 : Int32) (M : Mm) (hS : Sm M0 M) : NJ M0 (Mod_goes_J109 k39 x0 x1 x2 x3 x4 x5 x6 M) := by
  unfold Mod_goes_J109
  exact hk39 _ _ _ _ _ _ _ _ hS
theorem fj_Mod_goes_B39 {D : Nat → Prop} {M0 : Mm} (hT : Tp D M0) (k39 : Nat → Int32 → Int32 → Int32 → Int32 → Int32 → Int32 → Mm → Option (Int32 × Mm)) (hk39 : ∀ (x0 : Nat) (hx0 : D x0) (x1 : Int32) (x2 : Int32) (x3 : Int32) (x4 : Int32) (x5 : Int32) (x6 : Int32) (M : Mm) (hF : Fr D M0 M), FJ D M0 (k39 x0 x1 x2 x3 x4 x5 x6 M)) (x0 : Nat) (hx0 : D x0) (x1 : Int32) (x2 : Int32) (x3 : Int32) (x4 : Int32) (x5 : Int32) (x6 : Int32) (M : Mm) (hF : Fr D M0 M) : FJ D M0 (Mod_goes_B39 k39 x0 x1 x2 x3 x4 x5 x6 M) := by
  unfold Mod_goes_B39
  refine FJ_if ?_ ?_
  · exact FJ_leaf hF
  · refine FJ_if ?_ ?_
    · exact FJ_leaf hF
    · refine FJ_if ?_ ?_
      · exact fj_Mod_goes_J109 hT k39 hk39 _ hx0 _ _ _ _ _ _ _ hF
      · refine FJ_if ?_ ?_
        · exact fj_Mod_goes_J109 hT k39 hk39 _ hx0 _ _ _ _ _ _ _ hF
        · refine FJ_ck ?_
          refine FJ_bd hT hF (fun gC gT => fj_Mod_hasFog gC gT _ hx0 _ _) (fun r11 M12 hFM12 => ?_)
          refine FJ_if ?_ ?_
          · refine FJ_ck ?_
            refine FJ_bd hT hFM12 (fun gC gT => fj_Mod_hasFog gC gT _ hx0 _ _) (fun r14 M15 hFM15 => ?_)
            refine FJ_if ?_ ?_
            · exact FJ_leaf hFM15
            · exact fj_Mod_goes_J109 hT k39 hk39 _ hx0 _ _ _ _ _ _ _ hFM15
          · exact fj_Mod_goes_J109 hT k39 hk39 _ hx0 _ _ _ _ _ _ _ hFM12
theorem nj_Mod_goes_B39 {M0 : Mm} (k39 : Nat → Int32 → Int32 → Int32 → Int32 → Int32 → Int32 → Mm → Option (Int32 × Mm)) (hk39 : ∀ (x0 : Nat) (x1 : Int32) (x2 : Int32) (x3 : Int32) (x4 : Int32) (x5 : Int32) (x6 : Int32) (M : Mm) (hS : Sm M0 M), NJ M0 (k39 x0 x1 x2 x3 x4 x5 x6 M)) (x0 : Nat) (x1 : Int32) (x2 : Int32) (x3 : Int32) (x4 : Int32) (x5 : Int32) (x6 : Int32) (M : Mm) (hS : Sm M0 M) : NJ M0 (Mod_goes_B39 k39 x0 x1 x2 x3 x4 x5 x6 M) := by
  unfold Mod_goes_B39
  refine NJ_if ?_ ?_
  · exact NJ_leaf hS
  · refine NJ_if ?_ ?_
    · exact NJ_leaf hS
    · refine NJ_if ?_ ?_
      · exact nj_Mod_goes_J109 k39 hk39 _ _ _ _ _ _ _ _ hS
      · refine NJ_if ?_ ?_
        · exact nj_Mod_goes_J109 k39 hk39 _ _ _ _ _ _ _ _ hS
        · refine NJ_ck ?_
          refine NJ_bd hS (nj_Mod_hasFog _ _ _ _) (fun r11 M12 hSM12 => ?_)
          refine NJ_if ?_ ?_
          · refine NJ_ck ?_
            refine NJ_bd hSM12 (nj_Mod_hasFog _ _ _ _) (fun r14 M15 hSM15 => ?_)
            refine NJ_if ?_ ?_
            · exact NJ_leaf hSM15
            · exact nj_Mod_goes_J109 k39 hk39 _ _ _ _ _ _ _ _ hSM15
          · exact nj_Mod_goes_J109 k39 hk39 _ _ _ _ _ _ _ _ hSM12
theorem fj_Mod_goes_L39 {D : Nat → Prop} {M0 : Mm} (hT : Tp D M0) : ∀ (n : Nat) (x0 : Nat) (hx0 : D x0) (x1 : Int32) (x2 : Int32) (x3 : Int32) (x4 : Int32) (x5 : Int32) (x6 : Int32) (M : Mm) (hF : Fr D M0 M), FJ D M0 (Mod_goes_L39 n x0 x1 x2 x3 x4 x5 x6 M) := by
  intro n
  induction n with
  | zero => intros; exact FJ_none
  | succ n ih => intro x0 hx0 x1 x2 x3 x4 x5 x6 M hF; exact fj_Mod_goes_B39 hT _ ih x0 hx0 x1 x2 x3 x4 x5 x6 M hF
theorem nj_Mod_goes_L39 {M0 : Mm} : ∀ (n : Nat) (x0 : Nat) (x1 : Int32) (x2 : Int32) (x3 : Int32) (x4 : Int32) (x5 : Int32) (x6 : Int32) (M : Mm) (hS : Sm M0 M), NJ M0 (Mod_goes_L39 n x0 x1 x2 x3 x4 x5 x6 M) := by
  intro n
  induction n with
  | zero => intros; exact NJ_none
  | succ n ih => intro x0 x1 x2 x3 x4 x5 x6 M hS; exact nj_Mod_goes_B39 _ ih x0 x1 x2 x3 x4 x5 x6 M hS
theorem fj_Mod_goes {D : Nat → Prop} {M : Mm} (hC : Cl D M) (hT : Tp D M) (a0 : Nat) (h0 : D a0) (a1 : Int32) (a2 : Int32) (a3 : Int32) : FJ D M (Mod_goes M a0 a1 a2 a3) := by
  unfold Mod_goes
  refine FJ_ck ?_
  refine FJ_nn (Fr.rf hC) h0 (fun b2 hb2 => ?_)
  refine FJ_ck ?_
  refine FJ_nn (Fr.rf hC) h0 (fun b5 hb5 => ?_)
  refine FJ_ck ?_
  refine FJ_if ?_ ?_
  · exact FJ_leaf (Fr.rf hC)
  · exact fj_Mod_goes_L39 hT fu _ h0 _ _ _ _ _ _ _ (Fr.rf hC)
theorem nj_Mod_goes (M : Mm) (a0 : Nat) (a1 : Int32) (a2 : Int32) (a3 : Int32) : NJ M (Mod_goes M a0 a1 a2 a3) := by
  unfold Mod_goes
  refine NJ_ck ?_
  refine NJ_nn (fun b2 => ?_)
  refine NJ_ck ?_
  refine NJ_nn (fun b5 => ?_)
  refine NJ_ck ?_
  refine NJ_if ?_ ?_
  · exact NJ_leaf Sm.rf
  · exact nj_Mod_goes_L39 fu _ _ _ _ _ _ _ _ Sm.rf
theorem fj_Mod_spreads_J215 {D : Nat → Prop} {M0 : Mm} (hT : Tp D M0) (k37 : Nat → Int32 → Mm → Option (Unit × Mm)) (k129 : Nat → Int32 → Int32 → Int32 → Mm → Option (Unit × Mm)) (hk37 : ∀ (x0 : Nat) (hx0 : D x0) (x3 : Int32) (M : Mm) (hF : Fr D M0 M), FJ D M0 (k37 x0 x3 M)) (hk129 : ∀ (x0 : Nat) (hx0 : D x0) (x3 : Int32) (x4 : Int32) (x5 : Int32) (M : Mm) (hF : Fr D M0 M), FJ D M0 (k129 x0 x3 x4 x5 M)) (x0 : Nat) (hx0 : D x0) (x3 : Int32) (x4 : Int32) (x5 : Int32) (M : Mm) (hF : Fr D M0 M) : FJ D M0 (Mod_spreads_J215 k37 k129 x0 x3 x4 x5 M) := by
  unfold Mod_spreads_J215
  exact hk129 _ hx0 _ _ _ _ hF
theorem nj_Mod_spreads_J215 {M0 : Mm} (k37 : Nat → Int32 → Mm → Option (Unit × Mm)) (k129 : Nat → Int32 → Int32 → Int32 → Mm → Option (Unit × Mm)) (hk37 : ∀ (x0 : Nat) (x3 : Int32) (M : Mm) (hS : Sm M0 M), NJ M0 (k37 x0 x3 M)) (hk129 : ∀ (x0 : Nat) (x3 : Int32) (x4 : Int32) (x5 : Int32) (M : Mm) (hS : Sm M0 M), NJ M0 (k129 x0 x3 x4 x5 M)) (x0 : Nat) (x3 : Int32) (x4 : Int32) (x5 : Int32) (M : Mm) (hS : Sm M0 M) : NJ M0 (Mod_spreads_J215 k37 k129 x0 x3 x4 x5 M) := by
  unfold Mod_spreads_J215
  exact hk129 _ _ _ _ _ hS
theorem fj_Mod_spreads_J206 {D : Nat → Prop} {M0 : Mm} (hT : Tp D M0) (k37 : Nat → Int32 → Mm → Option (Unit × Mm)) (k129 : Nat → Int32 → Int32 → Int32 → Mm → Option (Unit × Mm)) (hk37 : ∀ (x0 : Nat) (hx0 : D x0) (x3 : Int32) (M : Mm) (hF : Fr D M0 M), FJ D M0 (k37 x0 x3 M)) (hk129 : ∀ (x0 : Nat) (hx0 : D x0) (x3 : Int32) (x4 : Int32) (x5 : Int32) (M : Mm) (hF : Fr D M0 M), FJ D M0 (k129 x0 x3 x4 x5 M)) (x0 : Nat) (hx0 : D x0) (x3 : Int32) (x4 : Int32) (x5 : Int32) (x6 : Int32) (M : Mm) (hF : Fr D M0 M) : FJ D M0 (Mod_spreads_J206 k37 k129 x0 x3 x4 x5 x6 M) := by
  unfold Mod_spreads_J206
  refine FJ_ck ?_
  refine FJ_nn hF hx0 (fun b25 hb25 => ?_)
  refine FJ_ck ?_
  exact fj_Mod_spreads_J215 hT k37 k129 hk37 hk129 _ hx0 _ _ _ _ (Fr_sI hF hb25)
theorem nj_Mod_spreads_J206 {M0 : Mm} (k37 : Nat → Int32 → Mm → Option (Unit × Mm)) (k129 : Nat → Int32 → Int32 → Int32 → Mm → Option (Unit × Mm)) (hk37 : ∀ (x0 : Nat) (x3 : Int32) (M : Mm) (hS : Sm M0 M), NJ M0 (k37 x0 x3 M)) (hk129 : ∀ (x0 : Nat) (x3 : Int32) (x4 : Int32) (x5 : Int32) (M : Mm) (hS : Sm M0 M), NJ M0 (k129 x0 x3 x4 x5 M)) (x0 : Nat) (x3 : Int32) (x4 : Int32) (x5 : Int32) (x6 : Int32) (M : Mm) (hS : Sm M0 M) : NJ M0 (Mod_spreads_J206 k37 k129 x0 x3 x4 x5 x6 M) := by
  unfold Mod_spreads_J206
  refine NJ_ck ?_
  refine NJ_nn (fun b25 => ?_)
  refine NJ_ck ?_
  exact nj_Mod_spreads_J215 k37 k129 hk37 hk129 _ _ _ _ _ (Sm_sI hS)
theorem fj_Mod_spreads_B129 {D : Nat → Prop} {M0 : Mm} (hT : Tp D M0) (k37 : Nat → Int32 → Mm → Option (Unit × Mm)) (k129 : Nat → Int32 → Int32 → Int32 → Mm → Option (Unit × Mm)) (hk37 : ∀ (x0 : Nat) (hx0 : D x0) (x3 : Int32) (M : Mm) (hF : Fr D M0 M), FJ D M0 (k37 x0 x3 M)) (hk129 : ∀ (x0 : Nat) (hx0 : D x0) (x3 : Int32) (x4 : Int32) (x5 : Int32) (M : Mm) (hF : Fr D M0 M), FJ D M0 (k129 x0 x3 x4 x5 M)) (x0 : Nat) (hx0 : D x0) (x3 : Int32) (x4 : Int32) (x5 : Int32) (M : Mm) (hF : Fr D M0 M) : FJ D M0 (Mod_spreads_B129 k37 k129 x0 x3 x4 x5 M) := by
  unfold Mod_spreads_B129
  refine FJ_ck ?_
  refine FJ_if ?_ ?_
  · exact hk37 _ hx0 _ _ hF
  · refine FJ_nn hF hx0 (fun b12 hb12 => ?_)
    refine FJ_ck ?_
    refine FJ_if ?_ ?_
    · exact fj_Mod_spreads_J215 hT k37 k129 hk37 hk129 _ hx0 _ _ _ _ hF
    · refine FJ_nn hF hx0 (fun b15 hb15 => ?_)
      refine FJ_ck ?_
      refine FJ_if ?_ ?_
      · refine FJ_nn hF hx0 (fun b17 hb17 => ?_)
        refine FJ_ck ?_
        refine FJ_bd hT hF (fun gC gT => fj_Mod_goes gC gT _ hx0 _ _ _) (fun r19 M20 hFM20 => ?_)
        refine FJ_ck ?_
        refine FJ_nn hFM20 hx0 (fun b22 hb22 => ?_)
        refine FJ_ck ?_
        refine FJ_if ?_ ?_
        · exact fj_Mod_spreads_J206 hT k37 k129 hk37 hk129 _ hx0 _ _ _ _ _ hFM20
        · refine FJ_nn hFM20 hx0 (fun b28 hb28 => ?_)
          refine FJ_ck ?_
          refine FJ_if ?_ ?_
          · exact fj_Mod_spreads_J215 hT k37 k129 hk37 hk129 _ hx0 _ _ _ _ hFM20
          · exact fj_Mod_spreads_J206 hT k37 k129 hk37 hk129 _ hx0 _ _ _ _ _ hFM20
      · exact fj_Mod_spreads_J215 hT k37 k129 hk37 hk129 _ hx0 _ _ _ _ hF
theorem nj_Mod_spreads_B129 {M0 : Mm} (k37 : Nat → Int32 → Mm → Option (Unit × Mm)) (k129 : Nat → Int32 → Int32 → Int32 → Mm → Option (Unit × Mm)) (hk37 : ∀ (x0 : Nat) (x3 : Int32) (M : Mm) (hS : Sm M0 M), NJ M0 (k37 x0 x3 M)) (hk129 : ∀ (x0 : Nat) (x3 : Int32) (x4 : Int32) (x5 : Int32) (M : Mm) (hS : Sm M0 M), NJ M0 (k129 x0 x3 x4 x5 M)) (x0 : Nat) (x3 : Int32) (x4 : Int32) (x5 : Int32) (M : Mm) (hS : Sm M0 M) : NJ M0 (Mod_spreads_B129 k37 k129 x0 x3 x4 x5 M) := by
  unfold Mod_spreads_B129
  refine NJ_ck ?_
  refine NJ_if ?_ ?_
  · exact hk37 _ _ _ hS
  · refine NJ_nn (fun b12 => ?_)
    refine NJ_ck ?_
    refine NJ_if ?_ ?_
    · exact nj_Mod_spreads_J215 k37 k129 hk37 hk129 _ _ _ _ _ hS
    · refine NJ_nn (fun b15 => ?_)
      refine NJ_ck ?_
      refine NJ_if ?_ ?_
      · refine NJ_nn (fun b17 => ?_)
        refine NJ_ck ?_
        refine NJ_bd hS (nj_Mod_goes _ _ _ _ _) (fun r19 M20 hSM20 => ?_)
        refine NJ_ck ?_
        refine NJ_nn (fun b22 => ?_)
        refine NJ_ck ?_
        refine NJ_if ?_ ?_
        · exact nj_Mod_spreads_J206 k37 k129 hk37 hk129 _ _ _ _ _ _ hSM20
        · refine NJ_nn (fun b28 => ?_)
          refine NJ_ck ?_
          refine NJ_if ?_ ?_
          · exact nj_Mod_spreads_J215 k37 k129 hk37 hk129 _ _ _ _ _ hSM20
          · exact nj_Mod_spreads_J206 k37 k129 hk37 hk129 _ _ _ _ _ _ hSM20
      · exact nj_Mod_spreads_J215 k37 k129 hk37 hk129 _ _ _ _ _ hS
theorem fj_Mod_spreads_L129 {D : Nat → Prop} {M0 : Mm} (hT : Tp D M0) (k37 : Nat → Int32 → Mm → Option (Unit × Mm)) (hk37 : ∀ (x0 : Nat) (hx0 : D x0) (x3 : Int32) (M : Mm) (hF : Fr D M0 M), FJ D M0 (k37 x0 x3 M)) : ∀ (n : Nat) (x0 : Nat) (hx0 : D x0) (x3 : Int32) (x4 : Int32) (x5 : Int32) (M : Mm) (hF : Fr D M0 M), FJ D M0 (Mod_spreads_L129 k37 n x0 x3 x4 x5 M) := by
  intro n
  induction n with
  | zero => intros; exact FJ_none
  | succ n ih => intro x0 hx0 x3 x4 x5 M hF; exact fj_Mod_spreads_B129 hT k37 _ hk37 ih x0 hx0 x3 x4 x5 M hF
theorem nj_Mod_spreads_L129 {M0 : Mm} (k37 : Nat → Int32 → Mm → Option (Unit × Mm)) (hk37 : ∀ (x0 : Nat) (x3 : Int32) (M : Mm) (hS : Sm M0 M), NJ M0 (k37 x0 x3 M)) : ∀ (n : Nat) (x0 : Nat) (x3 : Int32) (x4 : Int32) (x5 : Int32) (M : Mm) (hS : Sm M0 M), NJ M0 (Mod_spreads_L129 k37 n x0 x3 x4 x5 M) := by
  intro n
  induction n with
  | zero => intros; exact NJ_none
  | succ n ih => intro x0 x3 x4 x5 M hS; exact nj_Mod_spreads_B129 k37 _ hk37 ih x0 x3 x4 x5 M hS
theorem fj_Mod_spreads_J106 {D : Nat → Prop} {M0 : Mm} (hT : Tp D M0) (k37 : Nat → Int32 → Mm → Option (Unit × Mm)) (k51 : Nat → Int32 → Int32 → Int32 → Mm → Option (Unit × Mm)) (hk37 : ∀ (x0 : Nat) (hx0 : D x0) (x3 : Int32) (M : Mm) (hF : Fr D M0 M), FJ D M0 (k37 x0 x3 M)) (hk51 : ∀ (x0 : Nat) (hx0 : D x0) (x3 : Int32) (x4 : Int32) (x5 : Int32) (M : Mm) (hF : Fr D M0 M), FJ D M0 (k51 x0 x3 x4 x5 M)) (x0 : Nat) (hx0 : D x0) (x3 : Int32) (x4 : Int32) (x5 : Int32) (M : Mm) (hF : Fr D M0 M) : FJ D M0 (Mod_spreads_J106 k37 k51 x0 x3 x4 x5 M) := by
  unfold Mod_spreads_J106
  exact hk51 _ hx0 _ _ _ _ hF
theorem nj_Mod_spreads_J106 {M0 : Mm} (k37 : Nat → Int32 → Mm → Option (Unit × Mm)) (k51 : Nat → Int32 → Int32 → Int32 → Mm → Option (Unit × Mm)) (hk37 : ∀ (x0 : Nat) (x3 : Int32) (M : Mm) (hS : Sm M0 M), NJ M0 (k37 x0 x3 M)) (hk51 : ∀ (x0 : Nat) (x3 : Int32) (x4 : Int32) (x5 : Int32) (M : Mm) (hS : Sm M0 M), NJ M0 (k51 x0 x3 x4 x5 M)) (x0 : Nat) (x3 : Int32) (x4 : Int32) (x5 : Int32) (M : Mm) (hS : Sm M0 M) : NJ M0 (Mod_spreads_J106 k37 k51 x0 x3 x4 x5 M) := by
  unfold Mod_spreads_J106
  exact hk51 _ _ _ _ _ hS
theorem fj_Mod_spreads_J102 {D : Nat → Prop} {M0 : Mm} (hT : Tp D M0) (k37 : Nat → Int32 → Mm → Option (Unit × Mm)) (k51 : Nat → Int32 → Int32 → Int32 → Mm → Option (Unit × Mm)) (hk37 : ∀ (x0 : Nat) (hx0 : D x0) (x3 : Int32) (M : Mm) (hF : Fr D M0 M), FJ D M0 (k37 x0 x3 M)) (hk51 : ∀ (x0 : Nat) (hx0 : D x0) (x3 : Int32) (x4 : Int32) (x5 : Int32) (M : Mm) (hF : Fr D M0 M), FJ D M0 (k51 x0 x3 x4 x5 M)) (x0 : Nat) (hx0 : D x0) (x3 : Int32) (x5 : Int32) (M : Mm) (hF : Fr D M0 M) : FJ D M0 (Mod_spreads_J102 k37 k51 x0 x3 x5 M) := by
  unfold Mod_spreads_J102
  exact fj_Mod_spreads_J106 hT k37 k51 hk37 hk51 _ hx0 _ _ _ _ hF
theorem nj_Mod_spreads_J102 {M0 : Mm} (k37 : Nat → Int32 → Mm → Option (Unit × Mm)) (k51 : Nat → Int32 → Int32 → Int32 → Mm → Option (Unit × Mm)) (hk37 : ∀ (x0 : Nat) (x3 : Int32) (M : Mm) (hS : Sm M0 M), NJ M0 (k37 x0 x3 M)) (hk51 : ∀ (x0 : Nat) (x3 : Int32) (x4 : Int32) (x5 : Int32) (M : Mm) (hS : Sm M0 M), NJ M0 (k51 x0 x3 x4 x5 M)) (x0 : Nat) (x3 : Int32) (x5 : Int32) (M : Mm) (hS : Sm M0 M) : NJ M0 (Mod_spreads_J102 k37 k51 x0 x3 x5 M) := by
  unfold Mod_spreads_J102
  exact nj_Mod_spreads_J106 k37 k51 hk37 hk51 _ _ _ _ _ hS
theorem fj_Mod_spreads_B51 {D : Nat → Prop} {M0 : Mm} (hT : Tp D M0) (k37 : Nat → Int32 → Mm → Option (Unit × Mm)) (k51 : Nat → Int32 → Int32 → Int32 → Mm → Option (Unit × Mm)) (hk37 : ∀ (x0 : Nat) (hx0 : D x0) (x3 : Int32) (M : Mm) (hF : Fr D M0 M), FJ D M0 (k37 x0 x3 M)) (hk51 : ∀ (x0 : Nat) (hx0 : D x0) (x3 : Int32) (x4 : Int32) (x5 : Int32) (M : Mm) (hF : Fr D M0 M), FJ D M0 (k51 x0 x3 x4 x5 M)) (x0 : Nat) (hx0 : D x0) (x3 : Int32) (x4 : Int32) (x5 : Int32) (M : Mm) (hF : Fr D M0 M) : FJ D M0 (Mod_spreads_B51 k37 k51 x0 x3 x4 x5 M) := by
  unfold Mod_spreads_B51
  refine FJ_ck ?_
  refine FJ_if ?_ ?_
  · refine FJ_if ?_ ?_
    · refine FJ_nn hF hx0 (fun b7 hb7 => ?_)
      refine FJ_ck ?_
      exact fj_Mod_spreads_L129 hT k37 hk37 fu _ hx0 _ _ _ _ (Fr_sI hF hb7)
    · exact FJ_leaf hF
  · refine FJ_nn hF hx0 (fun b30 hb30 => ?_)
    refine FJ_ck ?_
    refine FJ_if ?_ ?_
    · refine FJ_nn hF hx0 (fun b33 hb33 => ?_)
      refine FJ_ck ?_
      refine FJ_if ?_ ?_
      · exact fj_Mod_spreads_J106 hT k37 k51 hk37 hk51 _ hx0 _ _ _ _ hF
      · refine FJ_if ?_ ?_
        · exact fj_Mod_spreads_J102 hT k37 k51 hk37 hk51 _ hx0 _ _ _ hF
        · refine FJ_nn hF hx0 (fun b35 hb35 => ?_)
          refine FJ_ck ?_
          refine FJ_nn hF hx0 (fun b37 hb37 => ?_)
          refine FJ_ck ?_
          refine FJ_if ?_ ?_
          · exact fj_Mod_spreads_J106 hT k37 k51 hk37 hk51 _ hx0 _ _ _ _ hF
          · exact fj_Mod_spreads_J102 hT k37 k51 hk37 hk51 _ hx0 _ _ _ hF
    · exact fj_Mod_spreads_J106 hT k37 k51 hk37 hk51 _ hx0 _ _ _ _ hF
theorem nj_Mod_spreads_B51 {M0 : Mm} (k37 : Nat → Int32 → Mm → Option (Unit × Mm)) (k51 : Nat → Int32 → Int32 → Int32 → Mm → Option (Unit × Mm)) (hk37 : ∀ (x0 : Nat) (x3 : Int32) (M : Mm) (hS : Sm M0 M), NJ M0 (k37 x0 x3 M)) (hk51 : ∀ (x0 : Nat) (x3 : Int32) (x4 : Int32) (x5 : Int32) (M : Mm) (hS : Sm M0 M), NJ M0 (k51 x0 x3 x4 x5 M)) (x0 : Nat) (x3 : Int32) (x4 : Int32) (x5 : Int32) (M : Mm) (hS : Sm M0 M) : NJ M0 (Mod_spreads_B51 k37 k51 x0 x3 x4 x5 M) := by
  unfold Mod_spreads_B51
  refine NJ_ck ?_
  refine NJ_if ?_ ?_
  · refine NJ_if ?_ ?_
    · refine NJ_nn (fun b7 => ?_)
      refine NJ_ck ?_
      exact nj_Mod_spreads_L129 k37 hk37 fu _ _ _ _ _ (Sm_sI hS)
    · exact NJ_leaf hS
  · refine NJ_nn (fun b30 => ?_)
    refine NJ_ck ?_
    refine NJ_if ?_ ?_
    · refine NJ_nn (fun b33 => ?_)
      refine NJ_ck ?_
      refine NJ_if ?_ ?_
      · exact nj_Mod_spreads_J106 k37 k51 hk37 hk51 _ _ _ _ _ hS
      · refine NJ_if ?_ ?_
        · exact nj_Mod_spreads_J102 k37 k51 hk37 hk51 _ _ _ _ hS
        · refine NJ_nn (fun b35 => ?_)
          refine NJ_ck ?_
          refine NJ_nn (fun b37 => ?_)
          refine NJ_ck ?_
          refine NJ_if ?_ ?_
          · exact nj_Mod_spreads_J106 k37 k51 hk37 hk51 _ _ _ _ _ hS
          · exact nj_Mod_spreads_J102 k37 k51 hk37 hk51 _ _ _ _ hS
    · exact nj_Mod_spreads_J106 k37 k51 hk37 hk51 _ _ _ _ _ hS
theorem fj_Mod_spreads_L51 {D : Nat → Prop} {M0 : Mm} (hT : Tp D M0) (k37 : Nat → Int32 → Mm → Option (Unit × Mm)) (hk37 : ∀ (x0 : Nat) (hx0 : D x0) (x3 : Int32) (M : Mm) (hF : Fr D M0 M), FJ D M0 (k37 x0 x3 M)) : ∀ (n : Nat) (x0 : Nat) (hx0 : D x0) (x3 : Int32) (x4 : Int32) (x5 : Int32) (M : Mm) (hF : Fr D M0 M), FJ D M0 (Mod_spreads_L51 k37 n x0 x3 x4 x5 M) := by
  intro n
  induction n with
  | zero => intros; exact FJ_none
  | succ n ih => intro x0 hx0 x3 x4 x5 M hF; exact fj_Mod_spreads_B51 hT k37 _ hk37 ih x0 hx0 x3 x4 x5 M hF
theorem nj_Mod_spreads_L51 {M0 : Mm} (k37 : Nat → Int32 → Mm → Option (Unit × Mm)) (hk37 : ∀ (x0 : Nat) (x3 : Int32) (M : Mm) (hS : Sm M0 M), NJ M0 (k37 x0 x3 M)) : ∀ (n : Nat) (x0 : Nat) (x3 : Int32) (x4 : Int32) (x5 : Int32) (M : Mm) (hS : Sm M0 M), NJ M0 (Mod_spreads_L51 k37 n x0 x3 x4 x5 M) := by
  intro n
  induction n with
  | zero => intros; exact NJ_none
  | succ n ih => intro x0 x3 x4 x5 M hS; exact nj_Mod_spreads_B51 k37 _ hk37 ih x0 x3 x4 x5 M hS
theorem fj_Mod_spreads_B37 {D : Nat → Prop} {M0 : Mm} (hT : Tp D M0) (k37 : Nat → Int32 → Mm → Option (Unit × Mm)) (hk37 : ∀ (x0 : Nat) (hx0 : D x0) (x3 : Int32) (M : Mm) (hF : Fr D M0 M), FJ D M0 (k37 x0 x3 M)) (x0 : Nat) (hx0 : D x0) (x3 : Int32) (M : Mm) (hF : Fr D M0 M) : FJ D M0 (Mod_spreads_B37 k37 x0 x3 M) := by
  unfold Mod_spreads_B37
  refine FJ_ck ?_
  refine FJ_if ?_ ?_
  · exact FJ_leaf hF
  · exact fj_Mod_spreads_L51 hT k37 hk37 fu _ hx0 _ _ _ _ hF
theorem nj_Mod_spreads_B37 {M0 : Mm} (k37 : Nat → Int32 → Mm → Option (Unit × Mm)) (hk37 : ∀ (x0 : Nat) (x3 : Int32) (M : Mm) (hS : Sm M0 M), NJ M0 (k37 x0 x3 M)) (x0 : Nat) (x3 : Int32) (M : Mm) (hS : Sm M0 M) : NJ M0 (Mod_spreads_B37 k37 x0 x3 M) := by
  unfold Mod_spreads_B37
  refine NJ_ck ?_
  refine NJ_if ?_ ?_
  · exact NJ_leaf hS
  · exact nj_Mod_spreads_L51 k37 hk37 fu _ _ _ _ _ hS
theorem fj_Mod_spreads_L37 {D : Nat → Prop} {M0 : Mm} (hT : Tp D M0) : ∀ (n : Nat) (x0 : Nat) (hx0 : D x0) (x3 : Int32) (M : Mm) (hF : Fr D M0 M), FJ D M0 (Mod_spreads_L37 n x0 x3 M) := by
  intro n
  induction n with
  | zero => intros; exact FJ_none
  | succ n ih => intro x0 hx0 x3 M hF; exact fj_Mod_spreads_B37 hT _ ih x0 hx0 x3 M hF
theorem nj_Mod_spreads_L37 {M0 : Mm} : ∀ (n : Nat) (x0 : Nat) (x3 : Int32) (M : Mm) (hS : Sm M0 M), NJ M0 (Mod_spreads_L37 n x0 x3 M) := by
  intro n
  induction n with
  | zero => intros; exact NJ_none
  | succ n ih => intro x0 x3 M hS; exact nj_Mod_spreads_B37 _ ih x0 x3 M hS
theorem fj_Mod_spreads_B2 {D : Nat → Prop} {M0 : Mm} (hT : Tp D M0) (k2 : Nat → Int32 → Int32 → Int32 → Mm → Option (Unit × Mm)) (hk2 : ∀ (x0 : Nat) (hx0 : D x0) (x1 : Int32) (x2 : Int32) (x3 : Int32) (M : Mm) (hF : Fr D M0 M), FJ D M0 (k2 x0 x1 x2 x3 M)) (x0 : Nat) (hx0 : D x0) (x1 : Int32) (x2 : Int32) (x3 : Int32) (M : Mm) (hF : Fr D M0 M) : FJ D M0 (Mod_spreads_B2 k2 x0 x1 x2 x3 M) := by
  unfold Mod_spreads_B2
  refine FJ_if ?_ ?_
  · refine FJ_ck ?_
    refine FJ_nn hF hx0 (fun b2 hb2 => ?_)
    refine FJ_ck ?_
    exact fj_Mod_spreads_L37 hT fu _ hx0 _ _ (Fr_sI hF hb2)
  · refine FJ_ck ?_
    refine FJ_nn hF hx0 (fun b40 hb40 => ?_)
    refine FJ_ck ?_
    refine FJ_nn (Fr_sI hF hb40) hx0 (fun b43 hb43 => ?_)
    refine FJ_ck ?_
    exact hk2 _ hx0 _ _ _ _ (Fr_sI (Fr_sI hF hb40) hb43)
theorem nj_Mod_spreads_B2 {M0 : Mm} (k2 : Nat → Int32 → Int32 → Int32 → Mm → Option (Unit × Mm)) (hk2 : ∀ (x0 : Nat) (x1 : Int32) (x2 : Int32) (x3 : Int32) (M : Mm) (hS : Sm M0 M), NJ M0 (k2 x0 x1 x2 x3 M)) (x0 : Nat) (x1 : Int32) (x2 : Int32) (x3 : Int32) (M : Mm) (hS : Sm M0 M) : NJ M0 (Mod_spreads_B2 k2 x0 x1 x2 x3 M) := by
  unfold Mod_spreads_B2
  refine NJ_if ?_ ?_
  · refine NJ_ck ?_
    refine NJ_nn (fun b2 => ?_)
    refine NJ_ck ?_
    exact nj_Mod_spreads_L37 fu _ _ _ (Sm_sI hS)
  · refine NJ_ck ?_
    refine NJ_nn (fun b40 => ?_)
    refine NJ_ck ?_
    refine NJ_nn (fun b43 => ?_)
    refine NJ_ck ?_
    exact hk2 _ _ _ _ _ (Sm_sI (Sm_sI hS))
theorem fj_Mod_spreads_L2 {D : Nat → Prop} {M0 : Mm} (hT : Tp D M0) : ∀ (n : Nat) (x0 : Nat) (hx0 : D x0) (x1 : Int32) (x2 : Int32) (x3 : Int32) (M : Mm) (hF : Fr D M0 M), FJ D M0 (Mod_spreads_L2 n x0 x1 x2 x3 M) := by
  intro n
  induction n with
  | zero => intros; exact FJ_none
  | succ n ih => intro x0 hx0 x1 x2 x3 M hF; exact fj_Mod_spreads_B2 hT _ ih x0 hx0 x1 x2 x3 M hF
theorem nj_Mod_spreads_L2 {M0 : Mm} : ∀ (n : Nat) (x0 : Nat) (x1 : Int32) (x2 : Int32) (x3 : Int32) (M : Mm) (hS : Sm M0 M), NJ M0 (Mod_spreads_L2 n x0 x1 x2 x3 M) := by
  intro n
  induction n with
  | zero => intros; exact NJ_none
  | succ n ih => intro x0 x1 x2 x3 M hS; exact nj_Mod_spreads_B2 _ ih x0 x1 x2 x3 M hS
theorem fj_Mod_spreads {D : Nat → Prop} {M : Mm} (hC : Cl D M) (hT : Tp D M) (a0 : Nat) (h0 : D a0) (a1 : Int32) (a2 : Int32) : FJ D M (Mod_spreads M a0 a1 a2) := by
  unfold Mod_spreads
  exact fj_Mod_spreads_L2 hT fu _ h0 _ _ _ _ (Fr.rf hC)
theorem nj_Mod_spreads (M : Mm) (a0 : Nat) (a1 : Int32) (a2 : Int32) : NJ M (Mod_spreads M a0 a1 a2) := by
  unfold Mod_spreads
  exact nj_Mod_spreads_L2 fu _ _ _ _ _ Sm.rf
theorem fj_Mod_news {D : Nat → Prop} {M : Mm} (hC : Cl D M) (hT : Tp D M) (a0 : Nat) (h0 : D a0) (a1 : Int32) (a2 : Int32) (a3 : Int32) : FJ D M (Mod_news M a0 a1 a2 a3) := by
  unfold Mod_news
  refine FJ_ck ?_
  refine FJ_bd hT (Fr.rf hC) (fun gC gT => fj_Mod_isTown gC gT _ h0 _) (fun r2 M3 hFM3 => ?_)
  refine FJ_if ?_ ?_
  · exact FJ_leaf hFM3
  · refine FJ_ck ?_
    refine FJ_bd hT hFM3 (fun gC gT => fj_Mod_isTown gC gT _ h0 _) (fun r5 M6 hFM6 => ?_)
    refine FJ_if ?_ ?_
    · exact FJ_leaf hFM6
    · refine FJ_bd hT hFM6 (fun gC gT => fj_Mod_in gC gT _ _ _) (fun r7 M8 hFM8 => ?_)
      refine FJ_if ?_ ?_
      · exact FJ_leaf hFM8
      · refine FJ_ck ?_
        refine FJ_bd hT hFM8 (fun gC gT => fj_Mod_spreads gC gT _ h0 _ _) (fun _ M11 hFM11 => ?_)
        refine FJ_ck ?_
        refine FJ_nn hFM11 h0 (fun b13 hb13 => ?_)
        refine FJ_ck ?_
        exact FJ_leaf hFM11
theorem nj_Mod_news (M : Mm) (a0 : Nat) (a1 : Int32) (a2 : Int32) (a3 : Int32) : NJ M (Mod_news M a0 a1 a2 a3) := by
  unfold Mod_news
  refine NJ_ck ?_
  refine NJ_bd Sm.rf (nj_Mod_isTown _ _ _) (fun r2 M3 hSM3 => ?_)
  refine NJ_if ?_ ?_
  · exact NJ_leaf hSM3
  · refine NJ_ck ?_
    refine NJ_bd hSM3 (nj_Mod_isTown _ _ _) (fun r5 M6 hSM6 => ?_)
    refine NJ_if ?_ ?_
    · exact NJ_leaf hSM6
    · refine NJ_bd hSM6 (nj_Mod_in _ _ _ _) (fun r7 M8 hSM8 => ?_)
      refine NJ_if ?_ ?_
      · exact NJ_leaf hSM8
      · refine NJ_ck ?_
        refine NJ_bd hSM8 (nj_Mod_spreads _ _ _ _) (fun _ M11 hSM11 => ?_)
        refine NJ_ck ?_
        refine NJ_nn (fun b13 => ?_)
        refine NJ_ck ?_
        exact NJ_leaf hSM11
theorem fj_Mod_person {D : Nat → Prop} {M : Mm} (hC : Cl D M) (hT : Tp D M) (a0 : Nat) (h0 : D a0) (a1 : Int32) : FJ D M (Mod_person M a0 a1) := by
  unfold Mod_person
  refine FJ_ck ?_
  refine FJ_bd hT (Fr.rf hC) (fun gC gT => fj_Mod_isTown gC gT _ h0 _) (fun r2 M3 hFM3 => ?_)
  refine FJ_if ?_ ?_
  · exact FJ_leaf hFM3
  · refine FJ_ck ?_
    refine FJ_if ?_ ?_
    · exact FJ_leaf hFM3
    · refine FJ_nn hFM3 h0 (fun b5 hb5 => ?_)
      refine FJ_ck ?_
      refine FJ_nn (Fr_sI hFM3 hb5) h0 (fun b8 hb8 => ?_)
      refine FJ_ck ?_
      exact FJ_leaf (Fr_sI (Fr_sI (Fr_sI hFM3 hb5) hb8) h0)
theorem nj_Mod_person (M : Mm) (a0 : Nat) (a1 : Int32) : NJ M (Mod_person M a0 a1) := by
  unfold Mod_person
  refine NJ_ck ?_
  refine NJ_bd Sm.rf (nj_Mod_isTown _ _ _) (fun r2 M3 hSM3 => ?_)
  refine NJ_if ?_ ?_
  · exact NJ_leaf hSM3
  · refine NJ_ck ?_
    refine NJ_if ?_ ?_
    · exact NJ_leaf hSM3
    · refine NJ_nn (fun b5 => ?_)
      refine NJ_ck ?_
      refine NJ_nn (fun b8 => ?_)
      refine NJ_ck ?_
      exact NJ_leaf (Sm_sI (Sm_sI (Sm_sI hSM3)))
theorem fj_Mod_hears_J138 {D : Nat → Prop} {M0 : Mm} (hT : Tp D M0) (k34 : Nat → Int32 → Int32 → Mm → Option (Int32 × Mm)) (hk34 : ∀ (x0 : Nat) (hx0 : D x0) (x3 : Int32) (x4 : Int32) (M : Mm) (hF : Fr D M0 M), FJ D M0 (k34 x0 x3 x4 M)) (x0 : Nat) (hx0 : D x0) (x3 : Int32) (x4 : Int32) (M : Mm) (hF : Fr D M0 M) : FJ D M0 (Mod_hears_J138 k34 x0 x3 x4 M) := by
  unfold Mod_hears_J138
  exact hk34 _ hx0 _ _ _ hF
theorem nj_Mod_hears_J138 {M0 : Mm} (k34 : Nat → Int32 → Int32 → Mm → Option (Int32 × Mm)) (hk34 : ∀ (x0 : Nat) (x3 : Int32) (x4 : Int32) (M : Mm) (hS : Sm M0 M), NJ M0 (k34 x0 x3 x4 M)) (x0 : Nat) (x3 : Int32) (x4 : Int32) (M : Mm) (hS : Sm M0 M) : NJ M0 (Mod_hears_J138 k34 x0 x3 x4 M) := by
  unfold Mod_hears_J138
  exact hk34 _ _ _ _ hS
theorem fj_Mod_hears_J123 {D : Nat → Prop} {M0 : Mm} (hT : Tp D M0) (k34 : Nat → Int32 → Int32 → Mm → Option (Int32 × Mm)) (k71 : Nat → Int32 → Int32 → Int32 → Int32 → Int32 → Mm → Option (Int32 × Mm)) (hk34 : ∀ (x0 : Nat) (hx0 : D x0) (x3 : Int32) (x4 : Int32) (M : Mm) (hF : Fr D M0 M), FJ D M0 (k34 x0 x3 x4 M)) (hk71 : ∀ (x0 : Nat) (hx0 : D x0) (x3 : Int32) (x4 : Int32) (x5 : Int32) (x6 : Int32) (x7 : Int32) (M : Mm) (hF : Fr D M0 M), FJ D M0 (k71 x0 x3 x4 x5 x6 x7 M)) (x0 : Nat) (hx0 : D x0) (x3 : Int32) (x4 : Int32) (x5 : Int32) (x6 : Int32) (x7 : Int32) (M : Mm) (hF : Fr D M0 M) : FJ D M0 (Mod_hears_J123 k34 k71 x0 x3 x4 x5 x6 x7 M) := by
  unfold Mod_hears_J123
  exact hk71 _ hx0 _ _ _ _ _ _ hF
theorem nj_Mod_hears_J123 {M0 : Mm} (k34 : Nat → Int32 → Int32 → Mm → Option (Int32 × Mm)) (k71 : Nat → Int32 → Int32 → Int32 → Int32 → Int32 → Mm → Option (Int32 × Mm)) (hk34 : ∀ (x0 : Nat) (x3 : Int32) (x4 : Int32) (M : Mm) (hS : Sm M0 M), NJ M0 (k34 x0 x3 x4 M)) (hk71 : ∀ (x0 : Nat) (x3 : Int32) (x4 : Int32) (x5 : Int32) (x6 : Int32) (x7 : Int32) (M : Mm) (hS : Sm M0 M), NJ M0 (k71 x0 x3 x4 x5 x6 x7 M)) (x0 : Nat) (x3 : Int32) (x4 : Int32) (x5 : Int32) (x6 : Int32) (x7 : Int32) (M : Mm) (hS : Sm M0 M) : NJ M0 (Mod_hears_J123 k34 k71 x0 x3 x4 x5 x6 x7 M) := by
  unfold Mod_hears_J123
  exact hk71 _ _ _ _ _ _ _ hS
theorem fj_Mod_hears_J120 {D : Nat → Prop} {M0 : Mm} (hT : Tp D M0) (k34 : Nat → Int32 → Int32 → Mm → Option (Int32 × Mm)) (k71 : Nat → Int32 → Int32 → Int32 → Int32 → Int32 → Mm → Option (Int32 × Mm)) (hk34 : ∀ (x0 : Nat) (hx0 : D x0) (x3 : Int32) (x4 : Int32) (M : Mm) (hF : Fr D M0 M), FJ D M0 (k34 x0 x3 x4 M)) (hk71 : ∀ (x0 : Nat) (hx0 : D x0) (x3 : Int32) (x4 : Int32) (x5 : Int32) (x6 : Int32) (x7 : Int32) (M : Mm) (hF : Fr D M0 M), FJ D M0 (k71 x0 x3 x4 x5 x6 x7 M)) (x0 : Nat) (hx0 : D x0) (x3 : Int32) (x4 : Int32) (x5 : Int32) (x6 : Int32) (x7 : Int32) (M : Mm) (hF : Fr D M0 M) : FJ D M0 (Mod_hears_J120 k34 k71 x0 x3 x4 x5 x6 x7 M) := by
  unfold Mod_hears_J120
  exact fj_Mod_hears_J123 hT k34 k71 hk34 hk71 _ hx0 _ _ _ _ _ _ hF
theorem nj_Mod_hears_J120 {M0 : Mm} (k34 : Nat → Int32 → Int32 → Mm → Option (Int32 × Mm)) (k71 : Nat → Int32 → Int32 → Int32 → Int32 → Int32 → Mm → Option (Int32 × Mm)) (hk34 : ∀ (x0 : Nat) (x3 : Int32) (x4 : Int32) (M : Mm) (hS : Sm M0 M), NJ M0 (k34 x0 x3 x4 M)) (hk71 : ∀ (x0 : Nat) (x3 : Int32) (x4 : Int32) (x5 : Int32) (x6 : Int32) (x7 : Int32) (M : Mm) (hS : Sm M0 M), NJ M0 (k71 x0 x3 x4 x5 x6 x7 M)) (x0 : Nat) (x3 : Int32) (x4 : Int32) (x5 : Int32) (x6 : Int32) (x7 : Int32) (M : Mm) (hS : Sm M0 M) : NJ M0 (Mod_hears_J120 k34 k71 x0 x3 x4 x5 x6 x7 M) := by
  unfold Mod_hears_J120
  exact nj_Mod_hears_J123 k34 k71 hk34 hk71 _ _ _ _ _ _ _ hS
theorem fj_Mod_hears_B71 {D : Nat → Prop} {M0 : Mm} (hT : Tp D M0) (k34 : Nat → Int32 → Int32 → Mm → Option (Int32 × Mm)) (k71 : Nat → Int32 → Int32 → Int32 → Int32 → Int32 → Mm → Option (Int32 × Mm)) (hk34 : ∀ (x0 : Nat) (hx0 : D x0) (x3 : Int32) (x4 : Int32) (M : Mm) (hF : Fr D M0 M), FJ D M0 (k34 x0 x3 x4 M)) (hk71 : ∀ (x0 : Nat) (hx0 : D x0) (x3 : Int32) (x4 : Int32) (x5 : Int32) (x6 : Int32) (x7 : Int32) (M : Mm) (hF : Fr D M0 M), FJ D M0 (k71 x0 x3 x4 x5 x6 x7 M)) (x0 : Nat) (hx0 : D x0) (x3 : Int32) (x4 : Int32) (x5 : Int32) (x6 : Int32) (x7 : Int32) (M : Mm) (hF : Fr D M0 M) : FJ D M0 (Mod_hears_B71 k34 k71 x0 x3 x4 x5 x6 x7 M) := by
  unfold Mod_hears_B71
  refine FJ_ck ?_
  refine FJ_if ?_ ?_
  · refine FJ_if ?_ ?_
    · exact FJ_leaf hF
    · exact fj_Mod_hears_J138 hT k34 hk34 _ hx0 _ _ _ hF
  · refine FJ_nn hF hx0 (fun b17 hb17 => ?_)
    refine FJ_nn hF hx0 (fun b18 hb18 => ?_)
    refine FJ_ck ?_
    refine FJ_ck ?_
    refine FJ_if ?_ ?_
    · exact fj_Mod_hears_J123 hT k34 k71 hk34 hk71 _ hx0 _ _ _ _ _ _ hF
    · refine FJ_if ?_ ?_
      · exact fj_Mod_hears_J120 hT k34 k71 hk34 hk71 _ hx0 _ _ _ _ _ _ hF
      · refine FJ_if ?_ ?_
        · refine FJ_if ?_ ?_
          · exact fj_Mod_hears_J123 hT k34 k71 hk34 hk71 _ hx0 _ _ _ _ _ _ hF
          · exact fj_Mod_hears_J120 hT k34 k71 hk34 hk71 _ hx0 _ _ _ _ _ _ hF
        · exact fj_Mod_hears_J123 hT k34 k71 hk34 hk71 _ hx0 _ _ _ _ _ _ hF
theorem nj_Mod_hears_B71 {M0 : Mm} (k34 : Nat → Int32 → Int32 → Mm → Option (Int32 × Mm)) (k71 : Nat → Int32 → Int32 → Int32 → Int32 → Int32 → Mm → Option (Int32 × Mm)) (hk34 : ∀ (x0 : Nat) (x3 : Int32) (x4 : Int32) (M : Mm) (hS : Sm M0 M), NJ M0 (k34 x0 x3 x4 M)) (hk71 : ∀ (x0 : Nat) (x3 : Int32) (x4 : Int32) (x5 : Int32) (x6 : Int32) (x7 : Int32) (M : Mm) (hS : Sm M0 M), NJ M0 (k71 x0 x3 x4 x5 x6 x7 M)) (x0 : Nat) (x3 : Int32) (x4 : Int32) (x5 : Int32) (x6 : Int32) (x7 : Int32) (M : Mm) (hS : Sm M0 M) : NJ M0 (Mod_hears_B71 k34 k71 x0 x3 x4 x5 x6 x7 M) := by
  unfold Mod_hears_B71
  refine NJ_ck ?_
  refine NJ_if ?_ ?_
  · refine NJ_if ?_ ?_
    · exact NJ_leaf hS
    · exact nj_Mod_hears_J138 k34 hk34 _ _ _ _ hS
  · refine NJ_nn (fun b17 => ?_)
    refine NJ_nn (fun b18 => ?_)
    refine NJ_ck ?_
    refine NJ_ck ?_
    refine NJ_if ?_ ?_
    · exact nj_Mod_hears_J123 k34 k71 hk34 hk71 _ _ _ _ _ _ _ hS
    · refine NJ_if ?_ ?_
      · exact nj_Mod_hears_J120 k34 k71 hk34 hk71 _ _ _ _ _ _ _ hS
      · refine NJ_if ?_ ?_
        · refine NJ_if ?_ ?_
          · exact nj_Mod_hears_J123 k34 k71 hk34 hk71 _ _ _ _ _ _ _ hS
          · exact nj_Mod_hears_J120 k34 k71 hk34 hk71 _ _ _ _ _ _ _ hS
        · exact nj_Mod_hears_J123 k34 k71 hk34 hk71 _ _ _ _ _ _ _ hS
theorem fj_Mod_hears_L71 {D : Nat → Prop} {M0 : Mm} (hT : Tp D M0) (k34 : Nat → Int32 → Int32 → Mm → Option (Int32 × Mm)) (hk34 : ∀ (x0 : Nat) (hx0 : D x0) (x3 : Int32) (x4 : Int32) (M : Mm) (hF : Fr D M0 M), FJ D M0 (k34 x0 x3 x4 M)) : ∀ (n : Nat) (x0 : Nat) (hx0 : D x0) (x3 : Int32) (x4 : Int32) (x5 : Int32) (x6 : Int32) (x7 : Int32) (M : Mm) (hF : Fr D M0 M), FJ D M0 (Mod_hears_L71 k34 n x0 x3 x4 x5 x6 x7 M) := by
  intro n
  induction n with
  | zero => intros; exact FJ_none
  | succ n ih => intro x0 hx0 x3 x4 x5 x6 x7 M hF; exact fj_Mod_hears_B71 hT k34 _ hk34 ih x0 hx0 x3 x4 x5 x6 x7 M hF
theorem nj_Mod_hears_L71 {M0 : Mm} (k34 : Nat → Int32 → Int32 → Mm → Option (Int32 × Mm)) (hk34 : ∀ (x0 : Nat) (x3 : Int32) (x4 : Int32) (M : Mm) (hS : Sm M0 M), NJ M0 (k34 x0 x3 x4 M)) : ∀ (n : Nat) (x0 : Nat) (x3 : Int32) (x4 : Int32) (x5 : Int32) (x6 : Int32) (x7 : Int32) (M : Mm) (hS : Sm M0 M), NJ M0 (Mod_hears_L71 k34 n x0 x3 x4 x5 x6 x7 M) := by
  intro n
  induction n with
  | zero => intros; exact NJ_none
  | succ n ih => intro x0 x3 x4 x5 x6 x7 M hS; exact nj_Mod_hears_B71 k34 _ hk34 ih x0 x3 x4 x5 x6 x7 M hS
theorem fj_Mod_hears_B34 {D : Nat → Prop} {M0 : Mm} (hT : Tp D M0) (k34 : Nat → Int32 → Int32 → Mm → Option (Int32 × Mm)) (hk34 : ∀ (x0 : Nat) (hx0 : D x0) (x3 : Int32) (x4 : Int32) (M : Mm) (hF : Fr D M0 M), FJ D M0 (k34 x0 x3 x4 M)) (x0 : Nat) (hx0 : D x0) (x3 : Int32) (x4 : Int32) (M : Mm) (hF : Fr D M0 M) : FJ D M0 (Mod_hears_B34 k34 x0 x3 x4 M) := by
  unfold Mod_hears_B34
  refine FJ_ck ?_
  refine FJ_if ?_ ?_
  · exact FJ_leaf hF
  · refine FJ_nn hF hx0 (fun b10 hb10 => ?_)
    refine FJ_nn hF hx0 (fun b11 hb11 => ?_)
    refine FJ_ck ?_
    refine FJ_ck ?_
    refine FJ_if ?_ ?_
    · exact fj_Mod_hears_L71 hT k34 hk34 fu _ hx0 _ _ _ _ _ _ hF
    · exact fj_Mod_hears_J138 hT k34 hk34 _ hx0 _ _ _ hF
theorem nj_Mod_hears_B34 {M0 : Mm} (k34 : Nat → Int32 → Int32 → Mm → Option (Int32 × Mm)) (hk34 : ∀ (x0 : Nat) (x3 : Int32) (x4 : Int32) (M : Mm) (hS : Sm M0 M), NJ M0 (k34 x0 x3 x4 M)) (x0 : Nat) (x3 : Int32) (x4 : Int32) (M : Mm) (hS : Sm M0 M) : NJ M0 (Mod_hears_B34 k34 x0 x3 x4 M) := by
  unfold Mod_hears_B34
  refine NJ_ck ?_
  refine NJ_if ?_ ?_
  · exact NJ_leaf hS
  · refine NJ_nn (fun b10 => ?_)
    refine NJ_nn (fun b11 => ?_)
    refine NJ_ck ?_
    refine NJ_ck ?_
    refine NJ_if ?_ ?_
    · exact nj_Mod_hears_L71 k34 hk34 fu _ _ _ _ _ _ _ hS
    · exact nj_Mod_hears_J138 k34 hk34 _ _ _ _ hS
theorem fj_Mod_hears_L34 {D : Nat → Prop} {M0 : Mm} (hT : Tp D M0) : ∀ (n : Nat) (x0 : Nat) (hx0 : D x0) (x3 : Int32) (x4 : Int32) (M : Mm) (hF : Fr D M0 M), FJ D M0 (Mod_hears_L34 n x0 x3 x4 M) := by
  intro n
  induction n with
  | zero => intros; exact FJ_none
  | succ n ih => intro x0 hx0 x3 x4 M hF; exact fj_Mod_hears_B34 hT _ ih x0 hx0 x3 x4 M hF
theorem nj_Mod_hears_L34 {M0 : Mm} : ∀ (n : Nat) (x0 : Nat) (x3 : Int32) (x4 : Int32) (M : Mm) (hS : Sm M0 M), NJ M0 (Mod_hears_L34 n x0 x3 x4 M) := by
  intro n
  induction n with
  | zero => intros; exact NJ_none
  | succ n ih => intro x0 x3 x4 M hS; exact nj_Mod_hears_B34 _ ih x0 x3 x4 M hS
theorem fj_Mod_hears {D : Nat → Prop} {M : Mm} (hC : Cl D M) (hT : Tp D M) (a0 : Nat) (h0 : D a0) (a1 : Int32) (a2 : Int32) (a3 : Int32) : FJ D M (Mod_hears M a0 a1 a2 a3) := by
  unfold Mod_hears
  refine FJ_ck ?_
  refine FJ_bd hT (Fr.rf hC) (fun gC gT => fj_Mod_isTown gC gT _ h0 _) (fun r2 M3 hFM3 => ?_)
  refine FJ_if ?_ ?_
  · exact FJ_leaf hFM3
  · refine FJ_bd hT hFM3 (fun gC gT => fj_Mod_in gC gT _ _ _) (fun r4 M5 hFM5 => ?_)
    refine FJ_if ?_ ?_
    · exact FJ_leaf hFM5
    · refine FJ_if ?_ ?_
      · refine FJ_ck ?_
        refine FJ_bd hT hFM5 (fun gC gT => fj_Mod_spreads gC gT _ h0 _ _) (fun _ M8 hFM8 => ?_)
        exact fj_Mod_hears_L34 hT fu _ h0 _ _ _ hFM8
      · exact FJ_leaf hFM5
theorem nj_Mod_hears (M : Mm) (a0 : Nat) (a1 : Int32) (a2 : Int32) (a3 : Int32) : NJ M (Mod_hears M a0 a1 a2 a3) := by
  unfold Mod_hears
  refine NJ_ck ?_
  refine NJ_bd Sm.rf (nj_Mod_isTown _ _ _) (fun r2 M3 hSM3 => ?_)
  refine NJ_if ?_ ?_
  · exact NJ_leaf hSM3
  · refine NJ_bd hSM3 (nj_Mod_in _ _ _ _) (fun r4 M5 hSM5 => ?_)
    refine NJ_if ?_ ?_
    · exact NJ_leaf hSM5
    · refine NJ_if ?_ ?_
      · refine NJ_ck ?_
        refine NJ_bd hSM5 (nj_Mod_spreads _ _ _ _) (fun _ M8 hSM8 => ?_)
        exact nj_Mod_hears_L34 fu _ _ _ _ hSM8
      · exact NJ_leaf hSM5
theorem fj_Mod_store {D : Nat → Prop} {M : Mm} (hC : Cl D M) (hT : Tp D M) (a0 : Nat) (h0 : D a0) : FJ D M (Mod_store M a0) := by
  unfold Mod_store
  refine FJ_ck ?_
  refine FJ_if ?_ ?_
  · exact FJ_leaf (Fr.rf hC)
  · exact FJ_leaf (Fr_sI (Fr.rf hC) h0)
theorem nj_Mod_store (M : Mm) (a0 : Nat) : NJ M (Mod_store M a0) := by
  unfold Mod_store
  refine NJ_ck ?_
  refine NJ_if ?_ ?_
  · exact NJ_leaf Sm.rf
  · exact NJ_leaf (Sm_sI Sm.rf)
theorem fj_Mod_isStore {D : Nat → Prop} {M : Mm} (hC : Cl D M) (hT : Tp D M) (a0 : Nat) (h0 : D a0) (a1 : Int32) : FJ D M (Mod_isStore M a0 a1) := by
  unfold Mod_isStore
  refine FJ_if ?_ ?_
  · exact FJ_leaf (Fr.rf hC)
  · refine FJ_ck ?_
    refine FJ_if ?_ ?_
    · exact FJ_leaf (Fr.rf hC)
    · exact FJ_leaf (Fr.rf hC)
theorem nj_Mod_isStore (M : Mm) (a0 : Nat) (a1 : Int32) : NJ M (Mod_isStore M a0 a1) := by
  unfold Mod_isStore
  refine NJ_if ?_ ?_
  · exact NJ_leaf Sm.rf
  · refine NJ_ck ?_
    refine NJ_if ?_ ?_
    · exact NJ_leaf Sm.rf
    · exact NJ_leaf Sm.rf
theorem fj_Mod_isPerson {D : Nat → Prop} {M : Mm} (hC : Cl D M) (hT : Tp D M) (a0 : Nat) (h0 : D a0) (a1 : Int32) : FJ D M (Mod_isPerson M a0 a1) := by
  unfold Mod_isPerson
  refine FJ_if ?_ ?_
  · exact FJ_leaf (Fr.rf hC)
  · refine FJ_ck ?_
    refine FJ_if ?_ ?_
    · exact FJ_leaf (Fr.rf hC)
    · exact FJ_leaf (Fr.rf hC)
theorem nj_Mod_isPerson (M : Mm) (a0 : Nat) (a1 : Int32) : NJ M (Mod_isPerson M a0 a1) := by
  unfold Mod_isPerson
  refine NJ_if ?_ ?_
  · exact NJ_leaf Sm.rf
  · refine NJ_ck ?_
    refine NJ_if ?_ ?_
    · exact NJ_leaf Sm.rf
    · exact NJ_leaf Sm.rf
theorem fj_Mod_outOf {D : Nat → Prop} {M : Mm} (hC : Cl D M) (hT : Tp D M) (a0 : Nat) (h0 : D a0) (a1 : Int32) : FJ D M (Mod_outOf M a0 a1) := by
  unfold Mod_outOf
  refine FJ_ck ?_
  refine FJ_nn (Fr.rf hC) h0 (fun b2 hb2 => ?_)
  refine FJ_ck ?_
  refine FJ_nn (Fr.rf hC) h0 (fun b4 hb4 => ?_)
  refine FJ_ck ?_
  refine FJ_nn (Fr.rf hC) h0 (fun b6 hb6 => ?_)
  refine FJ_ck ?_
  exact FJ_leaf (Fr.rf hC)
theorem nj_Mod_outOf (M : Mm) (a0 : Nat) (a1 : Int32) : NJ M (Mod_outOf M a0 a1) := by
  unfold Mod_outOf
  refine NJ_ck ?_
  refine NJ_nn (fun b2 => ?_)
  refine NJ_ck ?_
  refine NJ_nn (fun b4 => ?_)
  refine NJ_ck ?_
  refine NJ_nn (fun b6 => ?_)
  refine NJ_ck ?_
  exact NJ_leaf Sm.rf
theorem fj_Mod_issue {D : Nat → Prop} {M : Mm} (hC : Cl D M) (hT : Tp D M) (a0 : Nat) (h0 : D a0) (a1 : Int32) (a2 : Int32) (a3 : Int32) (a4 : Int32) : FJ D M (Mod_issue M a0 a1 a2 a3 a4) := by
  unfold Mod_issue
  refine FJ_ck ?_
  refine FJ_bd hT (Fr.rf hC) (fun gC gT => fj_Mod_isStore gC gT _ h0 _) (fun r2 M3 hFM3 => ?_)
  refine FJ_if ?_ ?_
  · exact FJ_leaf hFM3
  · refine FJ_ck ?_
    refine FJ_bd hT hFM3 (fun gC gT => fj_Mod_isPerson gC gT _ h0 _) (fun r5 M6 hFM6 => ?_)
    refine FJ_if ?_ ?_
    · exact FJ_leaf hFM6
    · refine FJ_bd hT hFM6 (fun gC gT => fj_Mod_in gC gT _ _ _) (fun r7 M8 hFM8 => ?_)
      refine FJ_if ?_ ?_
      · exact FJ_leaf hFM8
      · refine FJ_bd hT hFM8 (fun gC gT => fj_Mod_in gC gT _ _ _) (fun r9 M10 hFM10 => ?_)
        refine FJ_if ?_ ?_
        · exact FJ_leaf hFM10
        · refine FJ_ck ?_
          refine FJ_if ?_ ?_
          · exact FJ_leaf hFM10
          · refine FJ_nn hFM10 h0 (fun b12 hb12 => ?_)
            refine FJ_ck ?_
            refine FJ_nn (Fr_sI hFM10 hb12) h0 (fun b15 hb15 => ?_)
            refine FJ_ck ?_
            refine FJ_nn (Fr_sI (Fr_sI hFM10 hb12) hb15) h0 (fun b18 hb18 => ?_)
            refine FJ_ck ?_
            refine FJ_nn (Fr_sI (Fr_sI (Fr_sI (Fr_sI hFM10 hb12) hb15) hb18) h0) h0 (fun b22 hb22 => ?_)
            refine FJ_ck ?_
            refine FJ_nn (Fr_sI (Fr_sI (Fr_sI (Fr_sI (Fr_sI hFM10 hb12) hb15) hb18) h0) hb22) h0 (fun b25 hb25 => ?_)
            refine FJ_ck ?_
            refine FJ_bd hT (Fr_sI (Fr_sI (Fr_sI (Fr_sI (Fr_sI (Fr_sI hFM10 hb12) hb15) hb18) h0) hb22) hb25) (fun gC gT => fj_Mod_outOf gC gT _ h0 _) (fun r28 M29 hFM29 => ?_)
            exact FJ_leaf hFM29
theorem nj_Mod_issue (M : Mm) (a0 : Nat) (a1 : Int32) (a2 : Int32) (a3 : Int32) (a4 : Int32) : NJ M (Mod_issue M a0 a1 a2 a3 a4) := by
  unfold Mod_issue
  refine NJ_ck ?_
  refine NJ_bd Sm.rf (nj_Mod_isStore _ _ _) (fun r2 M3 hSM3 => ?_)
  refine NJ_if ?_ ?_
  · exact NJ_leaf hSM3
  · refine NJ_ck ?_
    refine NJ_bd hSM3 (nj_Mod_isPerson _ _ _) (fun r5 M6 hSM6 => ?_)
    refine NJ_if ?_ ?_
    · exact NJ_leaf hSM6
    · refine NJ_bd hSM6 (nj_Mod_in _ _ _ _) (fun r7 M8 hSM8 => ?_)
      refine NJ_if ?_ ?_
      · exact NJ_leaf hSM8
      · refine NJ_bd hSM8 (nj_Mod_in _ _ _ _) (fun r9 M10 hSM10 => ?_)
        refine NJ_if ?_ ?_
        · exact NJ_leaf hSM10
        · refine NJ_ck ?_
          refine NJ_if ?_ ?_
          · exact NJ_leaf hSM10
          · refine NJ_nn (fun b12 => ?_)
            refine NJ_ck ?_
            refine NJ_nn (fun b15 => ?_)
            refine NJ_ck ?_
            refine NJ_nn (fun b18 => ?_)
            refine NJ_ck ?_
            refine NJ_nn (fun b22 => ?_)
            refine NJ_ck ?_
            refine NJ_nn (fun b25 => ?_)
            refine NJ_ck ?_
            refine NJ_bd (Sm_sI (Sm_sI (Sm_sI (Sm_sI (Sm_sI (Sm_sI hSM10)))))) (nj_Mod_outOf _ _ _) (fun r28 M29 hSM29 => ?_)
            exact NJ_leaf hSM29
theorem fj_Mod_give {D : Nat → Prop} {M : Mm} (hC : Cl D M) (hT : Tp D M) (a0 : Nat) (h0 : D a0) (a1 : Int32) (a2 : Int32) (a3 : Int32) (a4 : Int32) : FJ D M (Mod_give M a0 a1 a2 a3 a4) := by
  unfold Mod_give
  refine FJ_ck ?_
  refine FJ_bd hT (Fr.rf hC) (fun gC gT => fj_Mod_isPerson gC gT _ h0 _) (fun r2 M3 hFM3 => ?_)
  refine FJ_if ?_ ?_
  · exact FJ_leaf hFM3
  · refine FJ_ck ?_
    refine FJ_bd hT hFM3 (fun gC gT => fj_Mod_isPerson gC gT _ h0 _) (fun r5 M6 hFM6 => ?_)
    refine FJ_if ?_ ?_
    · exact FJ_leaf hFM6
    · refine FJ_ck ?_
      refine FJ_bd hT hFM6 (fun gC gT => fj_Mod_isStore gC gT _ h0 _) (fun r8 M9 hFM9 => ?_)
      refine FJ_if ?_ ?_
      · exact FJ_leaf hFM9
      · refine FJ_if ?_ ?_
        · exact FJ_leaf hFM9
        · refine FJ_ck ?_
          refine FJ_nn hFM9 h0 (fun b11 hb11 => ?_)
          refine FJ_ck ?_
          refine FJ_if ?_ ?_
          · refine FJ_nn hFM9 h0 (fun b13 hb13 => ?_)
            refine FJ_ck ?_
            refine FJ_nn (Fr_sI hFM9 hb13) h0 (fun b16 hb16 => ?_)
            refine FJ_ck ?_
            exact FJ_leaf (Fr_sI (Fr_sI hFM9 hb13) hb16)
          · exact FJ_leaf hFM9
theorem nj_Mod_give (M : Mm) (a0 : Nat) (a1 : Int32) (a2 : Int32) (a3 : Int32) (a4 : Int32) : NJ M (Mod_give M a0 a1 a2 a3 a4) := by
  unfold Mod_give
  refine NJ_ck ?_
  refine NJ_bd Sm.rf (nj_Mod_isPerson _ _ _) (fun r2 M3 hSM3 => ?_)
  refine NJ_if ?_ ?_
  · exact NJ_leaf hSM3
  · refine NJ_ck ?_
    refine NJ_bd hSM3 (nj_Mod_isPerson _ _ _) (fun r5 M6 hSM6 => ?_)
    refine NJ_if ?_ ?_
    · exact NJ_leaf hSM6
    · refine NJ_ck ?_
      refine NJ_bd hSM6 (nj_Mod_isStore _ _ _) (fun r8 M9 hSM9 => ?_)
      refine NJ_if ?_ ?_
      · exact NJ_leaf hSM9
      · refine NJ_if ?_ ?_
        · exact NJ_leaf hSM9
        · refine NJ_ck ?_
          refine NJ_nn (fun b11 => ?_)
          refine NJ_ck ?_
          refine NJ_if ?_ ?_
          · refine NJ_nn (fun b13 => ?_)
            refine NJ_ck ?_
            refine NJ_nn (fun b16 => ?_)
            refine NJ_ck ?_
            exact NJ_leaf (Sm_sI (Sm_sI hSM9))
          · exact NJ_leaf hSM9
theorem fj_Mod_min {D : Nat → Prop} {M : Mm} (hC : Cl D M) (hT : Tp D M) (a0 : Int32) (a1 : Int32) : FJ D M (Mod_min M a0 a1) := by
  unfold Mod_min
  refine FJ_if ?_ ?_
  · exact FJ_leaf (Fr.rf hC)
  · exact FJ_leaf (Fr.rf hC)
theorem nj_Mod_min (M : Mm) (a0 : Int32) (a1 : Int32) : NJ M (Mod_min M a0 a1) := by
  unfold Mod_min
  refine NJ_if ?_ ?_
  · exact NJ_leaf Sm.rf
  · exact NJ_leaf Sm.rf
theorem fj_Mod_serves_J114 {D : Nat → Prop} {M0 : Mm} (hT : Tp D M0) (k4 : Nat → Int32 → Int32 → Int32 → Mm → Option (Int32 × Mm)) (hk4 : ∀ (x0 : Nat) (hx0 : D x0) (x1 : Int32) (x2 : Int32) (x3 : Int32) (M : Mm) (hF : Fr D M0 M), FJ D M0 (k4 x0 x1 x2 x3 M)) (x0 : Nat) (hx0 : D x0) (x1 : Int32) (x2 : Int32) (x3 : Int32) (M : Mm) (hF : Fr D M0 M) : FJ D M0 (Mod_serves_J114 k4 x0 x1 x2 x3 M) := by
  unfold Mod_serves_J114
  exact hk4 _ hx0 _ _ _ _ hF
theorem nj_Mod_serves_J114 {M0 : Mm} (k4 : Nat → Int32 → Int32 → Int32 → Mm → Option (Int32 × Mm)) (hk4 : ∀ (x0 : Nat) (x1 : Int32) (x2 : Int32) (x3 : Int32) (M : Mm) (hS : Sm M0 M), NJ M0 (k4 x0 x1 x2 x3 M)) (x0 : Nat) (x1 : Int32) (x2 : Int32) (x3 : Int32) (M : Mm) (hS : Sm M0 M) : NJ M0 (Mod_serves_J114 k4 x0 x1 x2 x3 M) := by
  unfold Mod_serves_J114
  exact hk4 _ _ _ _ _ hS
theorem fj_Mod_serves_B4 {D : Nat → Prop} {M0 : Mm} (hT : Tp D M0) (k4 : Nat → Int32 → Int32 → Int32 → Mm → Option (Int32 × Mm)) (hk4 : ∀ (x0 : Nat) (hx0 : D x0) (x1 : Int32) (x2 : Int32) (x3 : Int32) (M : Mm) (hF : Fr D M0 M), FJ D M0 (k4 x0 x1 x2 x3 M)) (x0 : Nat) (hx0 : D x0) (x1 : Int32) (x2 : Int32) (x3 : Int32) (M : Mm) (hF : Fr D M0 M) : FJ D M0 (Mod_serves_B4 k4 x0 x1 x2 x3 M) := by
  unfold Mod_serves_B4
  refine FJ_ck ?_
  refine FJ_if ?_ ?_
  · exact FJ_leaf hF
  · refine FJ_nn hF hx0 (fun b2 hb2 => ?_)
    refine FJ_ck ?_
    refine FJ_if ?_ ?_
    · exact FJ_leaf hF
    · refine FJ_nn hF hx0 (fun b4 hb4 => ?_)
      refine FJ_ck ?_
      refine FJ_if ?_ ?_
      · refine FJ_nn hF hx0 (fun b7 hb7 => ?_)
        refine FJ_ck ?_
        refine FJ_if ?_ ?_
        · exact fj_Mod_serves_J114 hT k4 hk4 _ hx0 _ _ _ _ hF
        · refine FJ_nn hF hx0 (fun b9 hb9 => ?_)
          refine FJ_ck ?_
          refine FJ_nn hF hx0 (fun b11 hb11 => ?_)
          refine FJ_ck ?_
          refine FJ_bd hT hF (fun gC gT => fj_Mod_min gC gT _ _) (fun r13 M14 hFM14 => ?_)
          refine FJ_ck ?_
          refine FJ_nn hFM14 hx0 (fun b16 hb16 => ?_)
          refine FJ_ck ?_
          refine FJ_nn (Fr_sI hFM14 hb16) hx0 (fun b19 hb19 => ?_)
          refine FJ_ck ?_
          refine FJ_nn (Fr_sI (Fr_sI hFM14 hb16) hb19) hx0 (fun b22 hb22 => ?_)
          refine FJ_nn (Fr_sI (Fr_sI hFM14 hb16) hb19) hx0 (fun b23 hb23 => ?_)
          refine FJ_ck ?_
          refine FJ_ck ?_
          refine FJ_nn (Fr_sI (Fr_sI (Fr_sI hFM14 hb16) hb19) hb22) hx0 (fun b27 hb27 => ?_)
          refine FJ_ck ?_
          exact fj_Mod_serves_J114 hT k4 hk4 _ hx0 _ _ _ _ (Fr_sI (Fr_sI (Fr_sI (Fr_sI hFM14 hb16) hb19) hb22) hb27)
      · exact fj_Mod_serves_J114 hT k4 hk4 _ hx0 _ _ _ _ hF
theorem nj_Mod_serves_B4 {M0 : Mm} (k4 : Nat → Int32 → Int32 → Int32 → Mm → Option (Int32 × Mm)) (hk4 : ∀ (x0 : Nat) (x1 : Int32) (x2 : Int32) (x3 : Int32) (M : Mm) (hS : Sm M0 M), NJ M0 (k4 x0 x1 x2 x3 M)) (x0 : Nat) (x1 : Int32) (x2 : Int32) (x3 : Int32) (M : Mm) (hS : Sm M0 M) : NJ M0 (Mod_serves_B4 k4 x0 x1 x2 x3 M) := by
  unfold Mod_serves_B4
  refine NJ_ck ?_
  refine NJ_if ?_ ?_
  · exact NJ_leaf hS
  · refine NJ_nn (fun b2 => ?_)
    refine NJ_ck ?_
    refine NJ_if ?_ ?_
    · exact NJ_leaf hS
    · refine NJ_nn (fun b4 => ?_)
      refine NJ_ck ?_
      refine NJ_if ?_ ?_
      · refine NJ_nn (fun b7 => ?_)
        refine NJ_ck ?_
        refine NJ_if ?_ ?_
        · exact nj_Mod_serves_J114 k4 hk4 _ _ _ _ _ hS
        · refine NJ_nn (fun b9 => ?_)
          refine NJ_ck ?_
          refine NJ_nn (fun b11 => ?_)
          refine NJ_ck ?_
          refine NJ_bd hS (nj_Mod_min _ _ _) (fun r13 M14 hSM14 => ?_)
          refine NJ_ck ?_
          refine NJ_nn (fun b16 => ?_)
          refine NJ_ck ?_
          refine NJ_nn (fun b19 => ?_)
          refine NJ_ck ?_
          refine NJ_nn (fun b22 => ?_)
          refine NJ_nn (fun b23 => ?_)
          refine NJ_ck ?_
          refine NJ_ck ?_
          refine NJ_nn (fun b27 => ?_)
          refine NJ_ck ?_
          exact nj_Mod_serves_J114 k4 hk4 _ _ _ _ _ (Sm_sI (Sm_sI (Sm_sI (Sm_sI hSM14))))
      · exact nj_Mod_serves_J114 k4 hk4 _ _ _ _ _ hS
theorem fj_Mod_serves_L4 {D : Nat → Prop} {M0 : Mm} (hT : Tp D M0) : ∀ (n : Nat) (x0 : Nat) (hx0 : D x0) (x1 : Int32) (x2 : Int32) (x3 : Int32) (M : Mm) (hF : Fr D M0 M), FJ D M0 (Mod_serves_L4 n x0 x1 x2 x3 M) := by
  intro n
  induction n with
  | zero => intros; exact FJ_none
  | succ n ih => intro x0 hx0 x1 x2 x3 M hF; exact fj_Mod_serves_B4 hT _ ih x0 hx0 x1 x2 x3 M hF
theorem nj_Mod_serves_L4 {M0 : Mm} : ∀ (n : Nat) (x0 : Nat) (x1 : Int32) (x2 : Int32) (x3 : Int32) (M : Mm) (hS : Sm M0 M), NJ M0 (Mod_serves_L4 n x0 x1 x2 x3 M) := by
  intro n
  induction n with
  | zero => intros; exact NJ_none
  | succ n ih => intro x0 x1 x2 x3 M hS; exact nj_Mod_serves_B4 _ ih x0 x1 x2 x3 M hS
theorem fj_Mod_serves {D : Nat → Prop} {M : Mm} (hC : Cl D M) (hT : Tp D M) (a0 : Nat) (h0 : D a0) (a1 : Int32) : FJ D M (Mod_serves M a0 a1) := by
  unfold Mod_serves
  exact fj_Mod_serves_L4 hT fu _ h0 _ _ _ _ (Fr.rf hC)
theorem nj_Mod_serves (M : Mm) (a0 : Nat) (a1 : Int32) : NJ M (Mod_serves M a0 a1) := by
  unfold Mod_serves
  exact nj_Mod_serves_L4 fu _ _ _ _ _ Sm.rf
