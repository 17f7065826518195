theorem fj_Scribe_readStatement_J30 {D : Nat → Prop} {M0 : Mm} (hT : Tp D M0) (x0 : Nat) (hx0 : D x0) (M : Mm) (hF : Fr D M0 M) : FJ D M0 (Scribe_readStatement_J30 x0 M) := by
  unfold Scribe_readStatement_J30
  refine FJ_ck ?_
  refine FJ_bd hT hF (fun gC gT => fj_Scribe_takeOf gC gT _ hx0 _ _) (fun r5 M6 hFM6 => ?_)
  refine FJ_if ?_ ?_
  · exact FJ_leaf hFM6
  · refine FJ_ck ?_
    refine FJ_bd hT hFM6 (fun gC gT => fj_Scribe_readValue gC gT _ hx0 _) (fun r8 M9 hFM9 => ?_)
    refine FJ_if ?_ ?_
    · exact FJ_leaf hFM9
    · refine FJ_ck ?_
      refine FJ_bd hT hFM9 (fun gC gT => fj_Scribe_take gC gT _ hx0 _) (fun r11 M12 hFM12 => ?_)
      refine FJ_if ?_ ?_
      · exact FJ_leaf hFM12
      · refine FJ_ck ?_
        refine FJ_nn hFM12 hx0 (fun b14 hb14 => ?_)
        refine FJ_ck ?_
        refine FJ_nn (Fr_sI hFM12 hb14) hx0 (fun b17 hb17 => ?_)
        refine FJ_ck ?_
        refine FJ_nn (Fr_sI (Fr_sI hFM12 hb14) hb17) hx0 (fun b20 hb20 => ?_)
        refine FJ_ck ?_
        exact FJ_leaf (Fr_sI (Fr_sI (Fr_sI (Fr_sI hFM12 hb14) hb17) hb20) hx0)
theorem nj_Scribe_readStatement_J30 {M0 : Mm} (x0 : Nat) (M : Mm) (hS : Sm M0 M) : NJ M0 (Scribe_readStatement_J30 x0 M) := by
  unfold Scribe_readStatement_J30
  refine NJ_ck ?_
  refine NJ_bd hS (nj_Scribe_takeOf _ _ _ _) (fun r5 M6 hSM6 => ?_)
  refine NJ_if ?_ ?_
  · exact NJ_leaf hSM6
  · refine NJ_ck ?_
    refine NJ_bd hSM6 (nj_Scribe_readValue _ _ _) (fun r8 M9 hSM9 => ?_)
    refine NJ_if ?_ ?_
    · exact NJ_leaf hSM9
    · refine NJ_ck ?_
      refine NJ_bd hSM9 (nj_Scribe_take _ _ _) (fun r11 M12 hSM12 => ?_)
      refine NJ_if ?_ ?_
      · exact NJ_leaf hSM12
      · refine NJ_ck ?_
        refine NJ_nn (fun b14 => ?_)
        refine NJ_ck ?_
        refine NJ_nn (fun b17 => ?_)
        refine NJ_ck ?_
        refine NJ_nn (fun b20 => ?_)
        refine NJ_ck ?_
        exact NJ_leaf (Sm_sI (Sm_sI (Sm_sI (Sm_sI hSM12))))
theorem fj_Scribe_readStatement {D : Nat → Prop} {M : Mm} (hC : Cl D M) (hT : Tp D M) (a0 : Nat) (h0 : D a0) : FJ D M (Scribe_readStatement M a0) := by
  unfold Scribe_readStatement
  refine FJ_ck ?_
  refine FJ_if ?_ ?_
  · refine FJ_bd hT (Fr.rf hC) (fun gC gT => fj_Scribe_take gC gT _ h0 _) (fun r2 M3 hFM3 => ?_)
    refine FJ_if ?_ ?_
    · exact fj_Scribe_readStatement_J30 hT _ h0 _ hFM3
    · refine FJ_ck ?_
      refine FJ_bd hT hFM3 (fun gC gT => fj_Scribe_tC gC gT _ h0 _) (fun r25 M26 hFM26 => ?_)
      refine FJ_if ?_ ?_
      · exact FJ_leaf hFM26
      · exact fj_Scribe_readStatement_J30 hT _ h0 _ hFM26
  · exact FJ_leaf (Fr.rf hC)
theorem nj_Scribe_readStatement (M : Mm) (a0 : Nat) : NJ M (Scribe_readStatement M a0) := by
  unfold Scribe_readStatement
  refine NJ_ck ?_
  refine NJ_if ?_ ?_
  · refine NJ_bd Sm.rf (nj_Scribe_take _ _ _) (fun r2 M3 hSM3 => ?_)
    refine NJ_if ?_ ?_
    · exact nj_Scribe_readStatement_J30 _ _ hSM3
    · refine NJ_ck ?_
      refine NJ_bd hSM3 (nj_Scribe_tC _ _ _) (fun r25 M26 hSM26 => ?_)
      refine NJ_if ?_ ?_
      · exact NJ_leaf hSM26
      · exact nj_Scribe_readStatement_J30 _ _ hSM26
  · exact NJ_leaf Sm.rf
theorem fj_Scribe_placeReached {D : Nat → Prop} {M : Mm} (hC : Cl D M) (hT : Tp D M) (a0 : Nat) (h0 : D a0) : FJ D M (Scribe_placeReached M a0) := by
  unfold Scribe_placeReached
  refine FJ_ck ?_
  refine FJ_nn (Fr.rf hC) h0 (fun b2 hb2 => ?_)
  refine FJ_bd hT (Fr.rf hC) (fun gC gT => fj_Math_min_I gC gT _ _) (fun r3 M4 hFM4 => ?_)
  refine FJ_ck ?_
  exact FJ_leaf hFM4
theorem nj_Scribe_placeReached (M : Mm) (a0 : Nat) : NJ M (Scribe_placeReached M a0) := by
  unfold Scribe_placeReached
  refine NJ_ck ?_
  refine NJ_nn (fun b2 => ?_)
  refine NJ_bd Sm.rf (nj_Math_min_I _ _ _) (fun r3 M4 hSM4 => ?_)
  refine NJ_ck ?_
  exact NJ_leaf hSM4
theorem fj_Store_new {D : Nat → Prop} {M : Mm} (hC : Cl D M) (hT : Tp D M) (a0 : Nat) (h0 : D a0) : FJ D M (Store_new M a0) := by
  unfold Store_new
  refine FJ_ck ?_
  refine FJ_ck ?_
  refine FJ_ck ?_
  refine FJ_ck ?_
  refine FJ_ck ?_
  exact FJ_leaf (Fr_sRs (Fr_nw hT (Fr_sRs (Fr_nw hT (Fr_sRs (Fr_nw hT (Fr_sRs (Fr_nw hT (Fr_sRs (Fr_nw hT (Fr.rf hC)) h0 (hT _ (Fr.z (Fr.rf hC))))) h0 (hT _ (Fr.z (Fr_sRs (Fr_nw hT (Fr.rf hC)) h0 (hT _ (Fr.z (Fr.rf hC)))))))) h0 (hT _ (Fr.z (Fr_sRs (Fr_nw hT (Fr_sRs (Fr_nw hT (Fr.rf hC)) h0 (hT _ (Fr.z (Fr.rf hC))))) h0 (hT _ (Fr.z (Fr_sRs (Fr_nw hT (Fr.rf hC)) h0 (hT _ (Fr.z (Fr.rf hC))))))))))) h0 (hT _ (Fr.z (Fr_sRs (Fr_nw hT (Fr_sRs (Fr_nw hT (Fr_sRs (Fr_nw hT (Fr.rf hC)) h0 (hT _ (Fr.z (Fr.rf hC))))) h0 (hT _ (Fr.z (Fr_sRs (Fr_nw hT (Fr.rf hC)) h0 (hT _ (Fr.z (Fr.rf hC)))))))) h0 (hT _ (Fr.z (Fr_sRs (Fr_nw hT (Fr_sRs (Fr_nw hT (Fr.rf hC)) h0 (hT _ (Fr.z (Fr.rf hC))))) h0 (hT _ (Fr.z (Fr_sRs (Fr_nw hT (Fr.rf hC)) h0 (hT _ (Fr.z (Fr.rf hC)))))))))))))) h0 (hT _ (Fr.z (Fr_sRs (Fr_nw hT (Fr_sRs (Fr_nw hT (Fr_sRs (Fr_nw hT (Fr_sRs (Fr_nw hT (Fr.rf hC)) h0 (hT _ (Fr.z (Fr.rf hC))))) h0 (hT _ (Fr.z (Fr_sRs (Fr_nw hT (Fr.rf hC)) h0 (hT _ (Fr.z (Fr.rf hC)))))))) h0 (hT _ (Fr.z (Fr_sRs (Fr_nw hT (Fr_sRs (Fr_nw hT (Fr.rf hC)) h0 (hT _ (Fr.z (Fr.rf hC))))) h0 (hT _ (Fr.z (Fr_sRs (Fr_nw hT (Fr.rf hC)) h0 (hT _ (Fr.z (Fr.rf hC))))))))))) h0 (hT _ (Fr.z (Fr_sRs (Fr_nw hT (Fr_sRs (Fr_nw hT (Fr_sRs (Fr_nw hT (Fr.rf hC)) h0 (hT _ (Fr.z (Fr.rf hC))))) h0 (hT _ (Fr.z (Fr_sRs (Fr_nw hT (Fr.rf hC)) h0 (hT _ (Fr.z (Fr.rf hC)))))))) h0 (hT _ (Fr.z (Fr_sRs (Fr_nw hT (Fr_sRs (Fr_nw hT (Fr.rf hC)) h0 (hT _ (Fr.z (Fr.rf hC))))) h0 (hT _ (Fr.z (Fr_sRs (Fr_nw hT (Fr.rf hC)) h0 (hT _ (Fr.z (Fr.rf hC))))))))))))))))
theorem fj_Store_addIssue {D : Nat → Prop} {M : Mm} (hC : Cl D M) (hT : Tp D M) (a0 : Nat) (h0 : D a0) (a1 : Int32) (a2 : Int32) : FJ D M (Store_addIssue M a0 a1 a2) := by
  unfold Store_addIssue
  refine FJ_ck ?_
  refine FJ_if ?_ ?_
  · exact FJ_leaf (Fr.rf hC)
  · refine FJ_nn (Fr.rf hC) h0 (fun b2 hb2 => ?_)
    refine FJ_ck ?_
    refine FJ_nn (Fr_sI (Fr.rf hC) hb2) h0 (fun b5 hb5 => ?_)
    refine FJ_ck ?_
    exact FJ_leaf (Fr_sI (Fr_sI (Fr_sI (Fr_sI (Fr.rf hC) hb2) hb5) h0) h0)
theorem nj_Store_addIssue (M : Mm) (a0 : Nat) (a1 : Int32) (a2 : Int32) : NJ M (Store_addIssue M a0 a1 a2) := by
  unfold Store_addIssue
  refine NJ_ck ?_
  refine NJ_if ?_ ?_
  · exact NJ_leaf Sm.rf
  · refine NJ_nn (fun b2 => ?_)
    refine NJ_ck ?_
    refine NJ_nn (fun b5 => ?_)
    refine NJ_ck ?_
    exact NJ_leaf (Sm_sI (Sm_sI (Sm_sI (Sm_sI Sm.rf))))
theorem fj_Store_out {D : Nat → Prop} {M : Mm} (hC : Cl D M) (hT : Tp D M) (a0 : Nat) (h0 : D a0) : FJ D M (Store_out M a0) := by
  unfold Store_out
  refine FJ_ck ?_
  exact FJ_leaf (Fr.rf hC)
theorem nj_Store_out (M : Mm) (a0 : Nat) : NJ M (Store_out M a0) := by
  unfold Store_out
  refine NJ_ck ?_
  exact NJ_leaf Sm.rf
theorem fj_Store_addWait {D : Nat → Prop} {M : Mm} (hC : Cl D M) (hT : Tp D M) (a0 : Nat) (h0 : D a0) (a1 : Int32) (a2 : Int32) (a3 : Int32) : FJ D M (Store_addWait M a0 a1 a2 a3) := by
  unfold Store_addWait
  refine FJ_ck ?_
  refine FJ_if ?_ ?_
  · exact FJ_leaf (Fr.rf hC)
  · refine FJ_nn (Fr.rf hC) h0 (fun b2 hb2 => ?_)
    refine FJ_ck ?_
    refine FJ_nn (Fr_sI (Fr.rf hC) hb2) h0 (fun b5 hb5 => ?_)
    refine FJ_ck ?_
    refine FJ_nn (Fr_sI (Fr_sI (Fr.rf hC) hb2) hb5) h0 (fun b8 hb8 => ?_)
    refine FJ_ck ?_
    exact FJ_leaf (Fr_sI (Fr_sI (Fr_sI (Fr_sI (Fr_sI (Fr_sI (Fr.rf hC) hb2) hb5) hb8) h0) h0) h0)
theorem nj_Store_addWait (M : Mm) (a0 : Nat) (a1 : Int32) (a2 : Int32) (a3 : Int32) : NJ M (Store_addWait M a0 a1 a2 a3) := by
  unfold Store_addWait
  refine NJ_ck ?_
  refine NJ_if ?_ ?_
  · exact NJ_leaf Sm.rf
  · refine NJ_nn (fun b2 => ?_)
    refine NJ_ck ?_
    refine NJ_nn (fun b5 => ?_)
    refine NJ_ck ?_
    refine NJ_nn (fun b8 => ?_)
    refine NJ_ck ?_
    exact NJ_leaf (Sm_sI (Sm_sI (Sm_sI (Sm_sI (Sm_sI (Sm_sI Sm.rf))))))
theorem fj_Store_serve_J118 {D : Nat → Prop} {M0 : Mm} (hT : Tp D M0) (k10 : Nat → Nat → Int32 → Int32 → Mm → Option (Int32 × Mm)) (hk10 : ∀ (x0 : Nat) (hx0 : D x0) (x1 : Nat) (hx1 : D x1) (x2 : Int32) (x3 : Int32) (M : Mm) (hF : Fr D M0 M), FJ D M0 (k10 x0 x1 x2 x3 M)) (x0 : Nat) (hx0 : D x0) (x1 : Nat) (hx1 : D x1) (x2 : Int32) (x3 : Int32) (M : Mm) (hF : Fr D M0 M) : FJ D M0 (Store_serve_J118 k10 x0 x1 x2 x3 M) := by
  unfold Store_serve_J118
  exact hk10 _ hx0 _ hx1 _ _ _ hF
theorem nj_Store_serve_J118 {M0 : Mm} (k10 : Nat → Nat → Int32 → Int32 → Mm → Option (Int32 × Mm)) (hk10 : ∀ (x0 : Nat) (x1 : Nat) (x2 : Int32) (x3 : Int32) (M : Mm) (hS : Sm M0 M), NJ M0 (k10 x0 x1 x2 x3 M)) (x0 : Nat) (x1 : Nat) (x2 : Int32) (x3 : Int32) (M : Mm) (hS : Sm M0 M) : NJ M0 (Store_serve_J118 k10 x0 x1 x2 x3 M) := by
  unfold Store_serve_J118
  exact hk10 _ _ _ _ _ hS
theorem fj_Store_serve_B10 {D : Nat → Prop} {M0 : Mm} (hT : Tp D M0) (k10 : Nat → Nat → Int32 → Int32 → Mm → Option (Int32 × Mm)) (hk10 : ∀ (x0 : Nat) (hx0 : D x0) (x1 : Nat) (hx1 : D x1) (x2 : Int32) (x3 : Int32) (M : Mm) (hF : Fr D M0 M), FJ D M0 (k10 x0 x1 x2 x3 M)) (x0 : Nat) (hx0 : D x0) (x1 : Nat) (hx1 : D x1) (x2 : Int32) (x3 : Int32) (M : Mm) (hF : Fr D M0 M) : FJ D M0 (Store_serve_B10 k10 x0 x1 x2 x3 M) := by
  unfold Store_serve_B10
  refine FJ_ck ?_
  refine FJ_if ?_ ?_
  · exact FJ_leaf hF
  · refine FJ_if ?_ ?_
    · exact FJ_leaf hF
    · refine FJ_nn hF hx0 (fun b5 hb5 => ?_)
      refine FJ_ck ?_
      refine FJ_bd hT hF (fun gC gT => fj_Math_min_I gC gT _ _) (fun r7 M8 hFM8 => ?_)
      refine FJ_ck ?_
      refine FJ_nn (Fr_sI (Fr_sI (Fr_sI hFM8 hx0) hx0) hx0) hx0 (fun b13 hb13 => ?_)
      refine FJ_ck ?_
      refine FJ_nn (Fr_sI (Fr_sI (Fr_sI (Fr_sI hFM8 hx0) hx0) hx0) hb13) hx0 (fun b16 hb16 => ?_)
      refine FJ_ck ?_
      refine FJ_ck ?_
      refine FJ_nn (Fr_sI (Fr_sI (Fr_sI (Fr_sI hFM8 hx0) hx0) hx0) hb13) hx1 (fun b19 hb19 => ?_)
      refine FJ_ck ?_
      refine FJ_nn (Fr_sI (Fr_sI (Fr_sI (Fr_sI (Fr_sI hFM8 hx0) hx0) hx0) hb13) hb19) hx0 (fun b22 hb22 => ?_)
      refine FJ_ck ?_
      refine FJ_if ?_ ?_
      · exact fj_Store_serve_J118 hT k10 hk10 _ hx0 _ hx1 _ _ _ (Fr_sI (Fr_sI (Fr_sI (Fr_sI (Fr_sI (Fr_sI hFM8 hx0) hx0) hx0) hb13) hb19) hx0)
      · exact fj_Store_serve_J118 hT k10 hk10 _ hx0 _ hx1 _ _ _ (Fr_sI (Fr_sI (Fr_sI (Fr_sI (Fr_sI hFM8 hx0) hx0) hx0) hb13) hb19)
theorem nj_Store_serve_B10 {M0 : Mm} (k10 : Nat → Nat → Int32 → Int32 → Mm → Option (Int32 × Mm)) (hk10 : ∀ (x0 : Nat) (x1 : Nat) (x2 : Int32) (x3 : Int32) (M : Mm) (hS : Sm M0 M), NJ M0 (k10 x0 x1 x2 x3 M)) (x0 : Nat) (x1 : Nat) (x2 : Int32) (x3 : Int32) (M : Mm) (hS : Sm M0 M) : NJ M0 (Store_serve_B10 k10 x0 x1 x2 x3 M) := by
  unfold Store_serve_B10
  refine NJ_ck ?_
  refine NJ_if ?_ ?_
  · exact NJ_leaf hS
  · refine NJ_if ?_ ?_
    · exact NJ_leaf hS
    · refine NJ_nn (fun b5 => ?_)
      refine NJ_ck ?_
      refine NJ_bd hS (nj_Math_min_I _ _ _) (fun r7 M8 hSM8 => ?_)
      refine NJ_ck ?_
      refine NJ_nn (fun b13 => ?_)
      refine NJ_ck ?_
      refine NJ_nn (fun b16 => ?_)
      refine NJ_ck ?_
      refine NJ_ck ?_
      refine NJ_nn (fun b19 => ?_)
      refine NJ_ck ?_
      refine NJ_nn (fun b22 => ?_)
      refine NJ_ck ?_
      refine NJ_if ?_ ?_
      · exact nj_Store_serve_J118 k10 hk10 _ _ _ _ _ (Sm_sI (Sm_sI (Sm_sI (Sm_sI (Sm_sI (Sm_sI hSM8))))))
      · exact nj_Store_serve_J118 k10 hk10 _ _ _ _ _ (Sm_sI (Sm_sI (Sm_sI (Sm_sI (Sm_sI hSM8)))))
theorem fj_Store_serve_L10 {D : Nat → Prop} {M0 : Mm} (hT : Tp D M0) : ∀ (n : Nat) (x0 : Nat) (hx0 : D x0) (x1 : Nat) (hx1 : D x1) (x2 : Int32) (x3 : Int32) (M : Mm) (hF : Fr D M0 M), FJ D M0 (Store_serve_L10 n x0 x1 x2 x3 M) := by
  intro n
  induction n with
  | zero => intros; exact FJ_none
  | succ n ih => intro x0 hx0 x1 hx1 x2 x3 M hF; exact fj_Store_serve_B10 hT _ ih x0 hx0 x1 hx1 x2 x3 M hF
theorem nj_Store_serve_L10 {M0 : Mm} : ∀ (n : Nat) (x0 : Nat) (x1 : Nat) (x2 : Int32) (x3 : Int32) (M : Mm) (hS : Sm M0 M), NJ M0 (Store_serve_L10 n x0 x1 x2 x3 M) := by
  intro n
  induction n with
  | zero => intros; exact NJ_none
  | succ n ih => intro x0 x1 x2 x3 M hS; exact nj_Store_serve_B10 _ ih x0 x1 x2 x3 M hS
theorem fj_Store_serve {D : Nat → Prop} {M : Mm} (hC : Cl D M) (hT : Tp D M) (a0 : Nat) (h0 : D a0) (a1 : Nat) (h1 : D a1) : FJ D M (Store_serve M a0 a1) := by
  unfold Store_serve
  refine FJ_ck ?_
  exact fj_Store_serve_L10 hT fu _ h0 _ h1 _ _ _ (Fr.rf hC)
theorem nj_Store_serve (M : Mm) (a0 : Nat) (a1 : Nat) : NJ M (Store_serve M a0 a1) := by
  unfold Store_serve
  refine NJ_ck ?_
  exact nj_Store_serve_L10 fu _ _ _ _ _ Sm.rf
theorem fj_Store_spoilRice {D : Nat → Prop} {M : Mm} (hC : Cl D M) (hT : Tp D M) (a0 : Nat) (h0 : D a0) (a1 : Int32) : FJ D M (Store_spoilRice M a0 a1) := by
  unfold Store_spoilRice
  refine FJ_ck ?_
  exact FJ_leaf (Fr_sI (Fr_sI (Fr.rf hC) h0) h0)
theorem nj_Store_spoilRice (M : Mm) (a0 : Nat) (a1 : Int32) : NJ M (Store_spoilRice M a0 a1) := by
  unfold Store_spoilRice
  refine NJ_ck ?_
  exact NJ_leaf (Sm_sI (Sm_sI Sm.rf))
theorem fj_Store_overAsKnown_J31 {D : Nat → Prop} {M0 : Mm} (hT : Tp D M0) (k4 : Nat → Int32 → Int32 → Int32 → Mm → Option (Int32 × Mm)) (hk4 : ∀ (x0 : Nat) (hx0 : D x0) (x1 : Int32) (x2 : Int32) (x3 : Int32) (M : Mm) (hF : Fr D M0 M), FJ D M0 (k4 x0 x1 x2 x3 M)) (x0 : Nat) (hx0 : D x0) (x1 : Int32) (x2 : Int32) (x3 : Int32) (M : Mm) (hF : Fr D M0 M) : FJ D M0 (Store_overAsKnown_J31 k4 x0 x1 x2 x3 M) := by
  unfold Store_overAsKnown_J31
  exact hk4 _ hx0 _ _ _ _ hF
theorem nj_Store_overAsKnown_J31 {M0 : Mm} (k4 : Nat → Int32 → Int32 → Int32 → Mm → Option (Int32 × Mm)) (hk4 : ∀ (x0 : Nat) (x1 : Int32) (x2 : Int32) (x3 : Int32) (M : Mm) (hS : Sm M0 M), NJ M0 (k4 x0 x1 x2 x3 M)) (x0 : Nat) (x1 : Int32) (x2 : Int32) (x3 : Int32) (M : Mm) (hS : Sm M0 M) : NJ M0 (Store_overAsKnown_J31 k4 x0 x1 x2 x3 M) := by
  unfold Store_overAsKnown_J31
  exact hk4 _ _ _ _ _ hS
theorem fj_Store_overAsKnown_B4 {D : Nat → Prop} {M0 : Mm} (hT : Tp D M0) (k4 : Nat → Int32 → Int32 → Int32 → Mm → Option (Int32 × Mm)) (hk4 : ∀ (x0 : Nat) (hx0 : D x0) (x1 : Int32) (x2 : Int32) (x3 : Int32) (M : Mm) (hF : Fr D M0 M), FJ D M0 (k4 x0 x1 x2 x3 M)) (x0 : Nat) (hx0 : D x0) (x1 : Int32) (x2 : Int32) (x3 : Int32) (M : Mm) (hF : Fr D M0 M) : FJ D M0 (Store_overAsKnown_B4 k4 x0 x1 x2 x3 M) := by
  unfold Store_overAsKnown_B4
  refine FJ_ck ?_
  refine FJ_if ?_ ?_
  · refine FJ_bd hT hF (fun gC gT => fj_Math_max_I gC gT _ _) (fun r2 M3 hFM3 => ?_)
    exact FJ_leaf hFM3
  · refine FJ_nn hF hx0 (fun b4 hb4 => ?_)
    refine FJ_ck ?_
    refine FJ_if ?_ ?_
    · exact fj_Store_overAsKnown_J31 hT k4 hk4 _ hx0 _ _ _ _ hF
    · refine FJ_nn hF hx0 (fun b7 hb7 => ?_)
      refine FJ_ck ?_
      exact fj_Store_overAsKnown_J31 hT k4 hk4 _ hx0 _ _ _ _ hF
theorem nj_Store_overAsKnown_B4 {M0 : Mm} (k4 : Nat → Int32 → Int32 → Int32 → Mm → Option (Int32 × Mm)) (hk4 : ∀ (x0 : Nat) (x1 : Int32) (x2 : Int32) (x3 : Int32) (M : Mm) (hS : Sm M0 M), NJ M0 (k4 x0 x1 x2 x3 M)) (x0 : Nat) (x1 : Int32) (x2 : Int32) (x3 : Int32) (M : Mm) (hS : Sm M0 M) : NJ M0 (Store_overAsKnown_B4 k4 x0 x1 x2 x3 M) := by
  unfold Store_overAsKnown_B4
  refine NJ_ck ?_
  refine NJ_if ?_ ?_
  · refine NJ_bd hS (nj_Math_max_I _ _ _) (fun r2 M3 hSM3 => ?_)
    exact NJ_leaf hSM3
  · refine NJ_nn (fun b4 => ?_)
    refine NJ_ck ?_
    refine NJ_if ?_ ?_
    · exact nj_Store_overAsKnown_J31 k4 hk4 _ _ _ _ _ hS
    · refine NJ_nn (fun b7 => ?_)
      refine NJ_ck ?_
      exact nj_Store_overAsKnown_J31 k4 hk4 _ _ _ _ _ hS
theorem fj_Store_overAsKnown_L4 {D : Nat → Prop} {M0 : Mm} (hT : Tp D M0) : ∀ (n : Nat) (x0 : Nat) (hx0 : D x0) (x1 : Int32) (x2 : Int32) (x3 : Int32) (M : Mm) (hF : Fr D M0 M), FJ D M0 (Store_overAsKnown_L4 n x0 x1 x2 x3 M) := by
  intro n
  induction n with
  | zero => intros; exact FJ_none
  | succ n ih => intro x0 hx0 x1 x2 x3 M hF; exact fj_Store_overAsKnown_B4 hT _ ih x0 hx0 x1 x2 x3 M hF
theorem nj_Store_overAsKnown_L4 {M0 : Mm} : ∀ (n : Nat) (x0 : Nat) (x1 : Int32) (x2 : Int32) (x3 : Int32) (M : Mm) (hS : Sm M0 M), NJ M0 (Store_overAsKnown_L4 n x0 x1 x2 x3 M) := by
  intro n
  induction n with
  | zero => intros; exact NJ_none
  | succ n ih => intro x0 x1 x2 x3 M hS; exact nj_Store_overAsKnown_B4 _ ih x0 x1 x2 x3 M hS
theorem fj_Store_overAsKnown {D : Nat → Prop} {M : Mm} (hC : Cl D M) (hT : Tp D M) (a0 : Nat) (h0 : D a0) (a1 : Int32) : FJ D M (Store_overAsKnown M a0 a1) := by
  unfold Store_overAsKnown
  exact fj_Store_overAsKnown_L4 hT fu _ h0 _ _ _ _ (Fr.rf hC)
theorem nj_Store_overAsKnown (M : Mm) (a0 : Nat) (a1 : Int32) : NJ M (Store_overAsKnown M a0 a1) := by
  unfold Store_overAsKnown
  exact nj_Store_overAsKnown_L4 fu _ _ _ _ _ Sm.rf
theorem fj_Store_cannot {D : Nat → Prop} {M : Mm} (hC : Cl D M) (hT : Tp D M) (a0 : Nat) (h0 : D a0) (a1 : Int32) : FJ D M (Store_cannot M a0 a1) := by
  unfold Store_cannot
  refine FJ_ck ?_
  refine FJ_if ?_ ?_
  · exact FJ_leaf (Fr.rf hC)
  · refine FJ_nn (Fr.rf hC) h0 (fun b2 hb2 => ?_)
    refine FJ_ck ?_
    refine FJ_if ?_ ?_
    · exact FJ_leaf (Fr.rf hC)
    · exact FJ_leaf (Fr.rf hC)
theorem nj_Store_cannot (M : Mm) (a0 : Nat) (a1 : Int32) : NJ M (Store_cannot M a0 a1) := by
  unfold Store_cannot
  refine NJ_ck ?_
  refine NJ_if ?_ ?_
  · exact NJ_leaf Sm.rf
  · refine NJ_nn (fun b2 => ?_)
    refine NJ_ck ?_
    refine NJ_if ?_ ?_
    · exact NJ_leaf Sm.rf
    · exact NJ_leaf Sm.rf
theorem fj_Store_firstWaiter {D : Nat → Prop} {M : Mm} (hC : Cl D M) (hT : Tp D M) (a0 : Nat) (h0 : D a0) : FJ D M (Store_firstWaiter M a0) := by
  unfold Store_firstWaiter
  refine FJ_ck ?_
  refine FJ_if ?_ ?_
  · exact FJ_leaf (Fr.rf hC)
  · refine FJ_nn (Fr.rf hC) h0 (fun b2 hb2 => ?_)
    refine FJ_ck ?_
    exact FJ_leaf (Fr.rf hC)
theorem nj_Store_firstWaiter (M : Mm) (a0 : Nat) : NJ M (Store_firstWaiter M a0) := by
  unfold Store_firstWaiter
  refine NJ_ck ?_
  refine NJ_if ?_ ?_
  · exact NJ_leaf Sm.rf
  · refine NJ_nn (fun b2 => ?_)
    refine NJ_ck ?_
    exact NJ_leaf Sm.rf
theorem fj_Store_share {D : Nat → Prop} {M : Mm} (hC : Cl D M) (hT : Tp D M) (a0 : Nat) (h0 : D a0) : FJ D M (Store_share M a0) := by
  unfold Store_share
  refine FJ_ck ?_
  refine FJ_bd hT (Fr.rf hC) (fun gC gT => fj_Store_out gC gT _ h0) (fun r2 M3 hFM3 => ?_)
  refine FJ_if ?_ ?_
  · refine FJ_ck ?_
    refine FJ_ck ?_
    refine FJ_bd hT hFM3 (fun gC gT => fj_Math_min_I gC gT _ _) (fun r6 M7 hFM7 => ?_)
    exact FJ_leaf hFM7
  · exact FJ_leaf hFM3
theorem nj_Store_share (M : Mm) (a0 : Nat) : NJ M (Store_share M a0) := by
  unfold Store_share
  refine NJ_ck ?_
  refine NJ_bd Sm.rf (nj_Store_out _ _) (fun r2 M3 hSM3 => ?_)
  refine NJ_if ?_ ?_
  · refine NJ_ck ?_
    refine NJ_ck ?_
    refine NJ_bd hSM3 (nj_Math_min_I _ _ _) (fun r6 M7 hSM7 => ?_)
    exact NJ_leaf hSM7
  · exact NJ_leaf hSM3
theorem fj_House_new {D : Nat → Prop} {M : Mm} (hC : Cl D M) (hT : Tp D M) (a0 : Nat) (h0 : D a0) : FJ D M (House_new M a0) := by
  unfold House_new
  refine FJ_ck ?_
  refine FJ_ck ?_
  exact FJ_leaf (Fr_sRs (Fr_nw hT (Fr_sRs (Fr_nw hT (Fr.rf hC)) h0 (hT _ (Fr.z (Fr.rf hC))))) h0 (hT _ (Fr.z (Fr_sRs (Fr_nw hT (Fr.rf hC)) h0 (hT _ (Fr.z (Fr.rf hC)))))))
theorem fj_House_latestClose {D : Nat → Prop} {M : Mm} (hC : Cl D M) (hT : Tp D M) (a0 : Nat) (h0 : D a0) : FJ D M (House_latestClose M a0) := by
  unfold House_latestClose
  refine FJ_ck ?_
  refine FJ_if ?_ ?_
  · exact FJ_leaf (Fr.rf hC)
  · refine FJ_nn (Fr.rf hC) h0 (fun b2 hb2 => ?_)
    refine FJ_ck ?_
    exact FJ_leaf (Fr.rf hC)
theorem nj_House_latestClose (M : Mm) (a0 : Nat) : NJ M (House_latestClose M a0) := by
  unfold House_latestClose
  refine NJ_ck ?_
  refine NJ_if ?_ ?_
  · exact NJ_leaf Sm.rf
  · refine NJ_nn (fun b2 => ?_)
    refine NJ_ck ?_
    exact NJ_leaf Sm.rf
theorem fj_House_mark_B12 {D : Nat → Prop} {M0 : Mm} (hT : Tp D M0) (k12 : Nat → Nat → Int32 → Int64 → Int32 → Mm → Option (Unit × Mm)) (hk12 : ∀ (x0 : Nat) (hx0 : D x0) (x1 : Nat) (hx1 : D x1) (x2 : Int32) (x4 : Int64) (x6 : Int32) (M : Mm) (hF : Fr D M0 M), FJ D M0 (k12 x0 x1 x2 x4 x6 M)) (x0 : Nat) (hx0 : D x0) (x1 : Nat) (hx1 : D x1) (x2 : Int32) (x4 : Int64) (x6 : Int32) (M : Mm) (hF : Fr D M0 M) : FJ D M0 (House_mark_B12 k12 x0 x1 x2 x4 x6 M) := by
  unfold House_mark_B12
  refine FJ_if ?_ ?_
  · refine FJ_ck ?_
    exact FJ_leaf (Fr_sL hF hx0)
  · refine FJ_ck ?_
    refine FJ_nn hF hx1 (fun b8 hb8 => ?_)
    refine FJ_ck ?_
    refine FJ_nn hF hx1 (fun b10 hb10 => ?_)
    refine FJ_ck ?_
    exact hk12 _ hx0 _ hx1 _ _ _ _ (Fr_sL hF hb8)
theorem nj_House_mark_B12 {M0 : Mm} (k12 : Nat → Nat → Int32 → Int64 → Int32 → Mm → Option (Unit × Mm)) (hk12 : ∀ (x0 : Nat) (x1 : Nat) (x2 : Int32) (x4 : Int64) (x6 : Int32) (M : Mm) (hS : Sm M0 M), NJ M0 (k12 x0 x1 x2 x4 x6 M)) (x0 : Nat) (x1 : Nat) (x2 : Int32) (x4 : Int64) (x6 : Int32) (M : Mm) (hS : Sm M0 M) : NJ M0 (House_mark_B12 k12 x0 x1 x2 x4 x6 M) := by
  unfold House_mark_B12
  refine NJ_if ?_ ?_
  · refine NJ_ck ?_
    exact NJ_leaf (Sm_sL hS)
  · refine NJ_ck ?_
    refine NJ_nn (fun b8 => ?_)
    refine NJ_ck ?_
    refine NJ_nn (fun b10 => ?_)
    refine NJ_ck ?_
    exact hk12 _ _ _ _ _ _ (Sm_sL hS)
theorem fj_House_mark_L12 {D : Nat → Prop} {M0 : Mm} (hT : Tp D M0) : ∀ (n : Nat) (x0 : Nat) (hx0 : D x0) (x1 : Nat) (hx1 : D x1) (x2 : Int32) (x4 : Int64) (x6 : Int32) (M : Mm) (hF : Fr D M0 M), FJ D M0 (House_mark_L12 n x0 x1 x2 x4 x6 M) := by
  intro n
  induction n with
  | zero => intros; exact FJ_none
  | succ n ih => intro x0 hx0 x1 hx1 x2 x4 x6 M hF; exact fj_House_mark_B12 hT _ ih x0 hx0 x1 hx1 x2 x4 x6 M hF
theorem nj_House_mark_L12 {M0 : Mm} : ∀ (n : Nat) (x0 : Nat) (x1 : Nat) (x2 : Int32) (x4 : Int64) (x6 : Int32) (M : Mm) (hS : Sm M0 M), NJ M0 (House_mark_L12 n x0 x1 x2 x4 x6 M) := by
  intro n
  induction n with
  | zero => intros; exact NJ_none
  | succ n ih => intro x0 x1 x2 x4 x6 M hS; exact nj_House_mark_B12 _ ih x0 x1 x2 x4 x6 M hS
theorem fj_House_mark {D : Nat → Prop} {M : Mm} (hC : Cl D M) (hT : Tp D M) (a0 : Nat) (h0 : D a0) (a1 : Nat) (h1 : D a1) (a2 : Int32) (a3 : Int32) : FJ D M (House_mark M a0 a1 a2 a3) := by
  unfold House_mark
  refine FJ_ck ?_
  refine FJ_bd hT (Fr.rf hC) (fun gC gT => fj_House_latestClose gC gT _ h0) (fun r2 M3 hFM3 => ?_)
  exact fj_House_mark_L12 hT fu _ h0 _ h1 _ _ _ _ hFM3
theorem nj_House_mark (M : Mm) (a0 : Nat) (a1 : Nat) (a2 : Int32) (a3 : Int32) : NJ M (House_mark M a0 a1 a2 a3) := by
  unfold House_mark
  refine NJ_ck ?_
  refine NJ_bd Sm.rf (nj_House_latestClose _ _) (fun r2 M3 hSM3 => ?_)
  exact nj_House_mark_L12 fu _ _ _ _ _ _ hSM3
theorem fj_House_enter_B2 {D : Nat → Prop} {M0 : Mm} (hT : Tp D M0) (k2 : Nat → Nat → Int32 → Mm → Option (Unit × Mm)) (hk2 : ∀ (x1 : Nat) (hx1 : D x1) (x2 : Nat) (hx2 : D x2) (x3 : Int32) (M : Mm) (hF : Fr D M0 M), FJ D M0 (k2 x1 x2 x3 M)) (x1 : Nat) (hx1 : D x1) (x2 : Nat) (hx2 : D x2) (x3 : Int32) (M : Mm) (hF : Fr D M0 M) : FJ D M0 (House_enter_B2 k2 x1 x2 x3 M) := by
  unfold House_enter_B2
  refine FJ_ck ?_
  refine FJ_if ?_ ?_
  · exact FJ_leaf hF
  · refine FJ_nn hF hx2 (fun b2 hb2 => ?_)
    refine FJ_ck ?_
    refine FJ_nn hF hb2 (fun b4 hb4 => ?_)
    refine FJ_ck ?_
    refine FJ_ck ?_
    refine FJ_nn hF hx1 (fun b8 hb8 => ?_)
    refine FJ_ck ?_
    refine FJ_ck ?_
    refine FJ_nn (Fr_sI hF hb8) hx1 (fun b12 hb12 => ?_)
    refine FJ_ck ?_
    refine FJ_ck ?_
    refine FJ_nn (Fr_sL (Fr_sI hF hb8) hb12) hx1 (fun b16 hb16 => ?_)
    refine FJ_ck ?_
    refine FJ_ck ?_
    refine FJ_nn (Fr_sI (Fr_sL (Fr_sI hF hb8) hb12) hb16) hx1 (fun b20 hb20 => ?_)
    refine FJ_ck ?_
    exact hk2 _ hx1 _ hx2 _ _ (Fr_sL (Fr_sI (Fr_sL (Fr_sI hF hb8) hb12) hb16) hb20)
theorem nj_House_enter_B2 {M0 : Mm} (k2 : Nat → Nat → Int32 → Mm → Option (Unit × Mm)) (hk2 : ∀ (x1 : Nat) (x2 : Nat) (x3 : Int32) (M : Mm) (hS : Sm M0 M), NJ M0 (k2 x1 x2 x3 M)) (x1 : Nat) (x2 : Nat) (x3 : Int32) (M : Mm) (hS : Sm M0 M) : NJ M0 (House_enter_B2 k2 x1 x2 x3 M) := by
  unfold House_enter_B2
  refine NJ_ck ?_
  refine NJ_if ?_ ?_
  · exact NJ_leaf hS
  · refine NJ_nn (fun b2 => ?_)
    refine NJ_ck ?_
    refine NJ_nn (fun b4 => ?_)
    refine NJ_ck ?_
    refine NJ_ck ?_
    refine NJ_nn (fun b8 => ?_)
    refine NJ_ck ?_
    refine NJ_ck ?_
    refine NJ_nn (fun b12 => ?_)
    refine NJ_ck ?_
    refine NJ_ck ?_
    refine NJ_nn (fun b16 => ?_)
    refine NJ_ck ?_
    refine NJ_ck ?_
    refine NJ_nn (fun b20 => ?_)
    refine NJ_ck ?_
    exact hk2 _ _ _ _ (Sm_sL (Sm_sI (Sm_sL (Sm_sI hS))))
theorem fj_House_enter_L2 {D : Nat → Prop} {M0 : Mm} (hT : Tp D M0) : ∀ (n : Nat) (x1 : Nat) (hx1 : D x1) (x2 : Nat) (hx2 : D x2) (x3 : Int32) (M : Mm) (hF : Fr D M0 M), FJ D M0 (House_enter_L2 n x1 x2 x3 M) := by
  intro n
  induction n with
  | zero => intros; exact FJ_none
  | succ n ih => intro x1 hx1 x2 hx2 x3 M hF; exact fj_House_enter_B2 hT _ ih x1 hx1 x2 hx2 x3 M hF
theorem nj_House_enter_L2 {M0 : Mm} : ∀ (n : Nat) (x1 : Nat) (x2 : Nat) (x3 : Int32) (M : Mm) (hS : Sm M0 M), NJ M0 (House_enter_L2 n x1 x2 x3 M) := by
  intro n
  induction n with
  | zero => intros; exact NJ_none
  | succ n ih => intro x1 x2 x3 M hS; exact nj_House_enter_B2 _ ih x1 x2 x3 M hS
theorem fj_House_enter {D : Nat → Prop} {M : Mm} (hC : Cl D M) (hT : Tp D M) (a0 : Nat) (h0 : D a0) (a1 : Nat) (h1 : D a1) (a2 : Nat) (h2 : D a2) : FJ D M (House_enter M a0 a1 a2) := by
  unfold House_enter
  exact fj_House_enter_L2 hT fu _ h1 _ h2 _ _ (Fr.rf hC)
theorem nj_House_enter (M : Mm) (a0 : Nat) (a1 : Nat) (a2 : Nat) : NJ M (House_enter M a0 a1 a2) := by
  unfold House_enter
  exact nj_House_enter_L2 fu _ _ _ _ Sm.rf
theorem fj_House_addClose {D : Nat → Prop} {M : Mm} (hC : Cl D M) (hT : Tp D M) (a0 : Nat) (h0 : D a0) (a1 : Int32) : FJ D M (House_addClose M a0 a1) := by
  unfold House_addClose
  refine FJ_ck ?_
  refine FJ_if ?_ ?_
  · exact FJ_leaf (Fr.rf hC)
  · refine FJ_nn (Fr.rf hC) h0 (fun b2 hb2 => ?_)
    refine FJ_ck ?_
    exact FJ_leaf (Fr_sI (Fr_sI (Fr.rf hC) hb2) h0)
theorem nj_House_addClose (M : Mm) (a0 : Nat) (a1 : Int32) : NJ M (House_addClose M a0 a1) := by
  unfold House_addClose
  refine NJ_ck ?_
  refine NJ_if ?_ ?_
  · exact NJ_leaf Sm.rf
  · refine NJ_nn (fun b2 => ?_)
    refine NJ_ck ?_
    exact NJ_leaf (Sm_sI (Sm_sI Sm.rf))
theorem fj_House_closeOut {D : Nat → Prop} {M : Mm} (hC : Cl D M) (hT : Tp D M) (a0 : Nat) (h0 : D a0) (a1 : Nat) (h1 : D a1) : FJ D M (House_closeOut M a0 a1) := by
  unfold House_closeOut
  refine FJ_ck ?_
  refine FJ_ck ?_
  refine FJ_if ?_ ?_
  · exact FJ_leaf (Fr_sI (Fr_sI (Fr_sI (Fr_sI (Fr.rf hC) h0) h1) h1) h1)
  · exact FJ_leaf (Fr_sI (Fr_sL (Fr_sL (Fr_sI (Fr_sI (Fr_sI (Fr_sI (Fr.rf hC) h0) h1) h1) h1) h0) h1) h1)
theorem nj_House_closeOut (M : Mm) (a0 : Nat) (a1 : Nat) : NJ M (House_closeOut M a0 a1) := by
  unfold House_closeOut
  refine NJ_ck ?_
  refine NJ_ck ?_
  refine NJ_if ?_ ?_
  · exact NJ_leaf (Sm_sI (Sm_sI (Sm_sI (Sm_sI Sm.rf))))
  · exact NJ_leaf (Sm_sI (Sm_sL (Sm_sL (Sm_sI (Sm_sI (Sm_sI (Sm_sI Sm.rf)))))))
theorem fj_House_callMargins_J77 {D : Nat → Prop} {M0 : Mm} (hT : Tp D M0) (k3 : Nat → Nat → Int32 → Int32 → Int32 → Int32 → Int32 → Mm → Option (Unit × Mm)) (hk3 : ∀ (x0 : Nat) (hx0 : D x0) (x1 : Nat) (hx1 : D x1) (x2 : Int32) (x3 : Int32) (x4 : Int32) (x5 : Int32) (x6 : Int32) (M : Mm) (hF : Fr D M0 M), FJ D M0 (k3 x0 x1 x2 x3 x4 x5 x6 M)) (x0 : Nat) (hx0 : D x0) (x1 : Nat) (hx1 : D x1) (x2 : Int32) (x3 : Int32) (x4 : Int32) (x5 : Int32) (x6 : Int32) (M : Mm) (hF : Fr D M0 M) : FJ D M0 (House_callMargins_J77 k3 x0 x1 x2 x3 x4 x5 x6 M) := by
  unfold House_callMargins_J77
  exact hk3 _ hx0 _ hx1 _ _ _ _ _ _ hF
theorem nj_House_callMargins_J77 {M0 : Mm} (k3 : Nat → Nat → Int32 → Int32 → Int32 → Int32 → Int32 → Mm → Option (Unit × Mm)) (hk3 : ∀ (x0 : Nat) (x1 : Nat) (x2 : Int32) (x3 : Int32) (x4 : Int32) (x5 : Int32) (x6 : Int32) (M : Mm) (hS : Sm M0 M), NJ M0 (k3 x0 x1 x2 x3 x4 x5 x6 M)) (x0 : Nat) (x1 : Nat) (x2 : Int32) (x3 : Int32) (x4 : Int32) (x5 : Int32) (x6 : Int32) (M : Mm) (hS : Sm M0 M) : NJ M0 (House_callMargins_J77 k3 x0 x1 x2 x3 x4 x5 x6 M) := by
  unfold House_callMargins_J77
  exact hk3 _ _ _ _ _ _ _ _ hS
theorem fj_House_callMargins_B3 {D : Nat → Prop} {M0 : Mm} (hT : Tp D M0) (k3 : Nat → Nat → Int32 → Int32 → Int32 → Int32 → Int32 → Mm → Option (Unit × Mm)) (hk3 : ∀ (x0 : Nat) (hx0 : D x0) (x1 : Nat) (hx1 : D x1) (x2 : Int32) (x3 : Int32) (x4 : Int32) (x5 : Int32) (x6 : Int32) (M : Mm) (hF : Fr D M0 M), FJ D M0 (k3 x0 x1 x2 x3 x4 x5 x6 M)) (x0 : Nat) (hx0 : D x0) (x1 : Nat) (hx1 : D x1) (x2 : Int32) (x3 : Int32) (x4 : Int32) (x5 : Int32) (x6 : Int32) (M : Mm) (hF : Fr D M0 M) : FJ D M0 (House_callMargins_B3 k3 x0 x1 x2 x3 x4 x5 x6 M) := by
  unfold House_callMargins_B3
  refine FJ_if ?_ ?_
  · exact FJ_leaf hF
  · refine FJ_ck ?_
    refine FJ_nn hF hx1 (fun b2 hb2 => ?_)
    refine FJ_ck ?_
    refine FJ_bd hT hF (fun gC gT => fj_Person_need gC gT _ hb2 _) (fun r4 M5 hFM5 => ?_)
    refine FJ_if ?_ ?_
    · refine FJ_ck ?_
      refine FJ_if ?_ ?_
      · exact fj_House_callMargins_J77 hT k3 hk3 _ hx0 _ hx1 _ _ _ _ _ _ (Fr_sI hFM5 hb2)
      · refine FJ_if ?_ ?_
        · exact fj_House_callMargins_J77 hT k3 hk3 _ hx0 _ hx1 _ _ _ _ _ _ hFM5
        · refine FJ_ck ?_
          refine FJ_bd hT hFM5 (fun gC gT => fj_House_closeOut gC gT _ hx0 _ hb2) (fun _ M10 hFM10 => ?_)
          exact fj_House_callMargins_J77 hT k3 hk3 _ hx0 _ hx1 _ _ _ _ _ _ hFM10
    · refine FJ_ck ?_
      exact fj_House_callMargins_J77 hT k3 hk3 _ hx0 _ hx1 _ _ _ _ _ _ (Fr_sI hFM5 hb2)
theorem nj_House_callMargins_B3 {M0 : Mm} (k3 : Nat → Nat → Int32 → Int32 → Int32 → Int32 → Int32 → Mm → Option (Unit × Mm)) (hk3 : ∀ (x0 : Nat) (x1 : Nat) (x2 : Int32) (x3 : Int32) (x4 : Int32) (x5 : Int32) (x6 : Int32) (M : Mm) (hS : Sm M0 M), NJ M0 (k3 x0 x1 x2 x3 x4 x5 x6 M)) (x0 : Nat) (x1 : Nat) (x2 : Int32) (x3 : Int32) (x4 : Int32) (x5 : Int32) (x6 : Int32) (M : Mm) (hS : Sm M0 M) : NJ M0 (House_callMargins_B3 k3 x0 x1 x2 x3 x4 x5 x6 M) := by
  unfold House_callMargins_B3
  refine NJ_if ?_ ?_
  · exact NJ_leaf hS
  · refine NJ_ck ?_
    refine NJ_nn (fun b2 => ?_)
    refine NJ_ck ?_
    refine NJ_bd hS (nj_Person_need _ _ _) (fun r4 M5 hSM5 => ?_)
    refine NJ_if ?_ ?_
    · refine NJ_ck ?_
      refine NJ_if ?_ ?_
      · exact nj_House_callMargins_J77 k3 hk3 _ _ _ _ _ _ _ _ (Sm_sI hSM5)
      · refine NJ_if ?_ ?_
        · exact nj_House_callMargins_J77 k3 hk3 _ _ _ _ _ _ _ _ hSM5
        · refine NJ_ck ?_
          refine NJ_bd hSM5 (nj_House_closeOut _ _ _) (fun _ M10 hSM10 => ?_)
          exact nj_House_callMargins_J77 k3 hk3 _ _ _ _ _ _ _ _ hSM10
    · refine NJ_ck ?_
      exact nj_House_callMargins_J77 k3 hk3 _ _ _ _ _ _ _ _ (Sm_sI hSM5)
theorem fj_House_callMargins_L3 {D : Nat → Prop} {M0 : Mm} (hT : Tp D M0) : ∀ (n : Nat) (x0 : Nat) (hx0 : D x0) (x1 : Nat) (hx1 : D x1) (x2 : Int32) (x3 : Int32) (x4 : Int32) (x5 : Int32) (x6 : Int32) (M : Mm) (hF : Fr D M0 M), FJ D M0 (House_callMargins_L3 n x0 x1 x2 x3 x4 x5 x6 M) := by
  intro n
  induction n with
  | zero => intros; exact FJ_none
  | succ n ih => intro x0 hx0 x1 hx1 x2 x3 x4 x5 x6 M hF; exact fj_House_callMargins_B3 hT _ ih x0 hx0 x1 hx1 x2 x3 x4 x5 x6 M hF
theorem nj_House_callMargins_L3 {M0 : Mm} : ∀ (n : Nat) (x0 : Nat) (x1 : Nat) (x2 : Int32) (x3 : Int32) (x4 : Int32) (x5 : Int32) (x6 : Int32) (M : Mm) (hS : Sm M0 M), NJ M0 (House_callMargins_L3 n x0 x1 x2 x3 x4 x5 x6 M) := by
  intro n
  induction n with
  | zero => intros; exact NJ_none
  | succ n ih => intro x0 x1 x2 x3 x4 x5 x6 M hS; exact nj_House_callMargins_B3 _ ih x0 x1 x2 x3 x4 x5 x6 M hS
theorem fj_House_callMargins {D : Nat → Prop} {M : Mm} (hC : Cl D M) (hT : Tp D M) (a0 : Nat) (h0 : D a0) (a1 : Nat) (h1 : D a1) (a2 : Int32) (a3 : Int32) (a4 : Int32) (a5 : Int32) : FJ D M (House_callMargins M a0 a1 a2 a3 a4 a5) := by
  unfold House_callMargins
  exact fj_House_callMargins_L3 hT fu _ h0 _ h1 _ _ _ _ _ _ (Fr.rf hC)
theorem nj_House_callMargins (M : Mm) (a0 : Nat) (a1 : Nat) (a2 : Int32) (a3 : Int32) (a4 : Int32) (a5 : Int32) : NJ M (House_callMargins M a0 a1 a2 a3 a4 a5) := by
  unfold House_callMargins
  exact nj_House_callMargins_L3 fu _ _ _ _ _ _ _ _ Sm.rf
theorem fj_House_partOf_J87 {D : Nat → Prop} {M0 : Mm} (hT : Tp D M0) (k10 : Nat → Int32 → Int64 → Int64 → Int64 → Int64 → Int64 → Int32 → Mm → Option (Int64 × Mm)) (hk10 : ∀ (x0 : Nat) (hx0 : D x0) (x1 : Int32) (x2 : Int64) (x4 : Int64) (x6 : Int64) (x8 : Int64) (x10 : Int64) (x12 : Int32) (M : Mm) (hF : Fr D M0 M), FJ D M0 (k10 x0 x1 x2 x4 x6 x8 x10 x12 M)) (x0 : Nat) (hx0 : D x0) (x1 : Int32) (x2 : Int64) (x4 : Int64) (x6 : Int64) (x8 : Int64) (x10 : Int64) (x12 : Int32) (M : Mm) (hF : Fr D M0 M) : FJ D M0 (House_partOf_J87 k10 x0 x1 x2 x4 x6 x8 x10 x12 M) := by
  unfold House_partOf_J87
  exact hk10 _ hx0 _ _ _ _ _ _ _ _ hF
theorem nj_House_partOf_J87 {M0 : Mm} (k10 : Nat → Int32 → Int64 → Int64 → Int64 → Int64 → Int64 → Int32 → Mm → Option (Int64 × Mm)) (hk10 : ∀ (x0 : Nat) (x1 : Int32) (x2 : Int64) (x4 : Int64) (x6 : Int64) (x8 : Int64) (x10 : Int64) (x12 : Int32) (M : Mm) (hS : Sm M0 M), NJ M0 (k10 x0 x1 x2 x4 x6 x8 x10 x12 M)) (x0 : Nat) (x1 : Int32) (x2 : Int64) (x4 : Int64) (x6 : Int64) (x8 : Int64) (x10 : Int64) (x12 : Int32) (M : Mm) (hS : Sm M0 M) : NJ M0 (House_partOf_J87 k10 x0 x1 x2 x4 x6 x8 x10 x12 M) := by
  unfold House_partOf_J87
  exact hk10 _ _ _ _ _ _ _ _ _ hS
theorem fj_House_partOf_J66 {D : Nat → Prop} {M0 : Mm} (hT : Tp D M0) (k10 : Nat → Int32 → Int64 → Int64 → Int64 → Int64 → Int64 → Int32 → Mm → Option (Int64 × Mm)) (hk10 : ∀ (x0 : Nat) (hx0 : D x0) (x1 : Int32) (x2 : Int64) (x4 : Int64) (x6 : Int64) (x8 : Int64) (x10 : Int64) (x12 : Int32) (M : Mm) (hF : Fr D M0 M), FJ D M0 (k10 x0 x1 x2 x4 x6 x8 x10 x12 M)) (x0 : Nat) (hx0 : D x0) (x1 : Int32) (x2 : Int64) (x4 : Int64) (x6 : Int64) (x8 : Int64) (x10 : Int64) (x12 : Int32) (M : Mm) (hF : Fr D M0 M) : FJ D M0 (House_partOf_J66 k10 x0 x1 x2 x4 x6 x8 x10 x12 M) := by
  unfold House_partOf_J66
  refine FJ_if ?_ ?_
  · exact fj_House_partOf_J87 hT k10 hk10 _ hx0 _ _ _ _ _ _ _ _ hF
  · exact fj_House_partOf_J87 hT k10 hk10 _ hx0 _ _ _ _ _ _ _ _ hF
theorem nj_House_partOf_J66 {M0 : Mm} (k10 : Nat → Int32 → Int64 → Int64 → Int64 → Int64 → Int64 → Int32 → Mm → Option (Int64 × Mm)) (hk10 : ∀ (x0 : Nat) (x1 : Int32) (x2 : Int64) (x4 : Int64) (x6 : Int64) (x8 : Int64) (x10 : Int64) (x12 : Int32) (M : Mm) (hS : Sm M0 M), NJ M0 (k10 x0 x1 x2 x4 x6 x8 x10 x12 M)) (x0 : Nat) (x1 : Int32) (x2 : Int64) (x4 : Int64) (x6 : Int64) (x8 : Int64) (x10 : Int64) (x12 : Int32) (M : Mm) (hS : Sm M0 M) : NJ M0 (House_partOf_J66 k10 x0 x1 x2 x4 x6 x8 x10 x12 M) := by
  unfold House_partOf_J66
  refine NJ_if ?_ ?_
  · exact nj_House_partOf_J87 k10 hk10 _ _ _ _ _ _ _ _ _ hS
  · exact nj_House_partOf_J87 k10 hk10 _ _ _ _ _ _ _ _ _ hS
theorem fj_House_partOf_J48 {D : Nat → Prop} {M0 : Mm} (hT : Tp D M0) (k10 : Nat → Int32 → Int64 → Int64 → Int64 → Int64 → Int64 → Int32 → Mm → Option (Int64 × Mm)) (hk10 : ∀ (x0 : Nat) (hx0 : D x0) (x1 : Int32) (x2 : Int64) (x4 : Int64) (x6 : Int64) (x8 : Int64) (x10 : Int64) (x12 : Int32) (M : Mm) (hF : Fr D M0 M), FJ D M0 (k10 x0 x1 x2 x4 x6 x8 x10 x12 M)) (x0 : Nat) (hx0 : D x0) (x1 : Int32) (x2 : Int64) (x4 : Int64) (x6 : Int64) (x8 : Int64) (x10 : Int64) (x12 : Int32) (M : Mm) (hF : Fr D M0 M) : FJ D M0 (House_partOf_J48 k10 x0 x1 x2 x4 x6 x8 x10 x12 M) := by
  unfold House_partOf_J48
  refine FJ_if ?_ ?_
  · exact fj_House_partOf_J66 hT k10 hk10 _ hx0 _ _ _ _ _ _ _ _ hF
  · exact fj_House_partOf_J66 hT k10 hk10 _ hx0 _ _ _ _ _ _ _ _ hF
theorem nj_House_partOf_J48 {M0 : Mm} (k10 : Nat → Int32 → Int64 → Int64 → Int64 → Int64 → Int64 → Int32 → Mm → Option (Int64 × Mm)) (hk10 : ∀ (x0 : Nat) (x1 : Int32) (x2 : Int64) (x4 : Int64) (x6 : Int64) (x8 : Int64) (x10 : Int64) (x12 : Int32) (M : Mm) (hS : Sm M0 M), NJ M0 (k10 x0 x1 x2 x4 x6 x8 x10 x12 M)) (x0 : Nat) (x1 : Int32) (x2 : Int64) (x4 : Int64) (x6 : Int64) (x8 : Int64) (x10 : Int64) (x12 : Int32) (M : Mm) (hS : Sm M0 M) : NJ M0 (House_partOf_J48 k10 x0 x1 x2 x4 x6 x8 x10 x12 M) := by
  unfold House_partOf_J48
  refine NJ_if ?_ ?_
  · exact nj_House_partOf_J66 k10 hk10 _ _ _ _ _ _ _ _ _ hS
  · exact nj_House_partOf_J66 k10 hk10 _ _ _ _ _ _ _ _ _ hS
theorem fj_House_partOf_B10 {D : Nat → Prop} {M0 : Mm} (hT : Tp D M0) (k10 : Nat → Int32 → Int64 → Int64 → Int64 → Int64 → Int64 → Int32 → Mm → Option (Int64 × Mm)) (hk10 : ∀ (x0 : Nat) (hx0 : D x0) (x1 : Int32) (x2 : Int64) (x4 : Int64) (x6 : Int64) (x8 : Int64) (x10 : Int64) (x12 : Int32) (M : Mm) (hF : Fr D M0 M), FJ D M0 (k10 x0 x1 x2 x4 x6 x8 x10 x12 M)) (x0 : Nat) (hx0 : D x0) (x1 : Int32) (x2 : Int64) (x4 : Int64) (x6 : Int64) (x8 : Int64) (x10 : Int64) (x12 : Int32) (M : Mm) (hF : Fr D M0 M) : FJ D M0 (House_partOf_B10 k10 x0 x1 x2 x4 x6 x8 x10 x12 M) := by
  unfold House_partOf_B10
  refine FJ_if ?_ ?_
  · refine FJ_ck ?_
    refine FJ_nn hF hx0 (fun b2 hb2 => ?_)
    refine FJ_ck ?_
    exact FJ_leaf (Fr_sL hF hb2)
  · refine FJ_if ?_ ?_
    · exact fj_House_partOf_J48 hT k10 hk10 _ hx0 _ _ _ _ _ _ _ _ hF
    · exact fj_House_partOf_J48 hT k10 hk10 _ hx0 _ _ _ _ _ _ _ _ hF
theorem nj_House_partOf_B10 {M0 : Mm} (k10 : Nat → Int32 → Int64 → Int64 → Int64 → Int64 → Int64 → Int32 → Mm → Option (Int64 × Mm)) (hk10 : ∀ (x0 : Nat) (x1 : Int32) (x2 : Int64) (x4 : Int64) (x6 : Int64) (x8 : Int64) (x10 : Int64) (x12 : Int32) (M : Mm) (hS : Sm M0 M), NJ M0 (k10 x0 x1 x2 x4 x6 x8 x10 x12 M)) (x0 : Nat) (x1 : Int32) (x2 : Int64) (x4 : Int64) (x6 : Int64) (x8 : Int64) (x10 : Int64) (x12 : Int32) (M : Mm) (hS : Sm M0 M) : NJ M0 (House_partOf_B10 k10 x0 x1 x2 x4 x6 x8 x10 x12 M) := by
  unfold House_partOf_B10
  refine NJ_if ?_ ?_
  · refine NJ_ck ?_
    refine NJ_nn (fun b2 => ?_)
    refine NJ_ck ?_
    exact NJ_leaf (Sm_sL hS)
  · refine NJ_if ?_ ?_
    · exact nj_House_partOf_J48 k10 hk10 _ _ _ _ _ _ _ _ _ hS
    · exact nj_House_partOf_J48 k10 hk10 _ _ _ _ _ _ _ _ _ hS
theorem fj_House_partOf_L10 {D : Nat → Prop} {M0 : Mm} (hT : Tp D M0) : ∀ (n : Nat) (x0 : Nat) (hx0 : D x0) (x1 : Int32) (x2 : Int64) (x4 : Int64) (x6 : Int64) (x8 : Int64) (x10 : Int64) (x12 : Int32) (M : Mm) (hF : Fr D M0 M), FJ D M0 (House_partOf_L10 n x0 x1 x2 x4 x6 x8 x10 x12 M) := by
  intro n
  induction n with
  | zero => intros; exact FJ_none
  | succ n ih => intro x0 hx0 x1 x2 x4 x6 x8 x10 x12 M hF; exact fj_House_partOf_B10 hT _ ih x0 hx0 x1 x2 x4 x6 x8 x10 x12 M hF
theorem nj_House_partOf_L10 {M0 : Mm} : ∀ (n : Nat) (x0 : Nat) (x1 : Int32) (x2 : Int64) (x4 : Int64) (x6 : Int64) (x8 : Int64) (x10 : Int64) (x12 : Int32) (M : Mm) (hS : Sm M0 M), NJ M0 (House_partOf_L10 n x0 x1 x2 x4 x6 x8 x10 x12 M) := by
  intro n
  induction n with
  | zero => intros; exact NJ_none
  | succ n ih => intro x0 x1 x2 x4 x6 x8 x10 x12 M hS; exact nj_House_partOf_B10 _ ih x0 x1 x2 x4 x6 x8 x10 x12 M hS
theorem fj_House_partOf {D : Nat → Prop} {M : Mm} (hC : Cl D M) (hT : Tp D M) (a0 : Nat) (h0 : D a0) (a1 : Int32) (a2 : Int64) (a3 : Int64) (a4 : Int64) : FJ D M (House_partOf M a0 a1 a2 a3 a4) := by
  unfold House_partOf
  exact fj_House_partOf_L10 hT fu _ h0 _ _ _ _ _ _ _ _ (Fr.rf hC)
theorem nj_House_partOf (M : Mm) (a0 : Nat) (a1 : Int32) (a2 : Int64) (a3 : Int64) (a4 : Int64) : NJ M (House_partOf M a0 a1 a2 a3 a4) := by
  unfold House_partOf
  exact nj_House_partOf_L10 fu _ _ _ _ _ _ _ _ _ Sm.rf
theorem fj_House_greatestRemainder_J27 {D : Nat → Prop} {M0 : Mm} (hT : Tp D M0) (k4 : Nat → Int32 → Int32 → Int32 → Mm → Option (Int32 × Mm)) (hk4 : ∀ (x0 : Nat) (hx0 : D x0) (x1 : Int32) (x2 : Int32) (x3 : Int32) (M : Mm) (hF : Fr D M0 M), FJ D M0 (k4 x0 x1 x2 x3 M)) (x0 : Nat) (hx0 : D x0) (x1 : Int32) (x2 : Int32) (x3 : Int32) (M : Mm) (hF : Fr D M0 M) : FJ D M0 (House_greatestRemainder_J27 k4 x0 x1 x2 x3 M) := by
  unfold House_greatestRemainder_J27
  exact hk4 _ hx0 _ _ _ _ hF
theorem nj_House_greatestRemainder_J27 {M0 : Mm} (k4 : Nat → Int32 → Int32 → Int32 → Mm → Option (Int32 × Mm)) (hk4 : ∀ (x0 : Nat) (x1 : Int32) (x2 : Int32) (x3 : Int32) (M : Mm) (hS : Sm M0 M), NJ M0 (k4 x0 x1 x2 x3 M)) (x0 : Nat) (x1 : Int32) (x2 : Int32) (x3 : Int32) (M : Mm) (hS : Sm M0 M) : NJ M0 (House_greatestRemainder_J27 k4 x0 x1 x2 x3 M) := by
  unfold House_greatestRemainder_J27
  exact hk4 _ _ _ _ _ hS
theorem fj_House_greatestRemainder_B4 {D : Nat → Prop} {M0 : Mm} (hT : Tp D M0) (k4 : Nat → Int32 → Int32 → Int32 → Mm → Option (Int32 × Mm)) (hk4 : ∀ (x0 : Nat) (hx0 : D x0) (x1 : Int32) (x2 : Int32) (x3 : Int32) (M : Mm) (hF : Fr D M0 M), FJ D M0 (k4 x0 x1 x2 x3 M)) (x0 : Nat) (hx0 : D x0) (x1 : Int32) (x2 : Int32) (x3 : Int32) (M : Mm) (hF : Fr D M0 M) : FJ D M0 (House_greatestRemainder_B4 k4 x0 x1 x2 x3 M) := by
  unfold House_greatestRemainder_B4
  refine FJ_if ?_ ?_
  · exact FJ_leaf hF
  · refine FJ_ck ?_
    refine FJ_nn hF hx0 (fun b2 hb2 => ?_)
    refine FJ_ck ?_
    refine FJ_nn hF hx0 (fun b4 hb4 => ?_)
    refine FJ_ck ?_
    refine FJ_if ?_ ?_
    · exact fj_House_greatestRemainder_J27 hT k4 hk4 _ hx0 _ _ _ _ hF
    · exact fj_House_greatestRemainder_J27 hT k4 hk4 _ hx0 _ _ _ _ hF
theorem nj_House_greatestRemainder_B4 {M0 : Mm} (k4 : Nat → Int32 → Int32 → Int32 → Mm → Option (Int32 × Mm)) (hk4 : ∀ (x0 : Nat) (x1 : Int32) (x2 : Int32) (x3 : Int32) (M : Mm) (hS : Sm M0 M), NJ M0 (k4 x0 x1 x2 x3 M)) (x0 : Nat) (x1 : Int32) (x2 : Int32) (x3 : Int32) (M : Mm) (hS : Sm M0 M) : NJ M0 (House_greatestRemainder_B4 k4 x0 x1 x2 x3 M) := by
  unfold House_greatestRemainder_B4
  refine NJ_if ?_ ?_
  · exact NJ_leaf hS
  · refine NJ_ck ?_
    refine NJ_nn (fun b2 => ?_)
    refine NJ_ck ?_
    refine NJ_nn (fun b4 => ?_)
    refine NJ_ck ?_
    refine NJ_if ?_ ?_
    · exact nj_House_greatestRemainder_J27 k4 hk4 _ _ _ _ _ hS
    · exact nj_House_greatestRemainder_J27 k4 hk4 _ _ _ _ _ hS
theorem fj_House_greatestRemainder_L4 {D : Nat → Prop} {M0 : Mm} (hT : Tp D M0) : ∀ (n : Nat) (x0 : Nat) (hx0 : D x0) (x1 : Int32) (x2 : Int32) (x3 : Int32) (M : Mm) (hF : Fr D M0 M), FJ D M0 (House_greatestRemainder_L4 n x0 x1 x2 x3 M) := by
  intro n
  induction n with
  | zero => intros; exact FJ_none
  | succ n ih => intro x0 hx0 x1 x2 x3 M hF; exact fj_House_greatestRemainder_B4 hT _ ih x0 hx0 x1 x2 x3 M hF
theorem nj_House_greatestRemainder_L4 {M0 : Mm} : ∀ (n : Nat) (x0 : Nat) (x1 : Int32) (x2 : Int32) (x3 : Int32) (M : Mm) (hS : Sm M0 M), NJ M0 (House_greatestRemainder_L4 n x0 x1 x2 x3 M) := by
  intro n
  induction n with
  | zero => intros; exact NJ_none
  | succ n ih => intro x0 x1 x2 x3 M hS; exact nj_House_greatestRemainder_B4 _ ih x0 x1 x2 x3 M hS
theorem fj_House_greatestRemainder {D : Nat → Prop} {M : Mm} (hC : Cl D M) (hT : Tp D M) (a0 : Nat) (h0 : D a0) (a1 : Int32) : FJ D M (House_greatestRemainder M a0 a1) := by
  unfold House_greatestRemainder
  exact fj_House_greatestRemainder_L4 hT fu _ h0 _ _ _ _ (Fr.rf hC)
theorem nj_House_greatestRemainder (M : Mm) (a0 : Nat) (a1 : Int32) : NJ M (House_greatestRemainder M a0 a1) := by
  unfold House_greatestRemainder
  exact nj_House_greatestRemainder_L4 fu _ _ _ _ _ Sm.rf
theorem fj_House_partTheLack_J176 {D : Nat → Prop} {M0 : Mm} (hT : Tp D M0) (x0 : Nat) (hx0 : D x0) (x5 : Int64) (M : Mm) (hF : Fr D M0 M) : FJ D M0 (House_partTheLack_J176 x0 x5 M) := by
  unfold House_partTheLack_J176
  refine FJ_ck ?_
  exact FJ_leaf (Fr_sL hF hx0)
theorem nj_House_partTheLack_J176 {M0 : Mm} (x0 : Nat) (x5 : Int64) (M : Mm) (hS : Sm M0 M) : NJ M0 (House_partTheLack_J176 x0 x5 M) := by
  unfold House_partTheLack_J176
  refine NJ_ck ?_
  exact NJ_leaf (Sm_sL hS)
theorem fj_House_partTheLack_B123 {D : Nat → Prop} {M0 : Mm} (hT : Tp D M0) (k123 : Nat → Nat → Int32 → Int64 → Int64 → Int32 → Mm → Option (Unit × Mm)) (hk123 : ∀ (x0 : Nat) (hx0 : D x0) (x1 : Nat) (hx1 : D x1) (x2 : Int32) (x5 : Int64) (x7 : Int64) (x9 : Int32) (M : Mm) (hF : Fr D M0 M), FJ D M0 (k123 x0 x1 x2 x5 x7 x9 M)) (x0 : Nat) (hx0 : D x0) (x1 : Nat) (hx1 : D x1) (x2 : Int32) (x5 : Int64) (x7 : Int64) (x9 : Int32) (M : Mm) (hF : Fr D M0 M) : FJ D M0 (House_partTheLack_B123 k123 x0 x1 x2 x5 x7 x9 M) := by
  unfold House_partTheLack_B123
  refine FJ_if ?_ ?_
  · exact fj_House_partTheLack_J176 hT _ hx0 _ _ hF
  · refine FJ_if ?_ ?_
    · exact fj_House_partTheLack_J176 hT _ hx0 _ _ hF
    · refine FJ_ck ?_
      refine FJ_bd hT hF (fun gC gT => fj_House_greatestRemainder gC gT _ hx0 _) (fun r7 M8 hFM8 => ?_)
      refine FJ_ck ?_
      refine FJ_nn hFM8 hx1 (fun b10 hb10 => ?_)
      refine FJ_ck ?_
      refine FJ_ck ?_
      refine FJ_nn (Fr_sL hFM8 hb10) hx0 (fun b14 hb14 => ?_)
      refine FJ_ck ?_
      exact hk123 _ hx0 _ hx1 _ _ _ _ _ (Fr_sL (Fr_sL hFM8 hb10) hb14)
theorem nj_House_partTheLack_B123 {M0 : Mm} (k123 : Nat → Nat → Int32 → Int64 → Int64 → Int32 → Mm → Option (Unit × Mm)) (hk123 : ∀ (x0 : Nat) (x1 : Nat) (x2 : Int32) (x5 : Int64) (x7 : Int64) (x9 : Int32) (M : Mm) (hS : Sm M0 M), NJ M0 (k123 x0 x1 x2 x5 x7 x9 M)) (x0 : Nat) (x1 : Nat) (x2 : Int32) (x5 : Int64) (x7 : Int64) (x9 : Int32) (M : Mm) (hS : Sm M0 M) : NJ M0 (House_partTheLack_B123 k123 x0 x1 x2 x5 x7 x9 M) := by
  unfold House_partTheLack_B123
  refine NJ_if ?_ ?_
  · exact nj_House_partTheLack_J176 _ _ _ hS
  · refine NJ_if ?_ ?_
    · exact nj_House_partTheLack_J176 _ _ _ hS
    · refine NJ_ck ?_
      refine NJ_bd hS (nj_House_greatestRemainder _ _ _) (fun r7 M8 hSM8 => ?_)
      refine NJ_ck ?_
      refine NJ_nn (fun b10 => ?_)
      refine NJ_ck ?_
      refine NJ_ck ?_
      refine NJ_nn (fun b14 => ?_)
      refine NJ_ck ?_
      exact hk123 _ _ _ _ _ _ _ (Sm_sL (Sm_sL hSM8))
theorem fj_House_partTheLack_L123 {D : Nat → Prop} {M0 : Mm} (hT : Tp D M0) : ∀ (n : Nat) (x0 : Nat) (hx0 : D x0) (x1 : Nat) (hx1 : D x1) (x2 : Int32) (x5 : Int64) (x7 : Int64) (x9 : Int32) (M : Mm) (hF : Fr D M0 M), FJ D M0 (House_partTheLack_L123 n x0 x1 x2 x5 x7 x9 M) := by
  intro n
  induction n with
  | zero => intros; exact FJ_none
  | succ n ih => intro x0 hx0 x1 hx1 x2 x5 x7 x9 M hF; exact fj_House_partTheLack_B123 hT _ ih x0 hx0 x1 hx1 x2 x5 x7 x9 M hF
theorem nj_House_partTheLack_L123 {M0 : Mm} : ∀ (n : Nat) (x0 : Nat) (x1 : Nat) (x2 : Int32) (x5 : Int64) (x7 : Int64) (x9 : Int32) (M : Mm) (hS : Sm M0 M), NJ M0 (House_partTheLack_L123 n x0 x1 x2 x5 x7 x9 M) := by
  intro n
  induction n with
  | zero => intros; exact NJ_none
  | succ n ih => intro x0 x1 x2 x5 x7 x9 M hS; exact nj_House_partTheLack_B123 _ ih x0 x1 x2 x5 x7 x9 M hS
theorem fj_House_partTheLack_B65 {D : Nat → Prop} {M0 : Mm} (hT : Tp D M0) (k65 : Nat → Nat → Int32 → Int64 → Int64 → Int64 → Int32 → Mm → Option (Unit × Mm)) (hk65 : ∀ (x0 : Nat) (hx0 : D x0) (x1 : Nat) (hx1 : D x1) (x2 : Int32) (x3 : Int64) (x5 : Int64) (x7 : Int64) (x9 : Int32) (M : Mm) (hF : Fr D M0 M), FJ D M0 (k65 x0 x1 x2 x3 x5 x7 x9 M)) (x0 : Nat) (hx0 : D x0) (x1 : Nat) (hx1 : D x1) (x2 : Int32) (x3 : Int64) (x5 : Int64) (x7 : Int64) (x9 : Int32) (M : Mm) (hF : Fr D M0 M) : FJ D M0 (House_partTheLack_B65 k65 x0 x1 x2 x3 x5 x7 x9 M) := by
  unfold House_partTheLack_B65
  refine FJ_if ?_ ?_
  · exact fj_House_partTheLack_L123 hT fu _ hx0 _ hx1 _ _ _ _ _ hF
  · refine FJ_ck ?_
    refine FJ_nn hF hx1 (fun b20 hb20 => ?_)
    refine FJ_ck ?_
    refine FJ_bd hT hF (fun gC gT => fj_Math_max_L gC gT _ _) (fun r22 M23 hFM23 => ?_)
    refine FJ_ck ?_
    refine FJ_bd hT hFM23 (fun gC gT => fj_House_partOf gC gT _ hx0 _ _ _ _) (fun r25 M26 hFM26 => ?_)
    refine FJ_ck ?_
    refine FJ_nn hFM26 hx1 (fun b28 hb28 => ?_)
    refine FJ_ck ?_
    exact hk65 _ hx0 _ hx1 _ _ _ _ _ _ (Fr_sL hFM26 hb28)
theorem nj_House_partTheLack_B65 {M0 : Mm} (k65 : Nat → Nat → Int32 → Int64 → Int64 → Int64 → Int32 → Mm → Option (Unit × Mm)) (hk65 : ∀ (x0 : Nat) (x1 : Nat) (x2 : Int32) (x3 : Int64) (x5 : Int64) (x7 : Int64) (x9 : Int32) (M : Mm) (hS : Sm M0 M), NJ M0 (k65 x0 x1 x2 x3 x5 x7 x9 M)) (x0 : Nat) (x1 : Nat) (x2 : Int32) (x3 : Int64) (x5 : Int64) (x7 : Int64) (x9 : Int32) (M : Mm) (hS : Sm M0 M) : NJ M0 (House_partTheLack_B65 k65 x0 x1 x2 x3 x5 x7 x9 M) := by
  unfold House_partTheLack_B65
  refine NJ_if ?_ ?_
  · exact nj_House_partTheLack_L123 fu _ _ _ _ _ _ _ hS
  · refine NJ_ck ?_
    refine NJ_nn (fun b20 => ?_)
    refine NJ_ck ?_
    refine NJ_bd hS (nj_Math_max_L _ _ _) (fun r22 M23 hSM23 => ?_)
    refine NJ_ck ?_
    refine NJ_bd hSM23 (nj_House_partOf _ _ _ _ _ _) (fun r25 M26 hSM26 => ?_)
    refine NJ_ck ?_
    refine NJ_nn (fun b28 => ?_)
    refine NJ_ck ?_
    exact hk65 _ _ _ _ _ _ _ _ (Sm_sL hSM26)
theorem fj_House_partTheLack_L65 {D : Nat → Prop} {M0 : Mm} (hT : Tp D M0) : ∀ (n : Nat) (x0 : Nat) (hx0 : D x0) (x1 : Nat) (hx1 : D x1) (x2 : Int32) (x3 : Int64) (x5 : Int64) (x7 : Int64) (x9 : Int32) (M : Mm) (hF : Fr D M0 M), FJ D M0 (House_partTheLack_L65 n x0 x1 x2 x3 x5 x7 x9 M) := by
  intro n
  induction n with
  | zero => intros; exact FJ_none
  | succ n ih => intro x0 hx0 x1 hx1 x2 x3 x5 x7 x9 M hF; exact fj_House_partTheLack_B65 hT _ ih x0 hx0 x1 hx1 x2 x3 x5 x7 x9 M hF
theorem nj_House_partTheLack_L65 {M0 : Mm} : ∀ (n : Nat) (x0 : Nat) (x1 : Nat) (x2 : Int32) (x3 : Int64) (x5 : Int64) (x7 : Int64) (x9 : Int32) (M : Mm) (hS : Sm M0 M), NJ M0 (House_partTheLack_L65 n x0 x1 x2 x3 x5 x7 x9 M) := by
  intro n
  induction n with
  | zero => intros; exact NJ_none
  | succ n ih => intro x0 x1 x2 x3 x5 x7 x9 M hS; exact nj_House_partTheLack_B65 _ ih x0 x1 x2 x3 x5 x7 x9 M hS
theorem fj_House_partTheLack_B5 {D : Nat → Prop} {M0 : Mm} (hT : Tp D M0) (k5 : Nat → Nat → Int32 → Int64 → Int32 → Mm → Option (Unit × Mm)) (hk5 : ∀ (x0 : Nat) (hx0 : D x0) (x1 : Nat) (hx1 : D x1) (x2 : Int32) (x3 : Int64) (x5 : Int32) (M : Mm) (hF : Fr D M0 M), FJ D M0 (k5 x0 x1 x2 x3 x5 M)) (x0 : Nat) (hx0 : D x0) (x1 : Nat) (hx1 : D x1) (x2 : Int32) (x3 : Int64) (x5 : Int32) (M : Mm) (hF : Fr D M0 M) : FJ D M0 (House_partTheLack_B5 k5 x0 x1 x2 x3 x5 M) := by
  unfold House_partTheLack_B5
  refine FJ_if ?_ ?_
  · refine FJ_ck ?_
    refine FJ_if ?_ ?_
    · exact FJ_leaf hF
    · refine FJ_if ?_ ?_
      · refine FJ_bd hT hF (fun gC gT => fj_Math_min_L gC gT _ _) (fun r2 M3 hFM3 => ?_)
        exact fj_House_partTheLack_L65 hT fu _ hx0 _ hx1 _ _ _ _ _ _ hFM3
      · exact FJ_leaf hF
  · refine FJ_ck ?_
    refine FJ_nn hF hx1 (fun b34 hb34 => ?_)
    refine FJ_ck ?_
    refine FJ_bd hT hF (fun gC gT => fj_Math_max_L gC gT _ _) (fun r36 M37 hFM37 => ?_)
    exact hk5 _ hx0 _ hx1 _ _ _ _ hFM37
theorem nj_House_partTheLack_B5 {M0 : Mm} (k5 : Nat → Nat → Int32 → Int64 → Int32 → Mm → Option (Unit × Mm)) (hk5 : ∀ (x0 : Nat) (x1 : Nat) (x2 : Int32) (x3 : Int64) (x5 : Int32) (M : Mm) (hS : Sm M0 M), NJ M0 (k5 x0 x1 x2 x3 x5 M)) (x0 : Nat) (x1 : Nat) (x2 : Int32) (x3 : Int64) (x5 : Int32) (M : Mm) (hS : Sm M0 M) : NJ M0 (House_partTheLack_B5 k5 x0 x1 x2 x3 x5 M) := by
  unfold House_partTheLack_B5
  refine NJ_if ?_ ?_
  · refine NJ_ck ?_
    refine NJ_if ?_ ?_
    · exact NJ_leaf hS
    · refine NJ_if ?_ ?_
      · refine NJ_bd hS (nj_Math_min_L _ _ _) (fun r2 M3 hSM3 => ?_)
        exact nj_House_partTheLack_L65 fu _ _ _ _ _ _ _ _ hSM3
      · exact NJ_leaf hS
  · refine NJ_ck ?_
    refine NJ_nn (fun b34 => ?_)
    refine NJ_ck ?_
    refine NJ_bd hS (nj_Math_max_L _ _ _) (fun r36 M37 hSM37 => ?_)
    exact hk5 _ _ _ _ _ _ hSM37
theorem fj_House_partTheLack_L5 {D : Nat → Prop} {M0 : Mm} (hT : Tp D M0) : ∀ (n : Nat) (x0 : Nat) (hx0 : D x0) (x1 : Nat) (hx1 : D x1) (x2 : Int32) (x3 : Int64) (x5 : Int32) (M : Mm) (hF : Fr D M0 M), FJ D M0 (House_partTheLack_L5 n x0 x1 x2 x3 x5 M) := by
  intro n
  induction n with
  | zero => intros; exact FJ_none
  | succ n ih => intro x0 hx0 x1 hx1 x2 x3 x5 M hF; exact fj_House_partTheLack_B5 hT _ ih x0 hx0 x1 hx1 x2 x3 x5 M hF
theorem nj_House_partTheLack_L5 {M0 : Mm} : ∀ (n : Nat) (x0 : Nat) (x1 : Nat) (x2 : Int32) (x3 : Int64) (x5 : Int32) (M : Mm) (hS : Sm M0 M), NJ M0 (House_partTheLack_L5 n x0 x1 x2 x3 x5 M) := by
  intro n
  induction n with
  | zero => intros; exact NJ_none
  | succ n ih => intro x0 x1 x2 x3 x5 M hS; exact nj_House_partTheLack_B5 _ ih x0 x1 x2 x3 x5 M hS
theorem fj_House_partTheLack {D : Nat → Prop} {M : Mm} (hC : Cl D M) (hT : Tp D M) (a0 : Nat) (h0 : D a0) (a1 : Nat) (h1 : D a1) (a2 : Int32) : FJ D M (House_partTheLack M a0 a1 a2) := by
  unfold House_partTheLack
  exact fj_House_partTheLack_L5 hT fu _ h0 _ h1 _ _ _ _ (Fr.rf hC)
theorem nj_House_partTheLack (M : Mm) (a0 : Nat) (a1 : Nat) (a2 : Int32) : NJ M (House_partTheLack M a0 a1 a2) := by
  unfold House_partTheLack
  exact nj_House_partTheLack_L5 fu _ _ _ _ _ _ Sm.rf
theorem fj_House_settleAt_B23 {D : Nat → Prop} {M0 : Mm} (hT : Tp D M0) (k23 : Nat → Int32 → Int32 → Mm → Option (Unit × Mm)) (hk23 : ∀ (x1 : Nat) (hx1 : D x1) (x2 : Int32) (x4 : Int32) (M : Mm) (hF : Fr D M0 M), FJ D M0 (k23 x1 x2 x4 M)) (x1 : Nat) (hx1 : D x1) (x2 : Int32) (x4 : Int32) (M : Mm) (hF : Fr D M0 M) : FJ D M0 (House_settleAt_B23 k23 x1 x2 x4 M) := by
  unfold House_settleAt_B23
  refine FJ_if ?_ ?_
  · exact FJ_leaf hF
  · refine FJ_ck ?_
    refine FJ_nn hF hx1 (fun b5 hb5 => ?_)
    refine FJ_ck ?_
    refine FJ_nn (Fr_sI hF hb5) hx1 (fun b8 hb8 => ?_)
    refine FJ_ck ?_
    exact hk23 _ hx1 _ _ _ (Fr_sI (Fr_sI hF hb5) hb8)
theorem nj_House_settleAt_B23 {M0 : Mm} (k23 : Nat → Int32 → Int32 → Mm → Option (Unit × Mm)) (hk23 : ∀ (x1 : Nat) (x2 : Int32) (x4 : Int32) (M : Mm) (hS : Sm M0 M), NJ M0 (k23 x1 x2 x4 M)) (x1 : Nat) (x2 : Int32) (x4 : Int32) (M : Mm) (hS : Sm M0 M) : NJ M0 (House_settleAt_B23 k23 x1 x2 x4 M) := by
  unfold House_settleAt_B23
  refine NJ_if ?_ ?_
  · exact NJ_leaf hS
  · refine NJ_ck ?_
    refine NJ_nn (fun b5 => ?_)
    refine NJ_ck ?_
    refine NJ_nn (fun b8 => ?_)
    refine NJ_ck ?_
    exact hk23 _ _ _ _ (Sm_sI (Sm_sI hS))
theorem fj_House_settleAt_L23 {D : Nat → Prop} {M0 : Mm} (hT : Tp D M0) : ∀ (n : Nat) (x1 : Nat) (hx1 : D x1) (x2 : Int32) (x4 : Int32) (M : Mm) (hF : Fr D M0 M), FJ D M0 (House_settleAt_L23 n x1 x2 x4 M) := by
  intro n
  induction n with
  | zero => intros; exact FJ_none
  | succ n ih => intro x1 hx1 x2 x4 M hF; exact fj_House_settleAt_B23 hT _ ih x1 hx1 x2 x4 M hF
theorem nj_House_settleAt_L23 {M0 : Mm} : ∀ (n : Nat) (x1 : Nat) (x2 : Int32) (x4 : Int32) (M : Mm) (hS : Sm M0 M), NJ M0 (House_settleAt_L23 n x1 x2 x4 M) := by
  intro n
  induction n with
  | zero => intros; exact NJ_none
  | succ n ih => intro x1 x2 x4 M hS; exact nj_House_settleAt_B23 _ ih x1 x2 x4 M hS
theorem fj_House_settleAt {D : Nat → Prop} {M : Mm} (hC : Cl D M) (hT : Tp D M) (a0 : Nat) (h0 : D a0) (a1 : Nat) (h1 : D a1) (a2 : Int32) (a3 : Int32) : FJ D M (House_settleAt M a0 a1 a2 a3) := by
  unfold House_settleAt
  refine FJ_if ?_ ?_
  · exact FJ_leaf (Fr.rf hC)
  · refine FJ_ck ?_
    refine FJ_ck ?_
    refine FJ_if ?_ ?_
    · exact fj_House_settleAt_L23 hT fu _ h1 _ _ _ (Fr_sI (Fr.rf hC) h0)
    · exact FJ_leaf (Fr.rf hC)
theorem nj_House_settleAt (M : Mm) (a0 : Nat) (a1 : Nat) (a2 : Int32) (a3 : Int32) : NJ M (House_settleAt M a0 a1 a2 a3) := by
  unfold House_settleAt
  refine NJ_if ?_ ?_
  · exact NJ_leaf Sm.rf
  · refine NJ_ck ?_
    refine NJ_ck ?_
    refine NJ_if ?_ ?_
    · exact nj_House_settleAt_L23 fu _ _ _ _ (Sm_sI Sm.rf)
    · exact NJ_leaf Sm.rf
theorem fj_House_widest_B7 {D : Nat → Prop} {M0 : Mm} (hT : Tp D M0) (k7 : Nat → Int32 → Int32 → Int32 → Int32 → Mm → Option (Int32 × Mm)) (hk7 : ∀ (x0 : Nat) (hx0 : D x0) (x1 : Int32) (x2 : Int32) (x3 : Int32) (x4 : Int32) (M : Mm) (hF : Fr D M0 M), FJ D M0 (k7 x0 x1 x2 x3 x4 M)) (x0 : Nat) (hx0 : D x0) (x1 : Int32) (x2 : Int32) (x3 : Int32) (x4 : Int32) (M : Mm) (hF : Fr D M0 M) : FJ D M0 (House_widest_B7 k7 x0 x1 x2 x3 x4 M) := by
  unfold House_widest_B7
  refine FJ_ck ?_
  refine FJ_if ?_ ?_
  · exact FJ_leaf hF
  · refine FJ_if ?_ ?_
    · exact FJ_leaf hF
    · refine FJ_nn hF hx0 (fun b3 hb3 => ?_)
      refine FJ_ck ?_
      refine FJ_nn hF hx0 (fun b5 hb5 => ?_)
      refine FJ_ck ?_
      refine FJ_bd hT hF (fun gC gT => fj_Math_abs_I gC gT _) (fun r7 M8 hFM8 => ?_)
      refine FJ_bd hT hFM8 (fun gC gT => fj_Math_max_I gC gT _ _) (fun r9 M10 hFM10 => ?_)
      exact hk7 _ hx0 _ _ _ _ _ hFM10
theorem nj_House_widest_B7 {M0 : Mm} (k7 : Nat → Int32 → Int32 → Int32 → Int32 → Mm → Option (Int32 × Mm)) (hk7 : ∀ (x0 : Nat) (x1 : Int32) (x2 : Int32) (x3 : Int32) (x4 : Int32) (M : Mm) (hS : Sm M0 M), NJ M0 (k7 x0 x1 x2 x3 x4 M)) (x0 : Nat) (x1 : Int32) (x2 : Int32) (x3 : Int32) (x4 : Int32) (M : Mm) (hS : Sm M0 M) : NJ M0 (House_widest_B7 k7 x0 x1 x2 x3 x4 M) := by
  unfold House_widest_B7
  refine NJ_ck ?_
  refine NJ_if ?_ ?_
  · exact NJ_leaf hS
  · refine NJ_if ?_ ?_
    · exact NJ_leaf hS
    · refine NJ_nn (fun b3 => ?_)
      refine NJ_ck ?_
      refine NJ_nn (fun b5 => ?_)
      refine NJ_ck ?_
      refine NJ_bd hS (nj_Math_abs_I _ _) (fun r7 M8 hSM8 => ?_)
      refine NJ_bd hSM8 (nj_Math_max_I _ _ _) (fun r9 M10 hSM10 => ?_)
      exact hk7 _ _ _ _ _ _ hSM10
theorem fj_House_widest_L7 {D : Nat → Prop} {M0 : Mm} (hT : Tp D M0) : ∀ (n : Nat) (x0 : Nat) (hx0 : D x0) (x1 : Int32) (x2 : Int32) (x3 : Int32) (x4 : Int32) (M : Mm) (hF : Fr D M0 M), FJ D M0 (House_widest_L7 n x0 x1 x2 x3 x4 M) := by
  intro n
  induction n with
  | zero => intros; exact FJ_none
  | succ n ih => intro x0 hx0 x1 x2 x3 x4 M hF; exact fj_House_widest_B7 hT _ ih x0 hx0 x1 x2 x3 x4 M hF
theorem nj_House_widest_L7 {M0 : Mm} : ∀ (n : Nat) (x0 : Nat) (x1 : Int32) (x2 : Int32) (x3 : Int32) (x4 : Int32) (M : Mm) (hS : Sm M0 M), NJ M0 (House_widest_L7 n x0 x1 x2 x3 x4 M) := by
  intro n
  induction n with
  | zero => intros; exact NJ_none
  | succ n ih => intro x0 x1 x2 x3 x4 M hS; exact nj_House_widest_B7 _ ih x0 x1 x2 x3 x4 M hS
theorem fj_House_widest {D : Nat → Prop} {M : Mm} (hC : Cl D M) (hT : Tp D M) (a0 : Nat) (h0 : D a0) (a1 : Int32) (a2 : Int32) : FJ D M (House_widest M a0 a1 a2) := by
  unfold House_widest
  exact fj_House_widest_L7 hT fu _ h0 _ _ _ _ _ (Fr.rf hC)
theorem nj_House_widest (M : Mm) (a0 : Nat) (a1 : Int32) (a2 : Int32) : NJ M (House_widest M a0 a1 a2) := by
  unfold House_widest
  exact nj_House_widest_L7 fu _ _ _ _ _ _ Sm.rf
theorem fj_House_allCoins_B8 {D : Nat → Prop} {M0 : Mm} (hT : Tp D M0) (k8 : Nat → Int32 → Int64 → Int32 → Mm → Option (Int64 × Mm)) (hk8 : ∀ (x1 : Nat) (hx1 : D x1) (x2 : Int32) (x3 : Int64) (x5 : Int32) (M : Mm) (hF : Fr D M0 M), FJ D M0 (k8 x1 x2 x3 x5 M)) (x1 : Nat) (hx1 : D x1) (x2 : Int32) (x3 : Int64) (x5 : Int32) (M : Mm) (hF : Fr D M0 M) : FJ D M0 (House_allCoins_B8 k8 x1 x2 x3 x5 M) := by
  unfold House_allCoins_B8
  refine FJ_if ?_ ?_
  · exact FJ_leaf hF
  · refine FJ_ck ?_
    refine FJ_nn hF hx1 (fun b4 hb4 => ?_)
    refine FJ_ck ?_
    exact hk8 _ hx1 _ _ _ _ hF
theorem nj_House_allCoins_B8 {M0 : Mm} (k8 : Nat → Int32 → Int64 → Int32 → Mm → Option (Int64 × Mm)) (hk8 : ∀ (x1 : Nat) (x2 : Int32) (x3 : Int64) (x5 : Int32) (M : Mm) (hS : Sm M0 M), NJ M0 (k8 x1 x2 x3 x5 M)) (x1 : Nat) (x2 : Int32) (x3 : Int64) (x5 : Int32) (M : Mm) (hS : Sm M0 M) : NJ M0 (House_allCoins_B8 k8 x1 x2 x3 x5 M) := by
  unfold House_allCoins_B8
  refine NJ_if ?_ ?_
  · exact NJ_leaf hS
  · refine NJ_ck ?_
    refine NJ_nn (fun b4 => ?_)
    refine NJ_ck ?_
    exact hk8 _ _ _ _ _ hS
theorem fj_House_allCoins_L8 {D : Nat → Prop} {M0 : Mm} (hT : Tp D M0) : ∀ (n : Nat) (x1 : Nat) (hx1 : D x1) (x2 : Int32) (x3 : Int64) (x5 : Int32) (M : Mm) (hF : Fr D M0 M), FJ D M0 (House_allCoins_L8 n x1 x2 x3 x5 M) := by
  intro n
  induction n with
  | zero => intros; exact FJ_none
  | succ n ih => intro x1 hx1 x2 x3 x5 M hF; exact fj_House_allCoins_B8 hT _ ih x1 hx1 x2 x3 x5 M hF
theorem nj_House_allCoins_L8 {M0 : Mm} : ∀ (n : Nat) (x1 : Nat) (x2 : Int32) (x3 : Int64) (x5 : Int32) (M : Mm) (hS : Sm M0 M), NJ M0 (House_allCoins_L8 n x1 x2 x3 x5 M) := by
  intro n
  induction n with
  | zero => intros; exact NJ_none
  | succ n ih => intro x1 x2 x3 x5 M hS; exact nj_House_allCoins_B8 _ ih x1 x2 x3 x5 M hS
theorem fj_House_allCoins {D : Nat → Prop} {M : Mm} (hC : Cl D M) (hT : Tp D M) (a0 : Nat) (h0 : D a0) (a1 : Nat) (h1 : D a1) (a2 : Int32) : FJ D M (House_allCoins M a0 a1 a2) := by
  unfold House_allCoins
  refine FJ_ck ?_
  exact fj_House_allCoins_L8 hT fu _ h1 _ _ _ _ (Fr.rf hC)
theorem nj_House_allCoins (M : Mm) (a0 : Nat) (a1 : Nat) (a2 : Int32) : NJ M (House_allCoins M a0 a1 a2) := by
  unfold House_allCoins
  refine NJ_ck ?_
  exact nj_House_allCoins_L8 fu _ _ _ _ _ Sm.rf
theorem fj_Law_new {D : Nat → Prop} {M : Mm} (hC : Cl D M) (hT : Tp D M) (a0 : Nat) (h0 : D a0) : FJ D M (Law_new M a0) := by
  unfold Law_new
  refine FJ_bd hT (Fr_nw hT (Fr.rf hC)) (fun gC gT => fj_Scribe_new gC gT _ (hT _ (Fr.z (Fr.rf hC)))) (fun _ M3 hFM3 => ?_)
  refine FJ_ck ?_
  refine FJ_ck ?_
  refine FJ_ck ?_
  exact FJ_leaf (Fr_sI (Fr_sRs (Fr_nw hT (Fr_sRs (Fr_nw hT (Fr_sRs hFM3 h0 (hT _ (Fr.z (Fr.rf hC))))) h0 (hT _ (Fr.z (Fr_sRs hFM3 h0 (hT _ (Fr.z (Fr.rf hC)))))))) h0 (hT _ (Fr.z (Fr_sRs (Fr_nw hT (Fr_sRs hFM3 h0 (hT _ (Fr.z (Fr.rf hC))))) h0 (hT _ (Fr.z (Fr_sRs hFM3 h0 (hT _ (Fr.z (Fr.rf hC)))))))))) h0)
theorem fj_Law_lookAtClock {D : Nat → Prop} {M : Mm} (hC : Cl D M) (hT : Tp D M) (a0 : Nat) (h0 : D a0) (a1 : Int32) (a2 : Int32) : FJ D M (Law_lookAtClock M a0 a1 a2) := by
  unfold Law_lookAtClock
  refine FJ_ck ?_
  refine FJ_nn (Fr.rf hC) h0 (fun b2 hb2 => ?_)
  refine FJ_ck ?_
  refine FJ_nn (Fr_sI (Fr.rf hC) hb2) h0 (fun b5 hb5 => ?_)
  refine FJ_ck ?_
  refine FJ_nn (Fr_sI (Fr_sI (Fr.rf hC) hb2) hb5) h0 (fun b8 hb8 => ?_)
  refine FJ_ck ?_
  exact FJ_leaf (Fr_sI (Fr_sI (Fr_sI (Fr.rf hC) hb2) hb5) hb8)
theorem nj_Law_lookAtClock (M : Mm) (a0 : Nat) (a1 : Int32) (a2 : Int32) : NJ M (Law_lookAtClock M a0 a1 a2) := by
  unfold Law_lookAtClock
  refine NJ_ck ?_
  refine NJ_nn (fun b2 => ?_)
  refine NJ_ck ?_
  refine NJ_nn (fun b5 => ?_)
  refine NJ_ck ?_
  refine NJ_nn (fun b8 => ?_)
  refine NJ_ck ?_
  exact NJ_leaf (Sm_sI (Sm_sI (Sm_sI Sm.rf)))
theorem fj_Law_lookAtMarket {D : Nat → Prop} {M : Mm} (hC : Cl D M) (hT : Tp D M) (a0 : Nat) (h0 : D a0) (a1 : Int32) (a2 : Int32) (a3 : Int32) (a4 : Int32) : FJ D M (Law_lookAtMarket M a0 a1 a2 a3 a4) := by
  unfold Law_lookAtMarket
  refine FJ_ck ?_
  refine FJ_nn (Fr.rf hC) h0 (fun b2 hb2 => ?_)
  refine FJ_ck ?_
  refine FJ_nn (Fr_sI (Fr.rf hC) hb2) h0 (fun b5 hb5 => ?_)
  refine FJ_ck ?_
  refine FJ_nn (Fr_sI (Fr_sI (Fr.rf hC) hb2) hb5) h0 (fun b8 hb8 => ?_)
  refine FJ_ck ?_
  refine FJ_nn (Fr_sI (Fr_sI (Fr_sI (Fr.rf hC) hb2) hb5) hb8) h0 (fun b11 hb11 => ?_)
  refine FJ_ck ?_
  exact FJ_leaf (Fr_sI (Fr_sI (Fr_sI (Fr_sI (Fr.rf hC) hb2) hb5) hb8) hb11)
theorem nj_Law_lookAtMarket (M : Mm) (a0 : Nat) (a1 : Int32) (a2 : Int32) (a3 : Int32) (a4 : Int32) : NJ M (Law_lookAtMarket M a0 a1 a2 a3 a4) := by
  unfold Law_lookAtMarket
  refine NJ_ck ?_
  refine NJ_nn (fun b2 => ?_)
  refine NJ_ck ?_
  refine NJ_nn (fun b5 => ?_)
  refine NJ_ck ?_
  refine NJ_nn (fun b8 => ?_)
  refine NJ_ck ?_
  refine NJ_nn (fun b11 => ?_)
  refine NJ_ck ?_
  exact NJ_leaf (Sm_sI (Sm_sI (Sm_sI (Sm_sI Sm.rf))))
theorem fj_Law_inForce_J53 {D : Nat → Prop} {M0 : Mm} (hT : Tp D M0) (k4 : Nat → Int32 → Int32 → Int32 → Mm → Option (Int32 × Mm)) (hk4 : ∀ (x0 : Nat) (hx0 : D x0) (x1 : Int32) (x2 : Int32) (x3 : Int32) (M : Mm) (hF : Fr D M0 M), FJ D M0 (k4 x0 x1 x2 x3 M)) (x0 : Nat) (hx0 : D x0) (x1 : Int32) (x2 : Int32) (x3 : Int32) (M : Mm) (hF : Fr D M0 M) : FJ D M0 (Law_inForce_J53 k4 x0 x1 x2 x3 M) := by
  unfold Law_inForce_J53
  exact hk4 _ hx0 _ _ _ _ hF
theorem nj_Law_inForce_J53 {M0 : Mm} (k4 : Nat → Int32 → Int32 → Int32 → Mm → Option (Int32 × Mm)) (hk4 : ∀ (x0 : Nat) (x1 : Int32) (x2 : Int32) (x3 : Int32) (M : Mm) (hS : Sm M0 M), NJ M0 (k4 x0 x1 x2 x3 M)) (x0 : Nat) (x1 : Int32) (x2 : Int32) (x3 : Int32) (M : Mm) (hS : Sm M0 M) : NJ M0 (Law_inForce_J53 k4 x0 x1 x2 x3 M) := by
  unfold Law_inForce_J53
  exact hk4 _ _ _ _ _ hS
theorem fj_Law_inForce_J51 {D : Nat → Prop} {M0 : Mm} (hT : Tp D M0) (k4 : Nat → Int32 → Int32 → Int32 → Mm → Option (Int32 × Mm)) (hk4 : ∀ (x0 : Nat) (hx0 : D x0) (x1 : Int32) (x2 : Int32) (x3 : Int32) (M : Mm) (hF : Fr D M0 M), FJ D M0 (k4 x0 x1 x2 x3 M)) (x0 : Nat) (hx0 : D x0) (x1 : Int32) (x3 : Int32) (M : Mm) (hF : Fr D M0 M) : FJ D M0 (Law_inForce_J51 k4 x0 x1 x3 M) := by
  unfold Law_inForce_J51
  exact fj_Law_inForce_J53 hT k4 hk4 _ hx0 _ _ _ _ hF
theorem nj_Law_inForce_J51 {M0 : Mm} (k4 : Nat → Int32 → Int32 → Int32 → Mm → Option (Int32 × Mm)) (hk4 : ∀ (x0 : Nat) (x1 : Int32) (x2 : Int32) (x3 : Int32) (M : Mm) (hS : Sm M0 M), NJ M0 (k4 x0 x1 x2 x3 M)) (x0 : Nat) (x1 : Int32) (x3 : Int32) (M : Mm) (hS : Sm M0 M) : NJ M0 (Law_inForce_J51 k4 x0 x1 x3 M) := by
  unfold Law_inForce_J51
  exact nj_Law_inForce_J53 k4 hk4 _ _ _ _ _ hS
theorem fj_Law_inForce_B4 {D : Nat → Prop} {M0 : Mm} (hT : Tp D M0) (k4 : Nat → Int32 → Int32 → Int32 → Mm → Option (Int32 × Mm)) (hk4 : ∀ (x0 : Nat) (hx0 : D x0) (x1 : Int32) (x2 : Int32) (x3 : Int32) (M : Mm) (hF : Fr D M0 M), FJ D M0 (k4 x0 x1 x2 x3 M)) (x0 : Nat) (hx0 : D x0) (x1 : Int32) (x2 : Int32) (x3 : Int32) (M : Mm) (hF : Fr D M0 M) : FJ D M0 (Law_inForce_B4 k4 x0 x1 x2 x3 M) := by
  unfold Law_inForce_B4
  refine FJ_ck ?_
  refine FJ_if ?_ ?_
  · exact FJ_leaf hF
  · refine FJ_nn hF hx0 (fun b2 hb2 => ?_)
    refine FJ_ck ?_
    refine FJ_nn hF hb2 (fun b4 hb4 => ?_)
    refine FJ_ck ?_
    refine FJ_if ?_ ?_
    · exact fj_Law_inForce_J53 hT k4 hk4 _ hx0 _ _ _ _ hF
    · refine FJ_if ?_ ?_
      · exact fj_Law_inForce_J51 hT k4 hk4 _ hx0 _ _ _ hF
      · refine FJ_nn hF hx0 (fun b7 hb7 => ?_)
        refine FJ_ck ?_
        refine FJ_nn hF hb7 (fun b9 hb9 => ?_)
        refine FJ_ck ?_
        refine FJ_nn hF hx0 (fun b11 hb11 => ?_)
        refine FJ_ck ?_
        refine FJ_nn hF hb11 (fun b13 hb13 => ?_)
        refine FJ_ck ?_
        refine FJ_if ?_ ?_
        · exact fj_Law_inForce_J53 hT k4 hk4 _ hx0 _ _ _ _ hF
        · exact fj_Law_inForce_J51 hT k4 hk4 _ hx0 _ _ _ hF
theorem nj_Law_inForce_B4 {M0 : Mm} (k4 : Nat → Int32 → Int32 → Int32 → Mm → Option (Int32 × Mm)) (hk4 : ∀ (x0 : Nat) (x1 : Int32) (x2 : Int32) (x3 : Int32) (M : Mm) (hS : Sm M0 M), NJ M0 (k4 x0 x1 x2 x3 M)) (x0 : Nat) (x1 : Int32) (x2 : Int32) (x3 : Int32) (M : Mm) (hS : Sm M0 M) : NJ M0 (Law_inForce_B4 k4 x0 x1 x2 x3 M) := by
  unfold Law_inForce_B4
  refine NJ_ck ?_
  refine NJ_if ?_ ?_
  · exact NJ_leaf hS
  · refine NJ_nn (fun b2 => ?_)
    refine NJ_ck ?_
    refine NJ_nn (fun b4 => ?_)
    refine NJ_ck ?_
    refine NJ_if ?_ ?_
    · exact nj_Law_inForce_J53 k4 hk4 _ _ _ _ _ hS
    · refine NJ_if ?_ ?_
      · exact nj_Law_inForce_J51 k4 hk4 _ _ _ _ hS
      · refine NJ_nn (fun b7 => ?_)
        refine NJ_ck ?_
        refine NJ_nn (fun b9 => ?_)
        refine NJ_ck ?_
        refine NJ_nn (fun b11 => ?_)
        refine NJ_ck ?_
        refine NJ_nn (fun b13 => ?_)
        refine NJ_ck ?_
        refine NJ_if ?_ ?_
        · exact nj_Law_inForce_J53 k4 hk4 _ _ _ _ _ hS
        · exact nj_Law_inForce_J51 k4 hk4 _ _ _ _ hS
theorem fj_Law_inForce_L4 {D : Nat → Prop} {M0 : Mm} (hT : Tp D M0) : ∀ (n : Nat) (x0 : Nat) (hx0 : D x0) (x1 : Int32) (x2 : Int32) (x3 : Int32) (M : Mm) (hF : Fr D M0 M), FJ D M0 (Law_inForce_L4 n x0 x1 x2 x3 M) := by
  intro n
  induction n with
  | zero => intros; exact FJ_none
  | succ n ih => intro x0 hx0 x1 x2 x3 M hF; exact fj_Law_inForce_B4 hT _ ih x0 hx0 x1 x2 x3 M hF
theorem nj_Law_inForce_L4 {M0 : Mm} : ∀ (n : Nat) (x0 : Nat) (x1 : Int32) (x2 : Int32) (x3 : Int32) (M : Mm) (hS : Sm M0 M), NJ M0 (Law_inForce_L4 n x0 x1 x2 x3 M) := by
  intro n
  induction n with
  | zero => intros; exact NJ_none
  | succ n ih => intro x0 x1 x2 x3 M hS; exact nj_Law_inForce_B4 _ ih x0 x1 x2 x3 M hS
theorem fj_Law_inForce {D : Nat → Prop} {M : Mm} (hC : Cl D M) (hT : Tp D M) (a0 : Nat) (h0 : D a0) (a1 : Int32) : FJ D M (Law_inForce M a0 a1) := by
  unfold Law_inForce
  exact fj_Law_inForce_L4 hT fu _ h0 _ _ _ _ (Fr.rf hC)
theorem nj_Law_inForce (M : Mm) (a0 : Nat) (a1 : Int32) : NJ M (Law_inForce M a0 a1) := by
  unfold Law_inForce
  exact nj_Law_inForce_L4 fu _ _ _ _ _ Sm.rf
theorem fj_Law_ask_J29 {D : Nat → Prop} {M0 : Mm} (hT : Tp D M0) (x0 : Nat) (hx0 : D x0) (x1 : Int32) (x3 : Int32) (s0 : Int32) (M : Mm) (hF : Fr D M0 M) : FJ D M0 (Law_ask_J29 x0 x1 x3 s0 M) := by
  unfold Law_ask_J29
  refine FJ_if ?_ ?_
  · refine FJ_if ?_ ?_
    · exact FJ_leaf hF
    · refine FJ_if ?_ ?_
      · exact FJ_leaf hF
      · refine FJ_ck ?_
        exact FJ_leaf hF
  · refine FJ_ck ?_
    refine FJ_nn hF hx0 (fun b14 hb14 => ?_)
    refine FJ_ck ?_
    refine FJ_nn hF hb14 (fun b16 hb16 => ?_)
    refine FJ_ck ?_
    refine FJ_nn hF hb16 (fun b18 hb18 => ?_)
    refine FJ_ck ?_
    exact FJ_leaf hF
theorem nj_Law_ask_J29 {M0 : Mm} (x0 : Nat) (x1 : Int32) (x3 : Int32) (s0 : Int32) (M : Mm) (hS : Sm M0 M) : NJ M0 (Law_ask_J29 x0 x1 x3 s0 M) := by
  unfold Law_ask_J29
  refine NJ_if ?_ ?_
  · refine NJ_if ?_ ?_
    · exact NJ_leaf hS
    · refine NJ_if ?_ ?_
      · exact NJ_leaf hS
      · refine NJ_ck ?_
        exact NJ_leaf hS
  · refine NJ_ck ?_
    refine NJ_nn (fun b14 => ?_)
    refine NJ_ck ?_
    refine NJ_nn (fun b16 => ?_)
    refine NJ_ck ?_
    refine NJ_nn (fun b18 => ?_)
    refine NJ_ck ?_
    exact NJ_leaf hS
theorem fj_Law_ask {D : Nat → Prop} {M : Mm} (hC : Cl D M) (hT : Tp D M) (a0 : Nat) (h0 : D a0) (a1 : Int32) (a2 : Int32) : FJ D M (Law_ask M a0 a1 a2) := by
  unfold Law_ask
  refine FJ_ck ?_
  refine FJ_bd hT (Fr.rf hC) (fun gC gT => fj_Law_inForce gC gT _ h0 _) (fun r2 M3 hFM3 => ?_)
  refine FJ_if ?_ ?_
  · exact fj_Law_ask_J29 hT _ h0 _ _ _ _ hFM3
  · refine FJ_ck ?_
    refine FJ_nn hFM3 h0 (fun b5 hb5 => ?_)
    refine FJ_ck ?_
    refine FJ_nn hFM3 hb5 (fun b7 hb7 => ?_)
    refine FJ_nn hFM3 h0 (fun b8 hb8 => ?_)
    refine FJ_ck ?_
    refine FJ_bd hT hFM3 (fun gC gT => fj_Edict_lastThatHolds gC gT _ hb7 _ _ hb8) (fun r10 M11 hFM11 => ?_)
    exact fj_Law_ask_J29 hT _ h0 _ _ _ _ hFM11
theorem nj_Law_ask (M : Mm) (a0 : Nat) (a1 : Int32) (a2 : Int32) : NJ M (Law_ask M a0 a1 a2) := by
  unfold Law_ask
  refine NJ_ck ?_
  refine NJ_bd Sm.rf (nj_Law_inForce _ _ _) (fun r2 M3 hSM3 => ?_)
  refine NJ_if ?_ ?_
  · exact nj_Law_ask_J29 _ _ _ _ _ hSM3
  · refine NJ_ck ?_
    refine NJ_nn (fun b5 => ?_)
    refine NJ_ck ?_
    refine NJ_nn (fun b7 => ?_)
    refine NJ_nn (fun b8 => ?_)
    refine NJ_ck ?_
    refine NJ_bd hSM3 (nj_Edict_lastThatHolds _ _ _ _) (fun r10 M11 hSM11 => ?_)
    exact nj_Law_ask_J29 _ _ _ _ _ hSM11
theorem fj_Law_isFull {D : Nat → Prop} {M : Mm} (hC : Cl D M) (hT : Tp D M) (a0 : Nat) (h0 : D a0) : FJ D M (Law_isFull M a0) := by
  unfold Law_isFull
  refine FJ_ck ?_
  refine FJ_if ?_ ?_
  · exact FJ_leaf (Fr.rf hC)
  · exact FJ_leaf (Fr.rf hC)
theorem nj_Law_isFull (M : Mm) (a0 : Nat) : NJ M (Law_isFull M a0) := by
  unfold Law_isFull
  refine NJ_ck ?_
  refine NJ_if ?_ ?_
  · exact NJ_leaf Sm.rf
  · exact NJ_leaf Sm.rf
theorem fj_Law_read_B16 {D : Nat → Prop} {M0 : Mm} (hT : Tp D M0) (k16 : Nat → Int32 → Mm → Option (Int32 × Mm)) (hk16 : ∀ (x0 : Nat) (hx0 : D x0) (x3 : Int32) (M : Mm) (hF : Fr D M0 M), FJ D M0 (k16 x0 x3 M)) (x0 : Nat) (hx0 : D x0) (x3 : Int32) (M : Mm) (hF : Fr D M0 M) : FJ D M0 (Law_read_B16 k16 x0 x3 M) := by
  unfold Law_read_B16
  refine FJ_if ?_ ?_
  · exact FJ_leaf hF
  · refine FJ_ck ?_
    refine FJ_nn hF hx0 (fun b8 hb8 => ?_)
    refine FJ_ck ?_
    refine FJ_bd hT hF (fun gC gT => fj_Scribe_isAtEnd gC gT _ hb8) (fun r10 M11 hFM11 => ?_)
    refine FJ_if ?_ ?_
    · refine FJ_ck ?_
      refine FJ_nn hFM11 hx0 (fun b13 hb13 => ?_)
      refine FJ_ck ?_
      refine FJ_bd hT hFM11 (fun gC gT => fj_Scribe_readStatement gC gT _ hb13) (fun r15 M16 hFM16 => ?_)
      refine FJ_if ?_ ?_
      · refine FJ_ck ?_
        refine FJ_nn hFM16 hx0 (fun b19 hb19 => ?_)
        refine FJ_ck ?_
        refine FJ_bd hT hFM16 (fun gC gT => fj_Scribe_placeReached gC gT _ hb19) (fun r21 M22 hFM22 => ?_)
        refine FJ_ck ?_
        exact FJ_leaf (Fr_sI hFM22 hx0)
      · exact hk16 _ hx0 _ _ hFM16
    · exact FJ_leaf hFM11
theorem nj_Law_read_B16 {M0 : Mm} (k16 : Nat → Int32 → Mm → Option (Int32 × Mm)) (hk16 : ∀ (x0 : Nat) (x3 : Int32) (M : Mm) (hS : Sm M0 M), NJ M0 (k16 x0 x3 M)) (x0 : Nat) (x3 : Int32) (M : Mm) (hS : Sm M0 M) : NJ M0 (Law_read_B16 k16 x0 x3 M) := by
  unfold Law_read_B16
  refine NJ_if ?_ ?_
  · exact NJ_leaf hS
  · refine NJ_ck ?_
    refine NJ_nn (fun b8 => ?_)
    refine NJ_ck ?_
    refine NJ_bd hS (nj_Scribe_isAtEnd _ _) (fun r10 M11 hSM11 => ?_)
    refine NJ_if ?_ ?_
    · refine NJ_ck ?_
      refine NJ_nn (fun b13 => ?_)
      refine NJ_ck ?_
      refine NJ_bd hSM11 (nj_Scribe_readStatement _ _) (fun r15 M16 hSM16 => ?_)
      refine NJ_if ?_ ?_
      · refine NJ_ck ?_
        refine NJ_nn (fun b19 => ?_)
        refine NJ_ck ?_
        refine NJ_bd hSM16 (nj_Scribe_placeReached _ _) (fun r21 M22 hSM22 => ?_)
        refine NJ_ck ?_
        exact NJ_leaf (Sm_sI hSM22)
      · exact hk16 _ _ _ hSM16
    · exact NJ_leaf hSM11
theorem fj_Law_read_L16 {D : Nat → Prop} {M0 : Mm} (hT : Tp D M0) : ∀ (n : Nat) (x0 : Nat) (hx0 : D x0) (x3 : Int32) (M : Mm) (hF : Fr D M0 M), FJ D M0 (Law_read_L16 n x0 x3 M) := by
  intro n
  induction n with
  | zero => intros; exact FJ_none
  | succ n ih => intro x0 hx0 x3 M hF; exact fj_Law_read_B16 hT _ ih x0 hx0 x3 M hF
theorem nj_Law_read_L16 {M0 : Mm} : ∀ (n : Nat) (x0 : Nat) (x3 : Int32) (M : Mm) (hS : Sm M0 M), NJ M0 (Law_read_L16 n x0 x3 M) := by
  intro n
  induction n with
  | zero => intros; exact NJ_none
  | succ n ih => intro x0 x3 M hS; exact nj_Law_read_B16 _ ih x0 x3 M hS
theorem fj_Law_read {D : Nat → Prop} {M : Mm} (hC : Cl D M) (hT : Tp D M) (a0 : Nat) (h0 : D a0) (a1 : Nat) (h1 : D a1) (a2 : Int32) : FJ D M (Law_read M a0 a1 a2) := by
  unfold Law_read
  refine FJ_ck ?_
  refine FJ_nn (Fr_sI (Fr.rf hC) h0) h0 (fun b3 hb3 => ?_)
  refine FJ_ck ?_
  refine FJ_bd hT (Fr_sI (Fr.rf hC) h0) (fun gC gT => fj_Scribe_begin gC gT _ hb3 _ h1 _) (fun _ M6 hFM6 => ?_)
  exact fj_Law_read_L16 hT fu _ h0 _ _ hFM6
theorem nj_Law_read (M : Mm) (a0 : Nat) (a1 : Nat) (a2 : Int32) : NJ M (Law_read M a0 a1 a2) := by
  unfold Law_read
  refine NJ_ck ?_
  refine NJ_nn (fun b3 => ?_)
  refine NJ_ck ?_
  refine NJ_bd (Sm_sI Sm.rf) (nj_Scribe_begin _ _ _ _) (fun _ M6 hSM6 => ?_)
  exact nj_Law_read_L16 fu _ _ _ hSM6
theorem fj_Law_keep {D : Nat → Prop} {M : Mm} (hC : Cl D M) (hT : Tp D M) (a0 : Nat) (h0 : D a0) (a1 : Int32) : FJ D M (Law_keep M a0 a1) := by
  unfold Law_keep
  refine FJ_ck ?_
  refine FJ_bd hT (Fr.rf hC) (fun gC gT => fj_Law_isFull gC gT _ h0) (fun r2 M3 hFM3 => ?_)
  refine FJ_if ?_ ?_
  · refine FJ_ck ?_
    refine FJ_nn hFM3 h0 (fun b5 hb5 => ?_)
    refine FJ_ck ?_
    refine FJ_nn (Fr_nw hT hFM3) h0 (fun b8 hb8 => ?_)
    refine FJ_bd hT (Fr_nw hT hFM3) (fun gC gT => fj_Edict_new gC gT _ (hT _ (Fr.z hFM3)) _ hb8 _) (fun _ M10 hFM10 => ?_)
    refine FJ_ck ?_
    refine FJ_ck ?_
    refine FJ_ck ?_
    exact FJ_leaf (Fr_sI (Fr_sRs hFM10 hb5 (hT _ (Fr.z hFM3))) h0)
  · exact FJ_leaf hFM3
theorem fj_Law_minuteOf {D : Nat → Prop} {M : Mm} (hC : Cl D M) (hT : Tp D M) (a0 : Nat) (h0 : D a0) (a1 : Int32) : FJ D M (Law_minuteOf M a0 a1) := by
  unfold Law_minuteOf
  refine FJ_if ?_ ?_
  · exact FJ_leaf (Fr.rf hC)
  · refine FJ_ck ?_
    refine FJ_if ?_ ?_
    · exact FJ_leaf (Fr.rf hC)
    · refine FJ_nn (Fr.rf hC) h0 (fun b2 hb2 => ?_)
      refine FJ_ck ?_
      refine FJ_nn (Fr.rf hC) hb2 (fun b4 hb4 => ?_)
      refine FJ_ck ?_
      exact FJ_leaf (Fr.rf hC)
theorem nj_Law_minuteOf (M : Mm) (a0 : Nat) (a1 : Int32) : NJ M (Law_minuteOf M a0 a1) := by
  unfold Law_minuteOf
  refine NJ_if ?_ ?_
  · exact NJ_leaf Sm.rf
  · refine NJ_ck ?_
    refine NJ_if ?_ ?_
    · exact NJ_leaf Sm.rf
    · refine NJ_nn (fun b2 => ?_)
      refine NJ_ck ?_
      refine NJ_nn (fun b4 => ?_)
      refine NJ_ck ?_
      exact NJ_leaf Sm.rf
theorem fj_Ruin_new {D : Nat → Prop} {M : Mm} (hC : Cl D M) (hT : Tp D M) (a0 : Nat) (h0 : D a0) : FJ D M (Ruin_new M a0) := by
  unfold Ruin_new
  refine FJ_ck ?_
  refine FJ_ck ?_
  refine FJ_ck ?_
  exact FJ_leaf (Fr_sRs (Fr_nw hT (Fr_sRs (Fr_nw hT (Fr_sRs (Fr_nw hT (Fr.rf hC)) h0 (hT _ (Fr.z (Fr.rf hC))))) h0 (hT _ (Fr.z (Fr_sRs (Fr_nw hT (Fr.rf hC)) h0 (hT _ (Fr.z (Fr.rf hC)))))))) h0 (hT _ (Fr.z (Fr_sRs (Fr_nw hT (Fr_sRs (Fr_nw hT (Fr.rf hC)) h0 (hT _ (Fr.z (Fr.rf hC))))) h0 (hT _ (Fr.z (Fr_sRs (Fr_nw hT (Fr.rf hC)) h0 (hT _ (Fr.z (Fr.rf hC))))))))))
theorem fj_Ruin_owedTo_J81 {D : Nat → Prop} {M0 : Mm} (hT : Tp D M0) (k6 : Nat → Int32 → Nat → Int32 → Int32 → Int64 → Int32 → Mm → Option (Int64 × Mm)) (hk6 : ∀ (x0 : Nat) (hx0 : D x0) (x1 : Int32) (x2 : Nat) (hx2 : D x2) (x3 : Int32) (x4 : Int32) (x5 : Int64) (x7 : Int32) (M : Mm) (hF : Fr D M0 M), FJ D M0 (k6 x0 x1 x2 x3 x4 x5 x7 M)) (x0 : Nat) (hx0 : D x0) (x1 : Int32) (x2 : Nat) (hx2 : D x2) (x3 : Int32) (x4 : Int32) (x7 : Int32) (s0 : Int64) (s1 : Int64) (M : Mm) (hF : Fr D M0 M) : FJ D M0 (Ruin_owedTo_J81 k6 x0 x1 x2 x3 x4 x7 s0 s1 M) := by
  unfold Ruin_owedTo_J81
  exact hk6 _ hx0 _ _ hx2 _ _ _ _ _ hF
theorem nj_Ruin_owedTo_J81 {M0 : Mm} (k6 : Nat → Int32 → Nat → Int32 → Int32 → Int64 → Int32 → Mm → Option (Int64 × Mm)) (hk6 : ∀ (x0 : Nat) (x1 : Int32) (x2 : Nat) (x3 : Int32) (x4 : Int32) (x5 : Int64) (x7 : Int32) (M : Mm) (hS : Sm M0 M), NJ M0 (k6 x0 x1 x2 x3 x4 x5 x7 M)) (x0 : Nat) (x1 : Int32) (x2 : Nat) (x3 : Int32) (x4 : Int32) (x7 : Int32) (s0 : Int64) (s1 : Int64) (M : Mm) (hS : Sm M0 M) : NJ M0 (Ruin_owedTo_J81 k6 x0 x1 x2 x3 x4 x7 s0 s1 M) := by
  unfold Ruin_owedTo_J81
  exact hk6 _ _ _ _ _ _ _ _ hS
theorem fj_Ruin_owedTo_J50 {D : Nat → Prop} {M0 : Mm} (hT : Tp D M0) (k6 : Nat → Int32 → Nat → Int32 → Int32 → Int64 → Int32 → Mm → Option (Int64 × Mm)) (hk6 : ∀ (x0 : Nat) (hx0 : D x0) (x1 : Int32) (x2 : Nat) (hx2 : D x2) (x3 : Int32) (x4 : Int32) (x5 : Int64) (x7 : Int32) (M : Mm) (hF : Fr D M0 M), FJ D M0 (k6 x0 x1 x2 x3 x4 x5 x7 M)) (x0 : Nat) (hx0 : D x0) (x1 : Int32) (x2 : Nat) (hx2 : D x2) (x3 : Int32) (x4 : Int32) (x5 : Int64) (x7 : Int32) (x8 : Int32) (s0 : Int32) (M : Mm) (hF : Fr D M0 M) : FJ D M0 (Ruin_owedTo_J50 k6 x0 x1 x2 x3 x4 x5 x7 x8 s0 M) := by
  unfold Ruin_owedTo_J50
  refine FJ_if ?_ ?_
  · exact fj_Ruin_owedTo_J81 hT k6 hk6 _ hx0 _ _ hx2 _ _ _ _ _ _ hF
  · refine FJ_ck ?_
    refine FJ_nn hF hx0 (fun b13 hb13 => ?_)
    refine FJ_ck ?_
    exact fj_Ruin_owedTo_J81 hT k6 hk6 _ hx0 _ _ hx2 _ _ _ _ _ _ hF
theorem nj_Ruin_owedTo_J50 {M0 : Mm} (k6 : Nat → Int32 → Nat → Int32 → Int32 → Int64 → Int32 → Mm → Option (Int64 × Mm)) (hk6 : ∀ (x0 : Nat) (x1 : Int32) (x2 : Nat) (x3 : Int32) (x4 : Int32) (x5 : Int64) (x7 : Int32) (M : Mm) (hS : Sm M0 M), NJ M0 (k6 x0 x1 x2 x3 x4 x5 x7 M)) (x0 : Nat) (x1 : Int32) (x2 : Nat) (x3 : Int32) (x4 : Int32) (x5 : Int64) (x7 : Int32) (x8 : Int32) (s0 : Int32) (M : Mm) (hS : Sm M0 M) : NJ M0 (Ruin_owedTo_J50 k6 x0 x1 x2 x3 x4 x5 x7 x8 s0 M) := by
  unfold Ruin_owedTo_J50
  refine NJ_if ?_ ?_
  · exact nj_Ruin_owedTo_J81 k6 hk6 _ _ _ _ _ _ _ _ _ hS
  · refine NJ_ck ?_
    refine NJ_nn (fun b13 => ?_)
    refine NJ_ck ?_
    exact nj_Ruin_owedTo_J81 k6 hk6 _ _ _ _ _ _ _ _ _ hS
theorem fj_Ruin_owedTo_J49 {D : Nat → Prop} {M0 : Mm} (hT : Tp D M0) (k6 : Nat → Int32 → Nat → Int32 → Int32 → Int64 → Int32 → Mm → Option (Int64 × Mm)) (hk6 : ∀ (x0 : Nat) (hx0 : D x0) (x1 : Int32) (x2 : Nat) (hx2 : D x2) (x3 : Int32) (x4 : Int32) (x5 : Int64) (x7 : Int32) (M : Mm) (hF : Fr D M0 M), FJ D M0 (k6 x0 x1 x2 x3 x4 x5 x7 M)) (x0 : Nat) (hx0 : D x0) (x1 : Int32) (x2 : Nat) (hx2 : D x2) (x3 : Int32) (x4 : Int32) (x5 : Int64) (x7 : Int32) (x8 : Int32) (M : Mm) (hF : Fr D M0 M) : FJ D M0 (Ruin_owedTo_J49 k6 x0 x1 x2 x3 x4 x5 x7 x8 M) := by
  unfold Ruin_owedTo_J49
  exact fj_Ruin_owedTo_J50 hT k6 hk6 _ hx0 _ _ hx2 _ _ _ _ _ _ _ hF
theorem nj_Ruin_owedTo_J49 {M0 : Mm} (k6 : Nat → Int32 → Nat → Int32 → Int32 → Int64 → Int32 → Mm → Option (Int64 × Mm)) (hk6 : ∀ (x0 : Nat) (x1 : Int32) (x2 : Nat) (x3 : Int32) (x4 : Int32) (x5 : Int64) (x7 : Int32) (M : Mm) (hS : Sm M0 M), NJ M0 (k6 x0 x1 x2 x3 x4 x5 x7 M)) (x0 : Nat) (x1 : Int32) (x2 : Nat) (x3 : Int32) (x4 : Int32) (x5 : Int64) (x7 : Int32) (x8 : Int32) (M : Mm) (hS : Sm M0 M) : NJ M0 (Ruin_owedTo_J49 k6 x0 x1 x2 x3 x4 x5 x7 x8 M) := by
  unfold Ruin_owedTo_J49
  exact nj_Ruin_owedTo_J50 k6 hk6 _ _ _ _ _ _ _ _ _ _ hS
theorem fj_Ruin_owedTo_B6 {D : Nat → Prop} {M0 : Mm} (hT : Tp D M0) (k6 : Nat → Int32 → Nat → Int32 → Int32 → Int64 → Int32 → Mm → Option (Int64 × Mm)) (hk6 : ∀ (x0 : Nat) (hx0 : D x0) (x1 : Int32) (x2 : Nat) (hx2 : D x2) (x3 : Int32) (x4 : Int32) (x5 : Int64) (x7 : Int32) (M : Mm) (hF : Fr D M0 M), FJ D M0 (k6 x0 x1 x2 x3 x4 x5 x7 M)) (x0 : Nat) (hx0 : D x0) (x1 : Int32) (x2 : Nat) (hx2 : D x2) (x3 : Int32) (x4 : Int32) (x5 : Int64) (x7 : Int32) (M : Mm) (hF : Fr D M0 M) : FJ D M0 (Ruin_owedTo_B6 k6 x0 x1 x2 x3 x4 x5 x7 M) := by
  unfold Ruin_owedTo_B6
  refine FJ_if ?_ ?_
  · exact FJ_leaf hF
  · refine FJ_ck ?_
    refine FJ_nn hF hx2 (fun b2 hb2 => ?_)
    refine FJ_ck ?_
    refine FJ_nn hF hb2 (fun b4 hb4 => ?_)
    refine FJ_ck ?_
    refine FJ_ck ?_
    refine FJ_nn hF hx0 (fun b8 hb8 => ?_)
    refine FJ_ck ?_
    refine FJ_if ?_ ?_
    · exact fj_Ruin_owedTo_J49 hT k6 hk6 _ hx0 _ _ hx2 _ _ _ _ _ _ hF
    · refine FJ_nn hF hx0 (fun b15 hb15 => ?_)
      refine FJ_ck ?_
      refine FJ_if ?_ ?_
      · exact fj_Ruin_owedTo_J49 hT k6 hk6 _ hx0 _ _ hx2 _ _ _ _ _ _ hF
      · exact fj_Ruin_owedTo_J50 hT k6 hk6 _ hx0 _ _ hx2 _ _ _ _ _ _ _ hF
theorem nj_Ruin_owedTo_B6 {M0 : Mm} (k6 : Nat → Int32 → Nat → Int32 → Int32 → Int64 → Int32 → Mm → Option (Int64 × Mm)) (hk6 : ∀ (x0 : Nat) (x1 : Int32) (x2 : Nat) (x3 : Int32) (x4 : Int32) (x5 : Int64) (x7 : Int32) (M : Mm) (hS : Sm M0 M), NJ M0 (k6 x0 x1 x2 x3 x4 x5 x7 M)) (x0 : Nat) (x1 : Int32) (x2 : Nat) (x3 : Int32) (x4 : Int32) (x5 : Int64) (x7 : Int32) (M : Mm) (hS : Sm M0 M) : NJ M0 (Ruin_owedTo_B6 k6 x0 x1 x2 x3 x4 x5 x7 M) := by
  unfold Ruin_owedTo_B6
  refine NJ_if ?_ ?_
  · exact NJ_leaf hS
  · refine NJ_ck ?_
    refine NJ_nn (fun b2 => ?_)
    refine NJ_ck ?_
    refine NJ_nn (fun b4 => ?_)
    refine NJ_ck ?_
    refine NJ_ck ?_
    refine NJ_nn (fun b8 => ?_)
    refine NJ_ck ?_
    refine NJ_if ?_ ?_
    · exact nj_Ruin_owedTo_J49 k6 hk6 _ _ _ _ _ _ _ _ _ hS
    · refine NJ_nn (fun b15 => ?_)
      refine NJ_ck ?_
      refine NJ_if ?_ ?_
      · exact nj_Ruin_owedTo_J49 k6 hk6 _ _ _ _ _ _ _ _ _ hS
      · exact nj_Ruin_owedTo_J50 k6 hk6 _ _ _ _ _ _ _ _ _ _ hS
theorem fj_Ruin_owedTo_L6 {D : Nat → Prop} {M0 : Mm} (hT : Tp D M0) : ∀ (n : Nat) (x0 : Nat) (hx0 : D x0) (x1 : Int32) (x2 : Nat) (hx2 : D x2) (x3 : Int32) (x4 : Int32) (x5 : Int64) (x7 : Int32) (M : Mm) (hF : Fr D M0 M), FJ D M0 (Ruin_owedTo_L6 n x0 x1 x2 x3 x4 x5 x7 M) := by
  intro n
  induction n with
  | zero => intros; exact FJ_none
  | succ n ih => intro x0 hx0 x1 x2 hx2 x3 x4 x5 x7 M hF; exact fj_Ruin_owedTo_B6 hT _ ih x0 hx0 x1 x2 hx2 x3 x4 x5 x7 M hF
theorem nj_Ruin_owedTo_L6 {M0 : Mm} : ∀ (n : Nat) (x0 : Nat) (x1 : Int32) (x2 : Nat) (x3 : Int32) (x4 : Int32) (x5 : Int64) (x7 : Int32) (M : Mm) (hS : Sm M0 M), NJ M0 (Ruin_owedTo_L6 n x0 x1 x2 x3 x4 x5 x7 M) := by
  intro n
  induction n with
  | zero => intros; exact NJ_none
  | succ n ih => intro x0 x1 x2 x3 x4 x5 x7 M hS; exact nj_Ruin_owedTo_B6 _ ih x0 x1 x2 x3 x4 x5 x7 M hS
theorem fj_Ruin_owedTo {D : Nat → Prop} {M : Mm} (hC : Cl D M) (hT : Tp D M) (a0 : Nat) (h0 : D a0) (a1 : Int32) (a2 : Nat) (h2 : D a2) (a3 : Int32) (a4 : Int32) : FJ D M (Ruin_owedTo M a0 a1 a2 a3 a4) := by
  unfold Ruin_owedTo
  exact fj_Ruin_owedTo_L6 hT fu _ h0 _ _ h2 _ _ _ _ _ (Fr.rf hC)
theorem nj_Ruin_owedTo (M : Mm) (a0 : Nat) (a1 : Int32) (a2 : Nat) (a3 : Int32) (a4 : Int32) : NJ M (Ruin_owedTo M a0 a1 a2 a3 a4) := by
  unfold Ruin_owedTo
  exact nj_Ruin_owedTo_L6 fu _ _ _ _ _ _ _ _ Sm.rf
theorem fj_Ruin_debtsOf_B13 {D : Nat → Prop} {M0 : Mm} (hT : Tp D M0) (k13 : Nat → Int32 → Int64 → Int32 → Mm → Option (Int64 × Mm)) (hk13 : ∀ (x0 : Nat) (hx0 : D x0) (x1 : Int32) (x2 : Int64) (x4 : Int32) (M : Mm) (hF : Fr D M0 M), FJ D M0 (k13 x0 x1 x2 x4 M)) (x0 : Nat) (hx0 : D x0) (x1 : Int32) (x2 : Int64) (x4 : Int32) (M : Mm) (hF : Fr D M0 M) : FJ D M0 (Ruin_debtsOf_B13 k13 x0 x1 x2 x4 M) := by
  unfold Ruin_debtsOf_B13
  refine FJ_if ?_ ?_
  · exact FJ_leaf hF
  · refine FJ_ck ?_
    refine FJ_nn hF hx0 (fun b5 hb5 => ?_)
    refine FJ_ck ?_
    exact hk13 _ hx0 _ _ _ _ hF
theorem nj_Ruin_debtsOf_B13 {M0 : Mm} (k13 : Nat → Int32 → Int64 → Int32 → Mm → Option (Int64 × Mm)) (hk13 : ∀ (x0 : Nat) (x1 : Int32) (x2 : Int64) (x4 : Int32) (M : Mm) (hS : Sm M0 M), NJ M0 (k13 x0 x1 x2 x4 M)) (x0 : Nat) (x1 : Int32) (x2 : Int64) (x4 : Int32) (M : Mm) (hS : Sm M0 M) : NJ M0 (Ruin_debtsOf_B13 k13 x0 x1 x2 x4 M) := by
  unfold Ruin_debtsOf_B13
  refine NJ_if ?_ ?_
  · exact NJ_leaf hS
  · refine NJ_ck ?_
    refine NJ_nn (fun b5 => ?_)
    refine NJ_ck ?_
    exact hk13 _ _ _ _ _ hS
theorem fj_Ruin_debtsOf_L13 {D : Nat → Prop} {M0 : Mm} (hT : Tp D M0) : ∀ (n : Nat) (x0 : Nat) (hx0 : D x0) (x1 : Int32) (x2 : Int64) (x4 : Int32) (M : Mm) (hF : Fr D M0 M), FJ D M0 (Ruin_debtsOf_L13 n x0 x1 x2 x4 M) := by
  intro n
  induction n with
  | zero => intros; exact FJ_none
  | succ n ih => intro x0 hx0 x1 x2 x4 M hF; exact fj_Ruin_debtsOf_B13 hT _ ih x0 hx0 x1 x2 x4 M hF
theorem nj_Ruin_debtsOf_L13 {M0 : Mm} : ∀ (n : Nat) (x0 : Nat) (x1 : Int32) (x2 : Int64) (x4 : Int32) (M : Mm) (hS : Sm M0 M), NJ M0 (Ruin_debtsOf_L13 n x0 x1 x2 x4 M) := by
  intro n
  induction n with
  | zero => intros; exact NJ_none
  | succ n ih => intro x0 x1 x2 x4 M hS; exact nj_Ruin_debtsOf_B13 _ ih x0 x1 x2 x4 M hS
theorem fj_Ruin_debtsOf {D : Nat → Prop} {M : Mm} (hC : Cl D M) (hT : Tp D M) (a0 : Nat) (h0 : D a0) (a1 : Int32) : FJ D M (Ruin_debtsOf M a0 a1) := by
  unfold Ruin_debtsOf
  refine FJ_ck ?_
  refine FJ_bd hT (Fr.rf hC) (fun gC gT => fj_Math_max_L gC gT _ _) (fun r2 M3 hFM3 => ?_)
  exact fj_Ruin_debtsOf_L13 hT fu _ h0 _ _ _ _ hFM3
theorem nj_Ruin_debtsOf (M : Mm) (a0 : Nat) (a1 : Int32) : NJ M (Ruin_debtsOf M a0 a1) := by
  unfold Ruin_debtsOf
  refine NJ_ck ?_
  refine NJ_bd Sm.rf (nj_Math_max_L _ _ _) (fun r2 M3 hSM3 => ?_)
  exact nj_Ruin_debtsOf_L13 fu _ _ _ _ _ hSM3
