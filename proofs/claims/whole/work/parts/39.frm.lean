theorem fj_Mod_opens_J13 {D : Nat → Prop} {M0 : Mm} (hT : Tp D M0) (x0 : Nat) (hx0 : D x0) (M : Mm) (hF : Fr D M0 M) : FJ D M0 (Mod_opens_J13 x0 M) := by
  unfold Mod_opens_J13
  refine FJ_ck ?_
  refine FJ_bd hT (Fr_sI hF hx0) (fun gC gT => fj_Mod_next gC gT _ hx0) (fun _ M5 hFM5 => ?_)
  exact FJ_leaf hFM5
theorem nj_Mod_opens_J13 {M0 : Mm} (x0 : Nat) (M : Mm) (hS : Sm M0 M) : NJ M0 (Mod_opens_J13 x0 M) := by
  unfold Mod_opens_J13
  refine NJ_ck ?_
  refine NJ_bd (Sm_sI hS) (nj_Mod_next _ _) (fun _ M5 hSM5 => ?_)
  exact NJ_leaf hSM5
theorem fj_Mod_opens {D : Nat → Prop} {M : Mm} (hC : Cl D M) (hT : Tp D M) (a0 : Nat) (h0 : D a0) : FJ D M (Mod_opens M a0) := by
  unfold Mod_opens
  refine FJ_ck ?_
  refine FJ_if ?_ ?_
  · refine FJ_bd hT (Fr.rf hC) (fun gC gT => fj_Mod_fails0 gC gT _ h0) (fun _ M7 hFM7 => ?_)
    exact fj_Mod_opens_J13 hT _ h0 _ hFM7
  · exact fj_Mod_opens_J13 hT _ h0 _ (Fr.rf hC)
theorem nj_Mod_opens (M : Mm) (a0 : Nat) : NJ M (Mod_opens M a0) := by
  unfold Mod_opens
  refine NJ_ck ?_
  refine NJ_if ?_ ?_
  · refine NJ_bd Sm.rf (nj_Mod_fails0 _ _) (fun _ M7 hSM7 => ?_)
    exact nj_Mod_opens_J13 _ _ hSM7
  · exact nj_Mod_opens_J13 _ _ Sm.rf
theorem fj_Mod_isSign {D : Nat → Prop} {M : Mm} (hC : Cl D M) (hT : Tp D M) (a0 : Nat) (h0 : D a0) (a1 : Int32) : FJ D M (Mod_isSign M a0 a1) := by
  unfold Mod_isSign
  refine FJ_ck ?_
  refine FJ_if ?_ ?_
  · refine FJ_if ?_ ?_
    · exact FJ_leaf (Fr.rf hC)
    · exact FJ_leaf (Fr.rf hC)
  · exact FJ_leaf (Fr.rf hC)
theorem nj_Mod_isSign (M : Mm) (a0 : Nat) (a1 : Int32) : NJ M (Mod_isSign M a0 a1) := by
  unfold Mod_isSign
  refine NJ_ck ?_
  refine NJ_if ?_ ?_
  · refine NJ_if ?_ ?_
    · exact NJ_leaf Sm.rf
    · exact NJ_leaf Sm.rf
  · exact NJ_leaf Sm.rf
theorem fj_Mod_nameOf {D : Nat → Prop} {M : Mm} (hC : Cl D M) (hT : Tp D M) (a0 : Nat) (h0 : D a0) (a1 : Int64) : FJ D M (Mod_nameOf M a0 a1) := by
  unfold Mod_nameOf
  refine FJ_if ?_ ?_
  · exact FJ_leaf (Fr.rf hC)
  · refine FJ_if ?_ ?_
    · exact FJ_leaf (Fr.rf hC)
    · refine FJ_if ?_ ?_
      · exact FJ_leaf (Fr.rf hC)
      · refine FJ_if ?_ ?_
        · exact FJ_leaf (Fr.rf hC)
        · refine FJ_if ?_ ?_
          · exact FJ_leaf (Fr.rf hC)
          · refine FJ_if ?_ ?_
            · exact FJ_leaf (Fr.rf hC)
            · refine FJ_if ?_ ?_
              · exact FJ_leaf (Fr.rf hC)
              · exact FJ_leaf (Fr.rf hC)
theorem nj_Mod_nameOf (M : Mm) (a0 : Nat) (a1 : Int64) : NJ M (Mod_nameOf M a0 a1) := by
  unfold Mod_nameOf
  refine NJ_if ?_ ?_
  · exact NJ_leaf Sm.rf
  · refine NJ_if ?_ ?_
    · exact NJ_leaf Sm.rf
    · refine NJ_if ?_ ?_
      · exact NJ_leaf Sm.rf
      · refine NJ_if ?_ ?_
        · exact NJ_leaf Sm.rf
        · refine NJ_if ?_ ?_
          · exact NJ_leaf Sm.rf
          · refine NJ_if ?_ ?_
            · exact NJ_leaf Sm.rf
            · refine NJ_if ?_ ?_
              · exact NJ_leaf Sm.rf
              · exact NJ_leaf Sm.rf
theorem fj_Mod_number_J25 {D : Nat → Prop} {M0 : Mm} (hT : Tp D M0) (x0 : Nat) (hx0 : D x0) (x2 : Int32) (M : Mm) (hF : Fr D M0 M) : FJ D M0 (Mod_number_J25 x0 x2 M) := by
  unfold Mod_number_J25
  refine FJ_ck ?_
  refine FJ_bd hT hF (fun gC gT => fj_Mod_fails0 gC gT _ hx0) (fun _ M5 hFM5 => ?_)
  exact FJ_leaf hFM5
theorem nj_Mod_number_J25 {M0 : Mm} (x0 : Nat) (x2 : Int32) (M : Mm) (hS : Sm M0 M) : NJ M0 (Mod_number_J25 x0 x2 M) := by
  unfold Mod_number_J25
  refine NJ_ck ?_
  refine NJ_bd hS (nj_Mod_fails0 _ _) (fun _ M5 hSM5 => ?_)
  exact NJ_leaf hSM5
theorem fj_Mod_number {D : Nat → Prop} {M : Mm} (hC : Cl D M) (hT : Tp D M) (a0 : Nat) (h0 : D a0) (a1 : Int32) : FJ D M (Mod_number M a0 a1) := by
  unfold Mod_number
  refine FJ_ck ?_
  refine FJ_if ?_ ?_
  · refine FJ_if ?_ ?_
    · exact fj_Mod_number_J25 hT _ h0 _ _ (Fr.rf hC)
    · refine FJ_bd hT (Fr.rf hC) (fun gC gT => fj_Mod_next gC gT _ h0) (fun _ M7 hFM7 => ?_)
      exact FJ_leaf hFM7
  · exact fj_Mod_number_J25 hT _ h0 _ _ (Fr.rf hC)
theorem nj_Mod_number (M : Mm) (a0 : Nat) (a1 : Int32) : NJ M (Mod_number M a0 a1) := by
  unfold Mod_number
  refine NJ_ck ?_
  refine NJ_if ?_ ?_
  · refine NJ_if ?_ ?_
    · exact nj_Mod_number_J25 _ _ _ Sm.rf
    · refine NJ_bd Sm.rf (nj_Mod_next _ _) (fun _ M7 hSM7 => ?_)
      exact NJ_leaf hSM7
  · exact nj_Mod_number_J25 _ _ _ Sm.rf
theorem fj_Mod_node {D : Nat → Prop} {M : Mm} (hC : Cl D M) (hT : Tp D M) (a0 : Nat) (h0 : D a0) (a1 : Int32) (a2 : Int32) (a3 : Int32) (a4 : Int32) : FJ D M (Mod_node M a0 a1 a2 a3 a4) := by
  unfold Mod_node
  refine FJ_ck ?_
  refine FJ_nn (Fr.rf hC) h0 (fun b2 hb2 => ?_)
  refine FJ_ck ?_
  refine FJ_nn (Fr_sI (Fr.rf hC) hb2) h0 (fun b5 hb5 => ?_)
  refine FJ_ck ?_
  refine FJ_nn (Fr_sI (Fr_sI (Fr.rf hC) hb2) hb5) h0 (fun b8 hb8 => ?_)
  refine FJ_ck ?_
  refine FJ_nn (Fr_sI (Fr_sI (Fr_sI (Fr.rf hC) hb2) hb5) hb8) h0 (fun b11 hb11 => ?_)
  refine FJ_ck ?_
  exact FJ_leaf (Fr_sI (Fr_sI (Fr_sI (Fr_sI (Fr_sI (Fr.rf hC) hb2) hb5) hb8) hb11) h0)
theorem nj_Mod_node (M : Mm) (a0 : Nat) (a1 : Int32) (a2 : Int32) (a3 : Int32) (a4 : Int32) : NJ M (Mod_node M a0 a1 a2 a3 a4) := by
  unfold Mod_node
  refine NJ_ck ?_
  refine NJ_nn (fun b2 => ?_)
  refine NJ_ck ?_
  refine NJ_nn (fun b5 => ?_)
  refine NJ_ck ?_
  refine NJ_nn (fun b8 => ?_)
  refine NJ_ck ?_
  refine NJ_nn (fun b11 => ?_)
  refine NJ_ck ?_
  exact NJ_leaf (Sm_sI (Sm_sI (Sm_sI (Sm_sI (Sm_sI Sm.rf)))))
theorem fj_Mod_ends {D : Nat → Prop} {M : Mm} (hC : Cl D M) (hT : Tp D M) (a0 : Nat) (h0 : D a0) (a1 : Int32) : FJ D M (Mod_ends M a0 a1) := by
  unfold Mod_ends
  refine FJ_ck ?_
  exact FJ_leaf (Fr_sI (Fr_sI (Fr.rf hC) h0) h0)
theorem nj_Mod_ends (M : Mm) (a0 : Nat) (a1 : Int32) : NJ M (Mod_ends M a0 a1) := by
  unfold Mod_ends
  refine NJ_ck ?_
  exact NJ_leaf (Sm_sI (Sm_sI Sm.rf))
theorem fj_Mod_fact_J229 {D : Nat → Prop} {M0 : Mm} (hT : Tp D M0) (x0 : Nat) (hx0 : D x0) (M : Mm) (hF : Fr D M0 M) : FJ D M0 (Mod_fact_J229 x0 M) := by
  unfold Mod_fact_J229
  refine FJ_ck ?_
  refine FJ_bd hT (Fr_sI hF hx0) (fun gC gT => fj_Mod_ends gC gT _ hx0 _) (fun _ M14 hFM14 => ?_)
  exact FJ_leaf hFM14
theorem nj_Mod_fact_J229 {M0 : Mm} (x0 : Nat) (M : Mm) (hS : Sm M0 M) : NJ M0 (Mod_fact_J229 x0 M) := by
  unfold Mod_fact_J229
  refine NJ_ck ?_
  refine NJ_bd (Sm_sI hS) (nj_Mod_ends _ _ _) (fun _ M14 hSM14 => ?_)
  exact NJ_leaf hSM14
theorem fj_Mod_fact_J137 {D : Nat → Prop} {M0 : Mm} (hT : Tp D M0) (x0 : Nat) (hx0 : D x0) (x2 : Int32) (x3 : Int32) (M : Mm) (hF : Fr D M0 M) : FJ D M0 (Mod_fact_J137 x0 x2 x3 M) := by
  unfold Mod_fact_J137
  refine FJ_ck ?_
  refine FJ_bd hT hF (fun gC gT => fj_Mod_next gC gT _ hx0) (fun _ M39 hFM39 => ?_)
  refine FJ_ck ?_
  refine FJ_bd hT hFM39 (fun gC gT => fj_Mod_number gC gT _ hx0 _) (fun r41 M42 hFM42 => ?_)
  refine FJ_ck ?_
  refine FJ_if ?_ ?_
  · refine FJ_bd hT hFM42 (fun gC gT => fj_Mod_node gC gT _ hx0 _ _ _ _) (fun r44 M45 hFM45 => ?_)
    refine FJ_ck ?_
    refine FJ_bd hT hFM45 (fun gC gT => fj_Mod_ends gC gT _ hx0 _) (fun _ M48 hFM48 => ?_)
    exact FJ_leaf hFM48
  · exact FJ_leaf hFM42
theorem nj_Mod_fact_J137 {M0 : Mm} (x0 : Nat) (x2 : Int32) (x3 : Int32) (M : Mm) (hS : Sm M0 M) : NJ M0 (Mod_fact_J137 x0 x2 x3 M) := by
  unfold Mod_fact_J137
  refine NJ_ck ?_
  refine NJ_bd hS (nj_Mod_next _ _) (fun _ M39 hSM39 => ?_)
  refine NJ_ck ?_
  refine NJ_bd hSM39 (nj_Mod_number _ _ _) (fun r41 M42 hSM42 => ?_)
  refine NJ_ck ?_
  refine NJ_if ?_ ?_
  · refine NJ_bd hSM42 (nj_Mod_node _ _ _ _ _ _) (fun r44 M45 hSM45 => ?_)
    refine NJ_ck ?_
    refine NJ_bd hSM45 (nj_Mod_ends _ _ _) (fun _ M48 hSM48 => ?_)
    exact NJ_leaf hSM48
  · exact NJ_leaf hSM42
theorem fj_Mod_fact_J86 {D : Nat → Prop} {M0 : Mm} (hT : Tp D M0) (x0 : Nat) (hx0 : D x0) (s0 : Int32) (M : Mm) (hF : Fr D M0 M) : FJ D M0 (Mod_fact_J86 x0 s0 M) := by
  unfold Mod_fact_J86
  refine FJ_if ?_ ?_
  · refine FJ_ck ?_
    refine FJ_bd hT hF (fun gC gT => fj_Mod_next gC gT _ hx0) (fun _ M32 hFM32 => ?_)
    refine FJ_ck ?_
    refine FJ_bd hT hFM32 (fun gC gT => fj_Mod_isSign gC gT _ hx0 _) (fun r35 M36 hFM36 => ?_)
    refine FJ_if ?_ ?_
    · refine FJ_ck ?_
      refine FJ_bd hT hFM36 (fun gC gT => fj_Mod_isSign gC gT _ hx0 _) (fun r50 M51 hFM51 => ?_)
      refine FJ_if ?_ ?_
      · refine FJ_ck ?_
        refine FJ_bd hT hFM51 (fun gC gT => fj_Mod_isSign gC gT _ hx0 _) (fun r53 M54 hFM54 => ?_)
        refine FJ_if ?_ ?_
        · refine FJ_ck ?_
          refine FJ_bd hT hFM54 (fun gC gT => fj_Mod_fails0 gC gT _ hx0) (fun _ M57 hFM57 => ?_)
          exact FJ_leaf hFM57
        · exact fj_Mod_fact_J137 hT _ hx0 _ _ _ hFM54
      · exact fj_Mod_fact_J137 hT _ hx0 _ _ _ hFM51
    · exact fj_Mod_fact_J137 hT _ hx0 _ _ _ hFM36
  · refine FJ_ck ?_
    refine FJ_bd hT hF (fun gC gT => fj_Mod_fails0 gC gT _ hx0) (fun _ M60 hFM60 => ?_)
    exact FJ_leaf hFM60
theorem nj_Mod_fact_J86 {M0 : Mm} (x0 : Nat) (s0 : Int32) (M : Mm) (hS : Sm M0 M) : NJ M0 (Mod_fact_J86 x0 s0 M) := by
  unfold Mod_fact_J86
  refine NJ_if ?_ ?_
  · refine NJ_ck ?_
    refine NJ_bd hS (nj_Mod_next _ _) (fun _ M32 hSM32 => ?_)
    refine NJ_ck ?_
    refine NJ_bd hSM32 (nj_Mod_isSign _ _ _) (fun r35 M36 hSM36 => ?_)
    refine NJ_if ?_ ?_
    · refine NJ_ck ?_
      refine NJ_bd hSM36 (nj_Mod_isSign _ _ _) (fun r50 M51 hSM51 => ?_)
      refine NJ_if ?_ ?_
      · refine NJ_ck ?_
        refine NJ_bd hSM51 (nj_Mod_isSign _ _ _) (fun r53 M54 hSM54 => ?_)
        refine NJ_if ?_ ?_
        · refine NJ_ck ?_
          refine NJ_bd hSM54 (nj_Mod_fails0 _ _) (fun _ M57 hSM57 => ?_)
          exact NJ_leaf hSM57
        · exact nj_Mod_fact_J137 _ _ _ _ hSM54
      · exact nj_Mod_fact_J137 _ _ _ _ hSM51
    · exact nj_Mod_fact_J137 _ _ _ _ hSM36
  · refine NJ_ck ?_
    refine NJ_bd hS (nj_Mod_fails0 _ _) (fun _ M60 hSM60 => ?_)
    exact NJ_leaf hSM60
theorem fj_Mod_fact {D : Nat → Prop} {M : Mm} (hC : Cl D M) (hT : Tp D M) (a0 : Nat) (h0 : D a0) (a1 : Int32) : FJ D M (Mod_fact M a0 a1) := by
  unfold Mod_fact
  refine FJ_ck ?_
  refine FJ_nn (Fr.rf hC) h0 (fun b2 hb2 => ?_)
  refine FJ_ck ?_
  refine FJ_if ?_ ?_
  · refine FJ_bd hT (Fr.rf hC) (fun gC gT => fj_Mod_isWord gC gT _ h0 _) (fun r24 M25 hFM25 => ?_)
    refine FJ_if ?_ ?_
    · refine FJ_ck ?_
      refine FJ_bd hT hFM25 (fun gC gT => fj_Mod_isSign gC gT _ h0 _) (fun r27 M28 hFM28 => ?_)
      refine FJ_if ?_ ?_
      · refine FJ_ck ?_
        refine FJ_if ?_ ?_
        · refine FJ_bd hT hFM28 (fun gC gT => fj_Mod_nameOf gC gT _ h0 _) (fun r61 M62 hFM62 => ?_)
          exact fj_Mod_fact_J86 hT _ h0 _ _ hFM62
        · exact fj_Mod_fact_J86 hT _ h0 _ _ hFM28
      · refine FJ_ck ?_
        refine FJ_bd hT hFM28 (fun gC gT => fj_Mod_opens gC gT _ h0) (fun _ M65 hFM65 => ?_)
        refine FJ_ck ?_
        refine FJ_nn hFM65 h0 (fun b67 hb67 => ?_)
        refine FJ_ck ?_
        refine FJ_bd hT (Fr_sI hFM65 hb67) (fun gC gT => fj_Mod_begin gC gT _ h0 _) (fun _ M71 hFM71 => ?_)
        exact FJ_leaf hFM71
    · refine FJ_ck ?_
      refine FJ_bd hT hFM25 (fun gC gT => fj_Mod_opens gC gT _ h0) (fun _ M74 hFM74 => ?_)
      refine FJ_ck ?_
      refine FJ_nn hFM74 h0 (fun b76 hb76 => ?_)
      refine FJ_ck ?_
      refine FJ_bd hT (Fr_sI hFM74 hb76) (fun gC gT => fj_Mod_begin gC gT _ h0 _) (fun _ M80 hFM80 => ?_)
      exact FJ_leaf hFM80
  · refine FJ_nn (Fr.rf hC) h0 (fun b4 hb4 => ?_)
    refine FJ_ck ?_
    refine FJ_if ?_ ?_
    · refine FJ_bd hT (Fr_sI (Fr.rf hC) h0) (fun gC gT => fj_Mod_node gC gT _ h0 _ _ _ _) (fun r19 M20 hFM20 => ?_)
      refine FJ_ck ?_
      refine FJ_bd hT hFM20 (fun gC gT => fj_Mod_ends gC gT _ h0 _) (fun _ M23 hFM23 => ?_)
      exact FJ_leaf hFM23
    · refine FJ_bd hT (Fr.rf hC) (fun gC gT => fj_Mod_isSign gC gT _ h0 _) (fun r6 M7 hFM7 => ?_)
      refine FJ_if ?_ ?_
      · refine FJ_ck ?_
        refine FJ_bd hT hFM7 (fun gC gT => fj_Mod_fails0 gC gT _ h0) (fun _ M10 hFM10 => ?_)
        exact fj_Mod_fact_J229 hT _ h0 _ hFM10
      · refine FJ_ck ?_
        refine FJ_bd hT hFM7 (fun gC gT => fj_Mod_next gC gT _ h0) (fun _ M17 hFM17 => ?_)
        exact fj_Mod_fact_J229 hT _ h0 _ hFM17
theorem nj_Mod_fact (M : Mm) (a0 : Nat) (a1 : Int32) : NJ M (Mod_fact M a0 a1) := by
  unfold Mod_fact
  refine NJ_ck ?_
  refine NJ_nn (fun b2 => ?_)
  refine NJ_ck ?_
  refine NJ_if ?_ ?_
  · refine NJ_bd Sm.rf (nj_Mod_isWord _ _ _) (fun r24 M25 hSM25 => ?_)
    refine NJ_if ?_ ?_
    · refine NJ_ck ?_
      refine NJ_bd hSM25 (nj_Mod_isSign _ _ _) (fun r27 M28 hSM28 => ?_)
      refine NJ_if ?_ ?_
      · refine NJ_ck ?_
        refine NJ_if ?_ ?_
        · refine NJ_bd hSM28 (nj_Mod_nameOf _ _ _) (fun r61 M62 hSM62 => ?_)
          exact nj_Mod_fact_J86 _ _ _ hSM62
        · exact nj_Mod_fact_J86 _ _ _ hSM28
      · refine NJ_ck ?_
        refine NJ_bd hSM28 (nj_Mod_opens _ _) (fun _ M65 hSM65 => ?_)
        refine NJ_ck ?_
        refine NJ_nn (fun b67 => ?_)
        refine NJ_ck ?_
        refine NJ_bd (Sm_sI hSM65) (nj_Mod_begin _ _ _) (fun _ M71 hSM71 => ?_)
        exact NJ_leaf hSM71
    · refine NJ_ck ?_
      refine NJ_bd hSM25 (nj_Mod_opens _ _) (fun _ M74 hSM74 => ?_)
      refine NJ_ck ?_
      refine NJ_nn (fun b76 => ?_)
      refine NJ_ck ?_
      refine NJ_bd (Sm_sI hSM74) (nj_Mod_begin _ _ _) (fun _ M80 hSM80 => ?_)
      exact NJ_leaf hSM80
  · refine NJ_nn (fun b4 => ?_)
    refine NJ_ck ?_
    refine NJ_if ?_ ?_
    · refine NJ_bd (Sm_sI Sm.rf) (nj_Mod_node _ _ _ _ _ _) (fun r19 M20 hSM20 => ?_)
      refine NJ_ck ?_
      refine NJ_bd hSM20 (nj_Mod_ends _ _ _) (fun _ M23 hSM23 => ?_)
      exact NJ_leaf hSM23
    · refine NJ_bd Sm.rf (nj_Mod_isSign _ _ _) (fun r6 M7 hSM7 => ?_)
      refine NJ_if ?_ ?_
      · refine NJ_ck ?_
        refine NJ_bd hSM7 (nj_Mod_fails0 _ _) (fun _ M10 hSM10 => ?_)
        exact nj_Mod_fact_J229 _ _ hSM10
      · refine NJ_ck ?_
        refine NJ_bd hSM7 (nj_Mod_next _ _) (fun _ M17 hSM17 => ?_)
        exact nj_Mod_fact_J229 _ _ hSM17
theorem fj_Mod_chain_J110 {D : Nat → Prop} {M0 : Mm} (hT : Tp D M0) (s0 : Int32) (s1 : Nat) (hs1 : D s1) (M : Mm) (hF : Fr D M0 M) : FJ D M0 (Mod_chain_J110 s0 s1 M) := by
  unfold Mod_chain_J110
  refine FJ_ck ?_
  refine FJ_bd hT hF (fun gC gT => fj_Mod_begin gC gT _ hs1 _) (fun _ M28 hFM28 => ?_)
  exact FJ_leaf hFM28
theorem nj_Mod_chain_J110 {M0 : Mm} (s0 : Int32) (s1 : Nat) (M : Mm) (hS : Sm M0 M) : NJ M0 (Mod_chain_J110 s0 s1 M) := by
  unfold Mod_chain_J110
  refine NJ_ck ?_
  refine NJ_bd hS (nj_Mod_begin _ _ _) (fun _ M28 hSM28 => ?_)
  exact NJ_leaf hSM28
theorem fj_Mod_chain_J90 {D : Nat → Prop} {M0 : Mm} (hT : Tp D M0) (x0 : Nat) (hx0 : D x0) (x1 : Int32) (x2 : Int32) (s0 : Int64) (s1 : Nat) (hs1 : D s1) (M : Mm) (hF : Fr D M0 M) : FJ D M0 (Mod_chain_J90 x0 x1 x2 s0 s1 M) := by
  unfold Mod_chain_J90
  refine FJ_ck ?_
  refine FJ_bd hT hF (fun gC gT => fj_Mod_isWord gC gT _ hs1 _) (fun r16 M17 hFM17 => ?_)
  refine FJ_if ?_ ?_
  · refine FJ_ck ?_
    refine FJ_nn hFM17 hx0 (fun b19 hb19 => ?_)
    refine FJ_ck ?_
    refine FJ_bd hT hFM17 (fun gC gT => fj_Mod_ends gC gT _ hx0 _) (fun _ M22 hFM22 => ?_)
    exact FJ_leaf hFM22
  · refine FJ_ck ?_
    refine FJ_bd hT hFM17 (fun gC gT => fj_Mod_next gC gT _ hx0) (fun _ M25 hFM25 => ?_)
    refine FJ_if ?_ ?_
    · exact fj_Mod_chain_J110 hT _ _ hx0 _ hFM25
    · exact fj_Mod_chain_J110 hT _ _ hx0 _ hFM25
theorem nj_Mod_chain_J90 {M0 : Mm} (x0 : Nat) (x1 : Int32) (x2 : Int32) (s0 : Int64) (s1 : Nat) (M : Mm) (hS : Sm M0 M) : NJ M0 (Mod_chain_J90 x0 x1 x2 s0 s1 M) := by
  unfold Mod_chain_J90
  refine NJ_ck ?_
  refine NJ_bd hS (nj_Mod_isWord _ _ _) (fun r16 M17 hSM17 => ?_)
  refine NJ_if ?_ ?_
  · refine NJ_ck ?_
    refine NJ_nn (fun b19 => ?_)
    refine NJ_ck ?_
    refine NJ_bd hSM17 (nj_Mod_ends _ _ _) (fun _ M22 hSM22 => ?_)
    exact NJ_leaf hSM22
  · refine NJ_ck ?_
    refine NJ_bd hSM17 (nj_Mod_next _ _) (fun _ M25 hSM25 => ?_)
    refine NJ_if ?_ ?_
    · exact nj_Mod_chain_J110 _ _ _ hSM25
    · exact nj_Mod_chain_J110 _ _ _ hSM25
theorem fj_Mod_chain_J75 {D : Nat → Prop} {M0 : Mm} (hT : Tp D M0) (x0 : Nat) (hx0 : D x0) (x1 : Int32) (x2 : Int32) (s0 : Int32) (s1 : Int32) (s2 : Nat) (hs2 : D s2) (M : Mm) (hF : Fr D M0 M) : FJ D M0 (Mod_chain_J75 x0 x1 x2 s0 s1 s2 M) := by
  unfold Mod_chain_J75
  refine FJ_ck ?_
  refine FJ_if ?_ ?_
  · exact fj_Mod_chain_J90 hT _ hx0 _ _ _ _ hx0 _ (Fr_sI hF hs2)
  · exact fj_Mod_chain_J90 hT _ hx0 _ _ _ _ hx0 _ (Fr_sI hF hs2)
theorem nj_Mod_chain_J75 {M0 : Mm} (x0 : Nat) (x1 : Int32) (x2 : Int32) (s0 : Int32) (s1 : Int32) (s2 : Nat) (M : Mm) (hS : Sm M0 M) : NJ M0 (Mod_chain_J75 x0 x1 x2 s0 s1 s2 M) := by
  unfold Mod_chain_J75
  refine NJ_ck ?_
  refine NJ_if ?_ ?_
  · exact nj_Mod_chain_J90 _ _ _ _ _ _ (Sm_sI hS)
  · exact nj_Mod_chain_J90 _ _ _ _ _ _ (Sm_sI hS)
theorem fj_Mod_chain_J61 {D : Nat → Prop} {M0 : Mm} (hT : Tp D M0) (x0 : Nat) (hx0 : D x0) (x1 : Int32) (x2 : Int32) (s0 : Int32) (s1 : Nat) (hs1 : D s1) (s2 : Int32) (s3 : Nat) (hs3 : D s3) (M : Mm) (hF : Fr D M0 M) : FJ D M0 (Mod_chain_J61 x0 x1 x2 s0 s1 s2 s3 M) := by
  unfold Mod_chain_J61
  refine FJ_ck ?_
  refine FJ_nn hF hx0 (fun b8 hb8 => ?_)
  refine FJ_ck ?_
  refine FJ_ck ?_
  refine FJ_bd hT hF (fun gC gT => fj_Mod_node gC gT _ hs1 _ _ _ _) (fun r11 M12 hFM12 => ?_)
  exact fj_Mod_chain_J75 hT _ hx0 _ _ _ _ _ hs3 _ hFM12
theorem nj_Mod_chain_J61 {M0 : Mm} (x0 : Nat) (x1 : Int32) (x2 : Int32) (s0 : Int32) (s1 : Nat) (s2 : Int32) (s3 : Nat) (M : Mm) (hS : Sm M0 M) : NJ M0 (Mod_chain_J61 x0 x1 x2 s0 s1 s2 s3 M) := by
  unfold Mod_chain_J61
  refine NJ_ck ?_
  refine NJ_nn (fun b8 => ?_)
  refine NJ_ck ?_
  refine NJ_ck ?_
  refine NJ_bd hS (nj_Mod_node _ _ _ _ _ _) (fun r11 M12 hSM12 => ?_)
  exact nj_Mod_chain_J75 _ _ _ _ _ _ _ hSM12
theorem fj_Mod_chain_J26 {D : Nat → Prop} {M0 : Mm} (hT : Tp D M0) (s0 : Int32) (s1 : Nat) (hs1 : D s1) (M : Mm) (hF : Fr D M0 M) : FJ D M0 (Mod_chain_J26 s0 s1 M) := by
  unfold Mod_chain_J26
  refine FJ_ck ?_
  refine FJ_bd hT hF (fun gC gT => fj_Mod_begin gC gT _ hs1 _) (fun _ M34 hFM34 => ?_)
  exact FJ_leaf hFM34
theorem nj_Mod_chain_J26 {M0 : Mm} (s0 : Int32) (s1 : Nat) (M : Mm) (hS : Sm M0 M) : NJ M0 (Mod_chain_J26 s0 s1 M) := by
  unfold Mod_chain_J26
  refine NJ_ck ?_
  refine NJ_bd hS (nj_Mod_begin _ _ _) (fun _ M34 hSM34 => ?_)
  exact NJ_leaf hSM34
theorem fj_Mod_chain {D : Nat → Prop} {M : Mm} (hC : Cl D M) (hT : Tp D M) (a0 : Nat) (h0 : D a0) (a1 : Int32) (a2 : Int32) : FJ D M (Mod_chain M a0 a1 a2) := by
  unfold Mod_chain
  refine FJ_ck ?_
  refine FJ_nn (Fr.rf hC) h0 (fun b2 hb2 => ?_)
  refine FJ_ck ?_
  refine FJ_if ?_ ?_
  · refine FJ_nn (Fr.rf hC) h0 (fun b29 hb29 => ?_)
    refine FJ_ck ?_
    refine FJ_if ?_ ?_
    · exact fj_Mod_chain_J26 hT _ _ h0 _ (Fr_sI (Fr.rf hC) hb29)
    · exact fj_Mod_chain_J26 hT _ _ h0 _ (Fr_sI (Fr.rf hC) hb29)
  · refine FJ_nn (Fr.rf hC) h0 (fun b4 hb4 => ?_)
    refine FJ_nn (Fr.rf hC) h0 (fun b5 hb5 => ?_)
    refine FJ_ck ?_
    refine FJ_if ?_ ?_
    · refine FJ_if ?_ ?_
      · exact fj_Mod_chain_J61 hT _ h0 _ _ _ _ h0 _ _ hb4 _ (Fr.rf hC)
      · exact fj_Mod_chain_J61 hT _ h0 _ _ _ _ h0 _ _ hb4 _ (Fr.rf hC)
    · exact fj_Mod_chain_J75 hT _ h0 _ _ _ _ _ hb4 _ (Fr.rf hC)
theorem nj_Mod_chain (M : Mm) (a0 : Nat) (a1 : Int32) (a2 : Int32) : NJ M (Mod_chain M a0 a1 a2) := by
  unfold Mod_chain
  refine NJ_ck ?_
  refine NJ_nn (fun b2 => ?_)
  refine NJ_ck ?_
  refine NJ_if ?_ ?_
  · refine NJ_nn (fun b29 => ?_)
    refine NJ_ck ?_
    refine NJ_if ?_ ?_
    · exact nj_Mod_chain_J26 _ _ _ (Sm_sI Sm.rf)
    · exact nj_Mod_chain_J26 _ _ _ (Sm_sI Sm.rf)
  · refine NJ_nn (fun b4 => ?_)
    refine NJ_nn (fun b5 => ?_)
    refine NJ_ck ?_
    refine NJ_if ?_ ?_
    · refine NJ_if ?_ ?_
      · exact nj_Mod_chain_J61 _ _ _ _ _ _ _ _ Sm.rf
      · exact nj_Mod_chain_J61 _ _ _ _ _ _ _ _ Sm.rf
    · exact nj_Mod_chain_J75 _ _ _ _ _ _ _ Sm.rf
theorem fj_Mod_condition_J73 {D : Nat → Prop} {M0 : Mm} (hT : Tp D M0) (k15 : Nat → Mm → Option (Int32 × Mm)) (hk15 : ∀ (x0 : Nat) (hx0 : D x0) (M : Mm) (hF : Fr D M0 M), FJ D M0 (k15 x0 M)) (x0 : Nat) (hx0 : D x0) (M : Mm) (hF : Fr D M0 M) : FJ D M0 (Mod_condition_J73 k15 x0 M) := by
  unfold Mod_condition_J73
  exact hk15 _ hx0 _ hF
theorem nj_Mod_condition_J73 {M0 : Mm} (k15 : Nat → Mm → Option (Int32 × Mm)) (hk15 : ∀ (x0 : Nat) (M : Mm) (hS : Sm M0 M), NJ M0 (k15 x0 M)) (x0 : Nat) (M : Mm) (hS : Sm M0 M) : NJ M0 (Mod_condition_J73 k15 x0 M) := by
  unfold Mod_condition_J73
  exact hk15 _ _ hS
theorem fj_Mod_condition_J70 {D : Nat → Prop} {M0 : Mm} (hT : Tp D M0) (k15 : Nat → Mm → Option (Int32 × Mm)) (hk15 : ∀ (x0 : Nat) (hx0 : D x0) (M : Mm) (hF : Fr D M0 M), FJ D M0 (k15 x0 M)) (x0 : Nat) (hx0 : D x0) (s0 : Int32) (s1 : Int32) (s2 : Nat) (hs2 : D s2) (M : Mm) (hF : Fr D M0 M) : FJ D M0 (Mod_condition_J70 k15 x0 s0 s1 s2 M) := by
  unfold Mod_condition_J70
  refine FJ_ck ?_
  refine FJ_bd hT hF (fun gC gT => fj_Mod_chain gC gT _ hs2 _ _) (fun _ M14 hFM14 => ?_)
  exact fj_Mod_condition_J73 hT k15 hk15 _ hx0 _ hFM14
theorem nj_Mod_condition_J70 {M0 : Mm} (k15 : Nat → Mm → Option (Int32 × Mm)) (hk15 : ∀ (x0 : Nat) (M : Mm) (hS : Sm M0 M), NJ M0 (k15 x0 M)) (x0 : Nat) (s0 : Int32) (s1 : Int32) (s2 : Nat) (M : Mm) (hS : Sm M0 M) : NJ M0 (Mod_condition_J70 k15 x0 s0 s1 s2 M) := by
  unfold Mod_condition_J70
  refine NJ_ck ?_
  refine NJ_bd hS (nj_Mod_chain _ _ _ _) (fun _ M14 hSM14 => ?_)
  exact nj_Mod_condition_J73 k15 hk15 _ _ hSM14
theorem fj_Mod_condition_B15 {D : Nat → Prop} {M0 : Mm} (hT : Tp D M0) (k15 : Nat → Mm → Option (Int32 × Mm)) (hk15 : ∀ (x0 : Nat) (hx0 : D x0) (M : Mm) (hF : Fr D M0 M), FJ D M0 (k15 x0 M)) (x0 : Nat) (hx0 : D x0) (M : Mm) (hF : Fr D M0 M) : FJ D M0 (Mod_condition_B15 k15 x0 M) := by
  unfold Mod_condition_B15
  refine FJ_ck ?_
  refine FJ_if ?_ ?_
  · exact FJ_leaf hF
  · refine FJ_if ?_ ?_
    · refine FJ_nn hF hx0 (fun b8 hb8 => ?_)
      refine FJ_ck ?_
      refine FJ_if ?_ ?_
      · refine FJ_bd hT hF (fun gC gT => fj_Mod_fact gC gT _ hx0 _) (fun _ M16 hFM16 => ?_)
        exact fj_Mod_condition_J73 hT k15 hk15 _ hx0 _ hFM16
      · refine FJ_nn hF hx0 (fun b10 hb10 => ?_)
        refine FJ_ck ?_
        refine FJ_if ?_ ?_
        · exact fj_Mod_condition_J70 hT k15 hk15 _ hx0 _ _ _ hx0 _ hF
        · exact fj_Mod_condition_J70 hT k15 hk15 _ hx0 _ _ _ hx0 _ hF
    · exact FJ_leaf hF
theorem nj_Mod_condition_B15 {M0 : Mm} (k15 : Nat → Mm → Option (Int32 × Mm)) (hk15 : ∀ (x0 : Nat) (M : Mm) (hS : Sm M0 M), NJ M0 (k15 x0 M)) (x0 : Nat) (M : Mm) (hS : Sm M0 M) : NJ M0 (Mod_condition_B15 k15 x0 M) := by
  unfold Mod_condition_B15
  refine NJ_ck ?_
  refine NJ_if ?_ ?_
  · exact NJ_leaf hS
  · refine NJ_if ?_ ?_
    · refine NJ_nn (fun b8 => ?_)
      refine NJ_ck ?_
      refine NJ_if ?_ ?_
      · refine NJ_bd hS (nj_Mod_fact _ _ _) (fun _ M16 hSM16 => ?_)
        exact nj_Mod_condition_J73 k15 hk15 _ _ hSM16
      · refine NJ_nn (fun b10 => ?_)
        refine NJ_ck ?_
        refine NJ_if ?_ ?_
        · exact nj_Mod_condition_J70 k15 hk15 _ _ _ _ _ hS
        · exact nj_Mod_condition_J70 k15 hk15 _ _ _ _ _ hS
    · exact NJ_leaf hS
theorem fj_Mod_condition_L15 {D : Nat → Prop} {M0 : Mm} (hT : Tp D M0) : ∀ (n : Nat) (x0 : Nat) (hx0 : D x0) (M : Mm) (hF : Fr D M0 M), FJ D M0 (Mod_condition_L15 n x0 M) := by
  intro n
  induction n with
  | zero => intros; exact FJ_none
  | succ n ih => intro x0 hx0 M hF; exact fj_Mod_condition_B15 hT _ ih x0 hx0 M hF
theorem nj_Mod_condition_L15 {M0 : Mm} : ∀ (n : Nat) (x0 : Nat) (M : Mm) (hS : Sm M0 M), NJ M0 (Mod_condition_L15 n x0 M) := by
  intro n
  induction n with
  | zero => intros; exact NJ_none
  | succ n ih => intro x0 M hS; exact nj_Mod_condition_B15 _ ih x0 M hS
theorem fj_Mod_condition {D : Nat → Prop} {M : Mm} (hC : Cl D M) (hT : Tp D M) (a0 : Nat) (h0 : D a0) : FJ D M (Mod_condition M a0) := by
  unfold Mod_condition
  refine FJ_ck ?_
  refine FJ_bd hT (Fr_sI (Fr_sI (Fr.rf hC) h0) h0) (fun gC gT => fj_Mod_begin gC gT _ h0 _) (fun _ M5 hFM5 => ?_)
  exact fj_Mod_condition_L15 hT fu _ h0 _ hFM5
theorem nj_Mod_condition (M : Mm) (a0 : Nat) : NJ M (Mod_condition M a0) := by
  unfold Mod_condition
  refine NJ_ck ?_
  refine NJ_bd (Sm_sI (Sm_sI Sm.rf)) (nj_Mod_begin _ _ _) (fun _ M5 hSM5 => ?_)
  exact nj_Mod_condition_L15 fu _ _ hSM5
theorem fj_Mod_wordOf {D : Nat → Prop} {M : Mm} (hC : Cl D M) (hT : Tp D M) (a0 : Nat) (h0 : D a0) (a1 : Int64) : FJ D M (Mod_wordOf M a0 a1) := by
  unfold Mod_wordOf
  refine FJ_if ?_ ?_
  · exact FJ_leaf (Fr.rf hC)
  · refine FJ_if ?_ ?_
    · exact FJ_leaf (Fr.rf hC)
    · refine FJ_if ?_ ?_
      · exact FJ_leaf (Fr.rf hC)
      · refine FJ_if ?_ ?_
        · exact FJ_leaf (Fr.rf hC)
        · refine FJ_if ?_ ?_
          · exact FJ_leaf (Fr.rf hC)
          · refine FJ_if ?_ ?_
            · exact FJ_leaf (Fr.rf hC)
            · refine FJ_if ?_ ?_
              · exact FJ_leaf (Fr.rf hC)
              · refine FJ_if ?_ ?_
                · exact FJ_leaf (Fr.rf hC)
                · refine FJ_if ?_ ?_
                  · exact FJ_leaf (Fr.rf hC)
                  · refine FJ_if ?_ ?_
                    · exact FJ_leaf (Fr.rf hC)
                    · refine FJ_if ?_ ?_
                      · exact FJ_leaf (Fr.rf hC)
                      · exact FJ_leaf (Fr.rf hC)
theorem nj_Mod_wordOf (M : Mm) (a0 : Nat) (a1 : Int64) : NJ M (Mod_wordOf M a0 a1) := by
  unfold Mod_wordOf
  refine NJ_if ?_ ?_
  · exact NJ_leaf Sm.rf
  · refine NJ_if ?_ ?_
    · exact NJ_leaf Sm.rf
    · refine NJ_if ?_ ?_
      · exact NJ_leaf Sm.rf
      · refine NJ_if ?_ ?_
        · exact NJ_leaf Sm.rf
        · refine NJ_if ?_ ?_
          · exact NJ_leaf Sm.rf
          · refine NJ_if ?_ ?_
            · exact NJ_leaf Sm.rf
            · refine NJ_if ?_ ?_
              · exact NJ_leaf Sm.rf
              · refine NJ_if ?_ ?_
                · exact NJ_leaf Sm.rf
                · refine NJ_if ?_ ?_
                  · exact NJ_leaf Sm.rf
                  · refine NJ_if ?_ ?_
                    · exact NJ_leaf Sm.rf
                    · refine NJ_if ?_ ?_
                      · exact NJ_leaf Sm.rf
                      · exact NJ_leaf Sm.rf
theorem fj_Mod_statement_J243 {D : Nat → Prop} {M0 : Mm} (hT : Tp D M0) (x0 : Nat) (hx0 : D x0) (M : Mm) (hF : Fr D M0 M) : FJ D M0 (Mod_statement_J243 x0 M) := by
  unfold Mod_statement_J243
  refine FJ_ck ?_
  refine FJ_if ?_ ?_
  · refine FJ_bd hT hF (fun gC gT => fj_Mod_isSign gC gT _ hx0 _) (fun r34 M35 hFM35 => ?_)
    refine FJ_if ?_ ?_
    · refine FJ_ck ?_
      refine FJ_bd hT hFM35 (fun gC gT => fj_Mod_fails0 gC gT _ hx0) (fun _ M38 hFM38 => ?_)
      exact FJ_leaf hFM38
    · refine FJ_ck ?_
      refine FJ_bd hT hFM35 (fun gC gT => fj_Mod_next gC gT _ hx0) (fun _ M41 hFM41 => ?_)
      exact FJ_leaf hFM41
  · exact FJ_leaf hF
theorem nj_Mod_statement_J243 {M0 : Mm} (x0 : Nat) (M : Mm) (hS : Sm M0 M) : NJ M0 (Mod_statement_J243 x0 M) := by
  unfold Mod_statement_J243
  refine NJ_ck ?_
  refine NJ_if ?_ ?_
  · refine NJ_bd hS (nj_Mod_isSign _ _ _) (fun r34 M35 hSM35 => ?_)
    refine NJ_if ?_ ?_
    · refine NJ_ck ?_
      refine NJ_bd hSM35 (nj_Mod_fails0 _ _) (fun _ M38 hSM38 => ?_)
      exact NJ_leaf hSM38
    · refine NJ_ck ?_
      refine NJ_bd hSM35 (nj_Mod_next _ _) (fun _ M41 hSM41 => ?_)
      exact NJ_leaf hSM41
  · exact NJ_leaf hS
theorem fj_Mod_statement_J222 {D : Nat → Prop} {M0 : Mm} (hT : Tp D M0) (x0 : Nat) (hx0 : D x0) (M : Mm) (hF : Fr D M0 M) : FJ D M0 (Mod_statement_J222 x0 M) := by
  unfold Mod_statement_J222
  refine FJ_ck ?_
  refine FJ_bd hT hF (fun gC gT => fj_Mod_next gC gT _ hx0) (fun _ M52 hFM52 => ?_)
  exact fj_Mod_statement_J243 hT _ hx0 _ hFM52
theorem nj_Mod_statement_J222 {M0 : Mm} (x0 : Nat) (M : Mm) (hS : Sm M0 M) : NJ M0 (Mod_statement_J222 x0 M) := by
  unfold Mod_statement_J222
  refine NJ_ck ?_
  refine NJ_bd hS (nj_Mod_next _ _) (fun _ M52 hSM52 => ?_)
  exact nj_Mod_statement_J243 _ _ hSM52
theorem fj_Mod_statement_J201 {D : Nat → Prop} {M0 : Mm} (hT : Tp D M0) (x0 : Nat) (hx0 : D x0) (s0 : Int32) (s1 : Int32) (s2 : Nat) (hs2 : D s2) (M : Mm) (hF : Fr D M0 M) : FJ D M0 (Mod_statement_J201 x0 s0 s1 s2 M) := by
  unfold Mod_statement_J201
  refine FJ_ck ?_
  refine FJ_ck ?_
  refine FJ_bd hT (Fr_sI hF hs2) (fun gC gT => fj_Mod_isWord gC gT _ hx0 _) (fun r48 M49 hFM49 => ?_)
  refine FJ_if ?_ ?_
  · refine FJ_ck ?_
    refine FJ_bd hT hFM49 (fun gC gT => fj_Mod_isWord gC gT _ hx0 _) (fun r54 M55 hFM55 => ?_)
    refine FJ_if ?_ ?_
    · refine FJ_ck ?_
      refine FJ_bd hT hFM55 (fun gC gT => fj_Mod_fails0 gC gT _ hx0) (fun _ M58 hFM58 => ?_)
      exact fj_Mod_statement_J243 hT _ hx0 _ hFM58
    · exact fj_Mod_statement_J222 hT _ hx0 _ hFM55
  · exact fj_Mod_statement_J222 hT _ hx0 _ hFM49
theorem nj_Mod_statement_J201 {M0 : Mm} (x0 : Nat) (s0 : Int32) (s1 : Int32) (s2 : Nat) (M : Mm) (hS : Sm M0 M) : NJ M0 (Mod_statement_J201 x0 s0 s1 s2 M) := by
  unfold Mod_statement_J201
  refine NJ_ck ?_
  refine NJ_ck ?_
  refine NJ_bd (Sm_sI hS) (nj_Mod_isWord _ _ _) (fun r48 M49 hSM49 => ?_)
  refine NJ_if ?_ ?_
  · refine NJ_ck ?_
    refine NJ_bd hSM49 (nj_Mod_isWord _ _ _) (fun r54 M55 hSM55 => ?_)
    refine NJ_if ?_ ?_
    · refine NJ_ck ?_
      refine NJ_bd hSM55 (nj_Mod_fails0 _ _) (fun _ M58 hSM58 => ?_)
      exact nj_Mod_statement_J243 _ _ hSM58
    · exact nj_Mod_statement_J222 _ _ hSM55
  · exact nj_Mod_statement_J222 _ _ hSM49
theorem fj_Mod_statement_J163 {D : Nat → Prop} {M0 : Mm} (hT : Tp D M0) (x0 : Nat) (hx0 : D x0) (s0 : Int32) (s1 : Nat) (hs1 : D s1) (s2 : Int32) (s3 : Nat) (hs3 : D s3) (M : Mm) (hF : Fr D M0 M) : FJ D M0 (Mod_statement_J163 x0 s0 s1 s2 s3 M) := by
  unfold Mod_statement_J163
  refine FJ_ck ?_
  refine FJ_bd hT hF (fun gC gT => fj_Mod_number gC gT _ hs1 _) (fun r63 M64 hFM64 => ?_)
  refine FJ_ck ?_
  exact fj_Mod_statement_J243 hT _ hx0 _ (Fr_sI hFM64 hs3)
theorem nj_Mod_statement_J163 {M0 : Mm} (x0 : Nat) (s0 : Int32) (s1 : Nat) (s2 : Int32) (s3 : Nat) (M : Mm) (hS : Sm M0 M) : NJ M0 (Mod_statement_J163 x0 s0 s1 s2 s3 M) := by
  unfold Mod_statement_J163
  refine NJ_ck ?_
  refine NJ_bd hS (nj_Mod_number _ _ _) (fun r63 M64 hSM64 => ?_)
  refine NJ_ck ?_
  exact nj_Mod_statement_J243 _ _ (Sm_sI hSM64)
theorem fj_Mod_statement_J158 {D : Nat → Prop} {M0 : Mm} (hT : Tp D M0) (x0 : Nat) (hx0 : D x0) (s0 : Nat) (hs0 : D s0) (s1 : Int32) (s2 : Nat) (hs2 : D s2) (M : Mm) (hF : Fr D M0 M) : FJ D M0 (Mod_statement_J158 x0 s0 s1 s2 M) := by
  unfold Mod_statement_J158
  exact fj_Mod_statement_J163 hT _ hx0 _ _ hs0 _ _ hs2 _ hF
theorem nj_Mod_statement_J158 {M0 : Mm} (x0 : Nat) (s0 : Nat) (s1 : Int32) (s2 : Nat) (M : Mm) (hS : Sm M0 M) : NJ M0 (Mod_statement_J158 x0 s0 s1 s2 M) := by
  unfold Mod_statement_J158
  exact nj_Mod_statement_J163 _ _ _ _ _ _ hS
theorem fj_Mod_statement_J91 {D : Nat → Prop} {M0 : Mm} (hT : Tp D M0) (x0 : Nat) (hx0 : D x0) (x1 : Int32) (s0 : Int32) (s1 : Int32) (s2 : Nat) (hs2 : D s2) (M : Mm) (hF : Fr D M0 M) : FJ D M0 (Mod_statement_J91 x0 x1 s0 s1 s2 M) := by
  unfold Mod_statement_J91
  refine FJ_ck ?_
  refine FJ_ck ?_
  refine FJ_nn (Fr_sI hF hs2) hx0 (fun b21 hb21 => ?_)
  refine FJ_ck ?_
  refine FJ_if ?_ ?_
  · refine FJ_bd hT (Fr_sI hF hs2) (fun gC gT => fj_Mod_next gC gT _ hx0) (fun _ M24 hFM24 => ?_)
    refine FJ_ck ?_
    refine FJ_nn hFM24 hx0 (fun b26 hb26 => ?_)
    refine FJ_ck ?_
    refine FJ_if ?_ ?_
    · refine FJ_nn hFM24 hx0 (fun b28 hb28 => ?_)
      refine FJ_ck ?_
      refine FJ_if ?_ ?_
      · refine FJ_nn hFM24 hx0 (fun b42 hb42 => ?_)
        refine FJ_bd hT hFM24 (fun gC gT => fj_Mod_isWord gC gT _ hx0 _) (fun r43 M44 hFM44 => ?_)
        refine FJ_if ?_ ?_
        · exact fj_Mod_statement_J201 hT _ hx0 _ _ _ hb42 _ hFM44
        · exact fj_Mod_statement_J201 hT _ hx0 _ _ _ hb42 _ hFM44
      · refine FJ_nn hFM24 hx0 (fun b30 hb30 => ?_)
        refine FJ_ck ?_
        exact fj_Mod_statement_J243 hT _ hx0 _ (Fr_sI hFM24 hb30)
    · refine FJ_nn hFM24 hx0 (fun b59 hb59 => ?_)
      refine FJ_nn hFM24 hx0 (fun b60 hb60 => ?_)
      refine FJ_ck ?_
      refine FJ_if ?_ ?_
      · exact fj_Mod_statement_J158 hT _ hx0 _ hx0 _ _ hb59 _ hFM24
      · refine FJ_nn hFM24 hx0 (fun b67 hb67 => ?_)
        refine FJ_ck ?_
        refine FJ_if ?_ ?_
        · exact fj_Mod_statement_J158 hT _ hx0 _ hx0 _ _ hb59 _ hFM24
        · refine FJ_nn hFM24 hx0 (fun b69 hb69 => ?_)
          refine FJ_ck ?_
          refine FJ_if ?_ ?_
          · exact fj_Mod_statement_J158 hT _ hx0 _ hx0 _ _ hb59 _ hFM24
          · exact fj_Mod_statement_J163 hT _ hx0 _ _ hx0 _ _ hb59 _ hFM24
  · refine FJ_bd hT (Fr_sI hF hs2) (fun gC gT => fj_Mod_fails0 gC gT _ hx0) (fun _ M72 hFM72 => ?_)
    exact FJ_leaf hFM72
theorem nj_Mod_statement_J91 {M0 : Mm} (x0 : Nat) (x1 : Int32) (s0 : Int32) (s1 : Int32) (s2 : Nat) (M : Mm) (hS : Sm M0 M) : NJ M0 (Mod_statement_J91 x0 x1 s0 s1 s2 M) := by
  unfold Mod_statement_J91
  refine NJ_ck ?_
  refine NJ_ck ?_
  refine NJ_nn (fun b21 => ?_)
  refine NJ_ck ?_
  refine NJ_if ?_ ?_
  · refine NJ_bd (Sm_sI hS) (nj_Mod_next _ _) (fun _ M24 hSM24 => ?_)
    refine NJ_ck ?_
    refine NJ_nn (fun b26 => ?_)
    refine NJ_ck ?_
    refine NJ_if ?_ ?_
    · refine NJ_nn (fun b28 => ?_)
      refine NJ_ck ?_
      refine NJ_if ?_ ?_
      · refine NJ_nn (fun b42 => ?_)
        refine NJ_bd hSM24 (nj_Mod_isWord _ _ _) (fun r43 M44 hSM44 => ?_)
        refine NJ_if ?_ ?_
        · exact nj_Mod_statement_J201 _ _ _ _ _ hSM44
        · exact nj_Mod_statement_J201 _ _ _ _ _ hSM44
      · refine NJ_nn (fun b30 => ?_)
        refine NJ_ck ?_
        exact nj_Mod_statement_J243 _ _ (Sm_sI hSM24)
    · refine NJ_nn (fun b59 => ?_)
      refine NJ_nn (fun b60 => ?_)
      refine NJ_ck ?_
      refine NJ_if ?_ ?_
      · exact nj_Mod_statement_J158 _ _ _ _ _ hSM24
      · refine NJ_nn (fun b67 => ?_)
        refine NJ_ck ?_
        refine NJ_if ?_ ?_
        · exact nj_Mod_statement_J158 _ _ _ _ _ hSM24
        · refine NJ_nn (fun b69 => ?_)
          refine NJ_ck ?_
          refine NJ_if ?_ ?_
          · exact nj_Mod_statement_J158 _ _ _ _ _ hSM24
          · exact nj_Mod_statement_J163 _ _ _ _ _ _ hSM24
  · refine NJ_bd (Sm_sI hS) (nj_Mod_fails0 _ _) (fun _ M72 hSM72 => ?_)
    exact NJ_leaf hSM72
theorem fj_Mod_statement_J48 {D : Nat → Prop} {M0 : Mm} (hT : Tp D M0) (x0 : Nat) (hx0 : D x0) (x1 : Int32) (M : Mm) (hF : Fr D M0 M) : FJ D M0 (Mod_statement_J48 x0 x1 M) := by
  unfold Mod_statement_J48
  refine FJ_ck ?_
  refine FJ_nn hF hx0 (fun b14 hb14 => ?_)
  refine FJ_ck ?_
  refine FJ_if ?_ ?_
  · refine FJ_nn (Fr_sI hF hb14) hx0 (fun b17 hb17 => ?_)
    refine FJ_if ?_ ?_
    · refine FJ_bd hT (Fr_sI hF hb14) (fun gC gT => fj_Mod_wordOf gC gT _ hx0 _) (fun r73 M74 hFM74 => ?_)
      exact fj_Mod_statement_J91 hT _ hx0 _ _ _ _ hb17 _ hFM74
    · exact fj_Mod_statement_J91 hT _ hx0 _ _ _ _ hb17 _ (Fr_sI hF hb14)
  · exact FJ_leaf (Fr_sI hF hb14)
theorem nj_Mod_statement_J48 {M0 : Mm} (x0 : Nat) (x1 : Int32) (M : Mm) (hS : Sm M0 M) : NJ M0 (Mod_statement_J48 x0 x1 M) := by
  unfold Mod_statement_J48
  refine NJ_ck ?_
  refine NJ_nn (fun b14 => ?_)
  refine NJ_ck ?_
  refine NJ_if ?_ ?_
  · refine NJ_nn (fun b17 => ?_)
    refine NJ_if ?_ ?_
    · refine NJ_bd (Sm_sI hS) (nj_Mod_wordOf _ _ _) (fun r73 M74 hSM74 => ?_)
      exact nj_Mod_statement_J91 _ _ _ _ _ _ hSM74
    · exact nj_Mod_statement_J91 _ _ _ _ _ _ (Sm_sI hS)
  · exact NJ_leaf (Sm_sI hS)
theorem fj_Mod_statement {D : Nat → Prop} {M : Mm} (hC : Cl D M) (hT : Tp D M) (a0 : Nat) (h0 : D a0) (a1 : Int32) : FJ D M (Mod_statement M a0 a1) := by
  unfold Mod_statement
  refine FJ_ck ?_
  refine FJ_nn (Fr.rf hC) h0 (fun b2 hb2 => ?_)
  refine FJ_ck ?_
  refine FJ_nn (Fr_sI (Fr.rf hC) hb2) h0 (fun b5 hb5 => ?_)
  refine FJ_ck ?_
  refine FJ_nn (Fr_sI (Fr_sI (Fr.rf hC) hb2) hb5) h0 (fun b8 hb8 => ?_)
  refine FJ_ck ?_
  refine FJ_bd hT (Fr_sI (Fr_sI (Fr_sI (Fr.rf hC) hb2) hb5) hb8) (fun gC gT => fj_Mod_isWord gC gT _ h0 _) (fun r11 M12 hFM12 => ?_)
  refine FJ_if ?_ ?_
  · exact fj_Mod_statement_J48 hT _ h0 _ _ hFM12
  · refine FJ_ck ?_
    refine FJ_bd hT hFM12 (fun gC gT => fj_Mod_next gC gT _ h0) (fun _ M77 hFM77 => ?_)
    refine FJ_ck ?_
    refine FJ_nn hFM77 h0 (fun b79 hb79 => ?_)
    refine FJ_bd hT hFM77 (fun gC gT => fj_Mod_condition gC gT _ h0) (fun r80 M81 hFM81 => ?_)
    refine FJ_ck ?_
    exact fj_Mod_statement_J48 hT _ h0 _ _ (Fr_sI hFM81 hb79)
theorem nj_Mod_statement (M : Mm) (a0 : Nat) (a1 : Int32) : NJ M (Mod_statement M a0 a1) := by
  unfold Mod_statement
  refine NJ_ck ?_
  refine NJ_nn (fun b2 => ?_)
  refine NJ_ck ?_
  refine NJ_nn (fun b5 => ?_)
  refine NJ_ck ?_
  refine NJ_nn (fun b8 => ?_)
  refine NJ_ck ?_
  refine NJ_bd (Sm_sI (Sm_sI (Sm_sI Sm.rf))) (nj_Mod_isWord _ _ _) (fun r11 M12 hSM12 => ?_)
  refine NJ_if ?_ ?_
  · exact nj_Mod_statement_J48 _ _ _ hSM12
  · refine NJ_ck ?_
    refine NJ_bd hSM12 (nj_Mod_next _ _) (fun _ M77 hSM77 => ?_)
    refine NJ_ck ?_
    refine NJ_nn (fun b79 => ?_)
    refine NJ_bd hSM77 (nj_Mod_condition _ _) (fun r80 M81 hSM81 => ?_)
    refine NJ_ck ?_
    exact nj_Mod_statement_J48 _ _ _ (Sm_sI hSM81)
theorem fj_Mod_rules_J182 {D : Nat → Prop} {M0 : Mm} (hT : Tp D M0) (x0 : Nat) (hx0 : D x0) (x3 : Int32) (x4 : Int32) (M : Mm) (hF : Fr D M0 M) : FJ D M0 (Mod_rules_J182 x0 x3 x4 M) := by
  unfold Mod_rules_J182
  refine FJ_ck ?_
  refine FJ_if ?_ ?_
  · exact FJ_leaf (Fr_sI (Fr_sI hF hx0) hx0)
  · exact FJ_leaf (Fr_sI (Fr_sI hF hx0) hx0)
theorem nj_Mod_rules_J182 {M0 : Mm} (x0 : Nat) (x3 : Int32) (x4 : Int32) (M : Mm) (hS : Sm M0 M) : NJ M0 (Mod_rules_J182 x0 x3 x4 M) := by
  unfold Mod_rules_J182
  refine NJ_ck ?_
  refine NJ_if ?_ ?_
  · exact NJ_leaf (Sm_sI (Sm_sI hS))
  · exact NJ_leaf (Sm_sI (Sm_sI hS))
theorem fj_Mod_rules_J162 {D : Nat → Prop} {M0 : Mm} (hT : Tp D M0) (x0 : Nat) (hx0 : D x0) (x3 : Int32) (x4 : Int32) (x5 : Int32) (M : Mm) (hF : Fr D M0 M) : FJ D M0 (Mod_rules_J162 x0 x3 x4 x5 M) := by
  unfold Mod_rules_J162
  refine FJ_ck ?_
  refine FJ_if ?_ ?_
  · refine FJ_if ?_ ?_
    · exact fj_Mod_rules_J182 hT _ hx0 _ _ _ hF
    · refine FJ_if ?_ ?_
      · refine FJ_nn hF hx0 (fun b20 hb20 => ?_)
        refine FJ_ck ?_
        refine FJ_nn (Fr_sI hF hb20) hx0 (fun b23 hb23 => ?_)
        refine FJ_ck ?_
        refine FJ_nn (Fr_sI (Fr_sI hF hb20) hb23) hx0 (fun b26 hb26 => ?_)
        refine FJ_ck ?_
        exact FJ_leaf (Fr_sI (Fr_sI (Fr_sI (Fr_sI hF hb20) hb23) hb26) hx0)
      · exact fj_Mod_rules_J182 hT _ hx0 _ _ _ hF
  · exact fj_Mod_rules_J182 hT _ hx0 _ _ _ hF
theorem nj_Mod_rules_J162 {M0 : Mm} (x0 : Nat) (x3 : Int32) (x4 : Int32) (x5 : Int32) (M : Mm) (hS : Sm M0 M) : NJ M0 (Mod_rules_J162 x0 x3 x4 x5 M) := by
  unfold Mod_rules_J162
  refine NJ_ck ?_
  refine NJ_if ?_ ?_
  · refine NJ_if ?_ ?_
    · exact nj_Mod_rules_J182 _ _ _ _ hS
    · refine NJ_if ?_ ?_
      · refine NJ_nn (fun b20 => ?_)
        refine NJ_ck ?_
        refine NJ_nn (fun b23 => ?_)
        refine NJ_ck ?_
        refine NJ_nn (fun b26 => ?_)
        refine NJ_ck ?_
        exact NJ_leaf (Sm_sI (Sm_sI (Sm_sI (Sm_sI hS))))
      · exact nj_Mod_rules_J182 _ _ _ _ hS
  · exact nj_Mod_rules_J182 _ _ _ _ hS
theorem fj_Mod_rules_J135 {D : Nat → Prop} {M0 : Mm} (hT : Tp D M0) (x0 : Nat) (hx0 : D x0) (x1 : Int32) (x3 : Int32) (x4 : Int32) (M : Mm) (hF : Fr D M0 M) : FJ D M0 (Mod_rules_J135 x0 x1 x3 x4 M) := by
  unfold Mod_rules_J135
  refine FJ_ck ?_
  refine FJ_if ?_ ?_
  · refine FJ_bd hT hF (fun gC gT => fj_Mod_spreads gC gT _ hx0 _ _) (fun _ M31 hFM31 => ?_)
    refine FJ_ck ?_
    refine FJ_nn hFM31 hx0 (fun b33 hb33 => ?_)
    refine FJ_ck ?_
    exact fj_Mod_rules_J162 hT _ hx0 _ _ _ _ hFM31
  · exact fj_Mod_rules_J162 hT _ hx0 _ _ _ _ hF
theorem nj_Mod_rules_J135 {M0 : Mm} (x0 : Nat) (x1 : Int32) (x3 : Int32) (x4 : Int32) (M : Mm) (hS : Sm M0 M) : NJ M0 (Mod_rules_J135 x0 x1 x3 x4 M) := by
  unfold Mod_rules_J135
  refine NJ_ck ?_
  refine NJ_if ?_ ?_
  · refine NJ_bd hS (nj_Mod_spreads _ _ _ _) (fun _ M31 hSM31 => ?_)
    refine NJ_ck ?_
    refine NJ_nn (fun b33 => ?_)
    refine NJ_ck ?_
    exact nj_Mod_rules_J162 _ _ _ _ _ hSM31
  · exact nj_Mod_rules_J162 _ _ _ _ _ hS
theorem fj_Mod_rules_B75 {D : Nat → Prop} {M0 : Mm} (hT : Tp D M0) (k75 : Nat → Int32 → Int32 → Int32 → Mm → Option (Int32 × Mm)) (hk75 : ∀ (x0 : Nat) (hx0 : D x0) (x1 : Int32) (x3 : Int32) (x4 : Int32) (M : Mm) (hF : Fr D M0 M), FJ D M0 (k75 x0 x1 x3 x4 M)) (x0 : Nat) (hx0 : D x0) (x1 : Int32) (x3 : Int32) (x4 : Int32) (M : Mm) (hF : Fr D M0 M) : FJ D M0 (Mod_rules_B75 k75 x0 x1 x3 x4 M) := by
  unfold Mod_rules_B75
  refine FJ_ck ?_
  refine FJ_if ?_ ?_
  · exact fj_Mod_rules_J135 hT _ hx0 _ _ _ _ hF
  · refine FJ_if ?_ ?_
    · refine FJ_if ?_ ?_
      · refine FJ_bd hT hF (fun gC gT => fj_Mod_fails0 gC gT _ hx0) (fun _ M41 hFM41 => ?_)
        exact hk75 _ hx0 _ _ _ _ hFM41
      · refine FJ_bd hT hF (fun gC gT => fj_Mod_statement gC gT _ hx0 _) (fun _ M37 hFM37 => ?_)
        refine FJ_ck ?_
        refine FJ_if ?_ ?_
        · exact hk75 _ hx0 _ _ _ _ (Fr_sI hFM37 hx0)
        · exact hk75 _ hx0 _ _ _ _ hFM37
    · exact fj_Mod_rules_J135 hT _ hx0 _ _ _ _ hF
theorem nj_Mod_rules_B75 {M0 : Mm} (k75 : Nat → Int32 → Int32 → Int32 → Mm → Option (Int32 × Mm)) (hk75 : ∀ (x0 : Nat) (x1 : Int32) (x3 : Int32) (x4 : Int32) (M : Mm) (hS : Sm M0 M), NJ M0 (k75 x0 x1 x3 x4 M)) (x0 : Nat) (x1 : Int32) (x3 : Int32) (x4 : Int32) (M : Mm) (hS : Sm M0 M) : NJ M0 (Mod_rules_B75 k75 x0 x1 x3 x4 M) := by
  unfold Mod_rules_B75
  refine NJ_ck ?_
  refine NJ_if ?_ ?_
  · exact nj_Mod_rules_J135 _ _ _ _ _ hS
  · refine NJ_if ?_ ?_
    · refine NJ_if ?_ ?_
      · refine NJ_bd hS (nj_Mod_fails0 _ _) (fun _ M41 hSM41 => ?_)
        exact hk75 _ _ _ _ _ hSM41
      · refine NJ_bd hS (nj_Mod_statement _ _ _) (fun _ M37 hSM37 => ?_)
        refine NJ_ck ?_
        refine NJ_if ?_ ?_
        · exact hk75 _ _ _ _ _ (Sm_sI hSM37)
        · exact hk75 _ _ _ _ _ hSM37
    · exact nj_Mod_rules_J135 _ _ _ _ _ hS
theorem fj_Mod_rules_L75 {D : Nat → Prop} {M0 : Mm} (hT : Tp D M0) : ∀ (n : Nat) (x0 : Nat) (hx0 : D x0) (x1 : Int32) (x3 : Int32) (x4 : Int32) (M : Mm) (hF : Fr D M0 M), FJ D M0 (Mod_rules_L75 n x0 x1 x3 x4 M) := by
  intro n
  induction n with
  | zero => intros; exact FJ_none
  | succ n ih => intro x0 hx0 x1 x3 x4 M hF; exact fj_Mod_rules_B75 hT _ ih x0 hx0 x1 x3 x4 M hF
theorem nj_Mod_rules_L75 {M0 : Mm} : ∀ (n : Nat) (x0 : Nat) (x1 : Int32) (x3 : Int32) (x4 : Int32) (M : Mm) (hS : Sm M0 M), NJ M0 (Mod_rules_L75 n x0 x1 x3 x4 M) := by
  intro n
  induction n with
  | zero => intros; exact NJ_none
  | succ n ih => intro x0 x1 x3 x4 M hS; exact nj_Mod_rules_B75 _ ih x0 x1 x3 x4 M hS
theorem fj_Mod_rules {D : Nat → Prop} {M : Mm} (hC : Cl D M) (hT : Tp D M) (a0 : Nat) (h0 : D a0) (a1 : Int32) (a2 : Int32) : FJ D M (Mod_rules M a0 a1 a2) := by
  unfold Mod_rules
  refine FJ_ck ?_
  refine FJ_bd hT (Fr.rf hC) (fun gC gT => fj_Mod_isTown gC gT _ h0 _) (fun r2 M3 hFM3 => ?_)
  refine FJ_if ?_ ?_
  · exact FJ_leaf hFM3
  · refine FJ_if ?_ ?_
    · exact FJ_leaf hFM3
    · refine FJ_ck ?_
      refine FJ_if ?_ ?_
      · refine FJ_if ?_ ?_
        · exact FJ_leaf hFM3
        · refine FJ_bd hT (Fr_sI (Fr_sI (Fr_sI (Fr_sI (Fr_sI hFM3 h0) h0) h0) h0) h0) (fun gC gT => fj_Mod_next gC gT _ h0) (fun _ M13 hFM13 => ?_)
          exact fj_Mod_rules_L75 hT fu _ h0 _ _ _ _ hFM13
      · exact FJ_leaf hFM3
theorem nj_Mod_rules (M : Mm) (a0 : Nat) (a1 : Int32) (a2 : Int32) : NJ M (Mod_rules M a0 a1 a2) := by
  unfold Mod_rules
  refine NJ_ck ?_
  refine NJ_bd Sm.rf (nj_Mod_isTown _ _ _) (fun r2 M3 hSM3 => ?_)
  refine NJ_if ?_ ?_
  · exact NJ_leaf hSM3
  · refine NJ_if ?_ ?_
    · exact NJ_leaf hSM3
    · refine NJ_ck ?_
      refine NJ_if ?_ ?_
      · refine NJ_if ?_ ?_
        · exact NJ_leaf hSM3
        · refine NJ_bd (Sm_sI (Sm_sI (Sm_sI (Sm_sI (Sm_sI hSM3))))) (nj_Mod_next _ _) (fun _ M13 hSM13 => ?_)
          exact nj_Mod_rules_L75 fu _ _ _ _ _ hSM13
      · exact NJ_leaf hSM3
theorem fj_Mod_fault {D : Nat → Prop} {M : Mm} (hC : Cl D M) (hT : Tp D M) (a0 : Nat) (h0 : D a0) : FJ D M (Mod_fault M a0) := by
  unfold Mod_fault
  refine FJ_ck ?_
  exact FJ_leaf (Fr.rf hC)
theorem nj_Mod_fault (M : Mm) (a0 : Nat) : NJ M (Mod_fault M a0) := by
  unfold Mod_fault
  refine NJ_ck ?_
  exact NJ_leaf Sm.rf
theorem fj_Mod_heard {D : Nat → Prop} {M : Mm} (hC : Cl D M) (hT : Tp D M) (a0 : Nat) (h0 : D a0) (a1 : Int32) : FJ D M (Mod_heard M a0 a1) := by
  unfold Mod_heard
  refine FJ_if ?_ ?_
  · exact FJ_leaf (Fr.rf hC)
  · refine FJ_ck ?_
    refine FJ_if ?_ ?_
    · exact FJ_leaf (Fr.rf hC)
    · refine FJ_nn (Fr.rf hC) h0 (fun b2 hb2 => ?_)
      refine FJ_ck ?_
      exact FJ_leaf (Fr.rf hC)
theorem nj_Mod_heard (M : Mm) (a0 : Nat) (a1 : Int32) : NJ M (Mod_heard M a0 a1) := by
  unfold Mod_heard
  refine NJ_if ?_ ?_
  · exact NJ_leaf Sm.rf
  · refine NJ_ck ?_
    refine NJ_if ?_ ?_
    · exact NJ_leaf Sm.rf
    · refine NJ_nn (fun b2 => ?_)
      refine NJ_ck ?_
      exact NJ_leaf Sm.rf
theorem fj_Mod_rule {D : Nat → Prop} {M : Mm} (hC : Cl D M) (hT : Tp D M) (a0 : Nat) (h0 : D a0) (a1 : Int32) : FJ D M (Mod_rule M a0 a1) := by
  unfold Mod_rule
  refine FJ_if ?_ ?_
  · refine FJ_ck ?_
    refine FJ_bd hT (Fr.rf hC) (fun gC gT => fj_Mod_inForce gC gT _ h0) (fun r7 M8 hFM8 => ?_)
    exact FJ_leaf hFM8
  · refine FJ_bd hT (Fr.rf hC) (fun gC gT => fj_Mod_in gC gT _ _ _) (fun r1 M2 hFM2 => ?_)
    refine FJ_if ?_ ?_
    · exact FJ_leaf hFM2
    · refine FJ_ck ?_
      refine FJ_bd hT hFM2 (fun gC gT => fj_Mod_asked gC gT _ h0 _) (fun r4 M5 hFM5 => ?_)
      exact FJ_leaf hFM5
theorem nj_Mod_rule (M : Mm) (a0 : Nat) (a1 : Int32) : NJ M (Mod_rule M a0 a1) := by
  unfold Mod_rule
  refine NJ_if ?_ ?_
  · refine NJ_ck ?_
    refine NJ_bd Sm.rf (nj_Mod_inForce _ _) (fun r7 M8 hSM8 => ?_)
    exact NJ_leaf hSM8
  · refine NJ_bd Sm.rf (nj_Mod_in _ _ _ _) (fun r1 M2 hSM2 => ?_)
    refine NJ_if ?_ ?_
    · exact NJ_leaf hSM2
    · refine NJ_ck ?_
      refine NJ_bd hSM2 (nj_Mod_asked _ _ _) (fun r4 M5 hSM5 => ?_)
      exact NJ_leaf hSM5
theorem fj_Mod_wind {D : Nat → Prop} {M : Mm} (hC : Cl D M) (hT : Tp D M) (a0 : Nat) (h0 : D a0) (a1 : Int32) : FJ D M (Mod_wind M a0 a1) := by
  unfold Mod_wind
  refine FJ_bd hT (Fr.rf hC) (fun gC gT => fj_Mod_in gC gT _ _ _) (fun r1 M2 hFM2 => ?_)
  refine FJ_if ?_ ?_
  · exact FJ_leaf hFM2
  · refine FJ_ck ?_
    exact FJ_leaf (Fr_sI hFM2 h0)
theorem nj_Mod_wind (M : Mm) (a0 : Nat) (a1 : Int32) : NJ M (Mod_wind M a0 a1) := by
  unfold Mod_wind
  refine NJ_bd Sm.rf (nj_Mod_in _ _ _ _) (fun r1 M2 hSM2 => ?_)
  refine NJ_if ?_ ?_
  · exact NJ_leaf hSM2
  · refine NJ_ck ?_
    exact NJ_leaf (Sm_sI hSM2)
theorem fj_Mod_light_B77 {D : Nat → Prop} {M0 : Mm} (hT : Tp D M0) (k77 : Nat → Int32 → Mm → Option (Int32 × Mm)) (hk77 : ∀ (x0 : Nat) (hx0 : D x0) (x1 : Int32) (M : Mm) (hF : Fr D M0 M), FJ D M0 (k77 x0 x1 M)) (x0 : Nat) (hx0 : D x0) (x1 : Int32) (M : Mm) (hF : Fr D M0 M) : FJ D M0 (Mod_light_B77 k77 x0 x1 M) := by
  unfold Mod_light_B77
  refine FJ_if ?_ ?_
  · refine FJ_ck ?_
    exact FJ_leaf hF
  · refine FJ_ck ?_
    refine FJ_nn hF hx0 (fun b19 hb19 => ?_)
    refine FJ_ck ?_
    exact hk77 _ hx0 _ _ (Fr_sI hF hb19)
theorem nj_Mod_light_B77 {M0 : Mm} (k77 : Nat → Int32 → Mm → Option (Int32 × Mm)) (hk77 : ∀ (x0 : Nat) (x1 : Int32) (M : Mm) (hS : Sm M0 M), NJ M0 (k77 x0 x1 M)) (x0 : Nat) (x1 : Int32) (M : Mm) (hS : Sm M0 M) : NJ M0 (Mod_light_B77 k77 x0 x1 M) := by
  unfold Mod_light_B77
  refine NJ_if ?_ ?_
  · refine NJ_ck ?_
    exact NJ_leaf hS
  · refine NJ_ck ?_
    refine NJ_nn (fun b19 => ?_)
    refine NJ_ck ?_
    exact hk77 _ _ _ (Sm_sI hS)
theorem fj_Mod_light_L77 {D : Nat → Prop} {M0 : Mm} (hT : Tp D M0) : ∀ (n : Nat) (x0 : Nat) (hx0 : D x0) (x1 : Int32) (M : Mm) (hF : Fr D M0 M), FJ D M0 (Mod_light_L77 n x0 x1 M) := by
  intro n
  induction n with
  | zero => intros; exact FJ_none
  | succ n ih => intro x0 hx0 x1 M hF; exact fj_Mod_light_B77 hT _ ih x0 hx0 x1 M hF
theorem nj_Mod_light_L77 {M0 : Mm} : ∀ (n : Nat) (x0 : Nat) (x1 : Int32) (M : Mm) (hS : Sm M0 M), NJ M0 (Mod_light_L77 n x0 x1 M) := by
  intro n
  induction n with
  | zero => intros; exact NJ_none
  | succ n ih => intro x0 x1 M hS; exact nj_Mod_light_B77 _ ih x0 x1 M hS
theorem fj_Mod_light {D : Nat → Prop} {M : Mm} (hC : Cl D M) (hT : Tp D M) (a0 : Nat) (h0 : D a0) : FJ D M (Mod_light M a0) := by
  unfold Mod_light
  refine FJ_ck ?_
  refine FJ_if ?_ ?_
  · refine FJ_if ?_ ?_
    · exact FJ_leaf (Fr.rf hC)
    · refine FJ_bd hT (Fr_sI (Fr.rf hC) h0) (fun gC gT => fj_Mod_asked gC gT _ h0 _) (fun r3 M4 hFM4 => ?_)
      refine FJ_ck ?_
      refine FJ_nn (Fr_sI hFM4 h0) h0 (fun b7 hb7 => ?_)
      refine FJ_ck ?_
      refine FJ_nn (Fr_sI (Fr_sI hFM4 h0) hb7) h0 (fun b10 hb10 => ?_)
      refine FJ_ck ?_
      refine FJ_nn (Fr_sI (Fr_sI (Fr_sI hFM4 h0) hb7) hb10) h0 (fun b13 hb13 => ?_)
      refine FJ_ck ?_
      exact fj_Mod_light_L77 hT fu _ h0 _ _ (Fr_sI (Fr_sI (Fr_sI (Fr_sI (Fr_sI hFM4 h0) hb7) hb10) hb13) h0)
  · exact FJ_leaf (Fr.rf hC)
theorem nj_Mod_light (M : Mm) (a0 : Nat) : NJ M (Mod_light M a0) := by
  unfold Mod_light
  refine NJ_ck ?_
  refine NJ_if ?_ ?_
  · refine NJ_if ?_ ?_
    · exact NJ_leaf Sm.rf
    · refine NJ_bd (Sm_sI Sm.rf) (nj_Mod_asked _ _ _) (fun r3 M4 hSM4 => ?_)
      refine NJ_ck ?_
      refine NJ_nn (fun b7 => ?_)
      refine NJ_ck ?_
      refine NJ_nn (fun b10 => ?_)
      refine NJ_ck ?_
      refine NJ_nn (fun b13 => ?_)
      refine NJ_ck ?_
      exact nj_Mod_light_L77 fu _ _ _ (Sm_sI (Sm_sI (Sm_sI (Sm_sI (Sm_sI hSM4)))))
  · exact NJ_leaf Sm.rf
theorem fj_Mod_against_J217 {D : Nat → Prop} {M0 : Mm} (hT : Tp D M0) (k6 : Nat → Int32 → Int32 → Int32 → Int32 → Int32 → Mm → Option (Int32 × Mm)) (hk6 : ∀ (x0 : Nat) (hx0 : D x0) (x1 : Int32) (x2 : Int32) (x3 : Int32) (x4 : Int32) (x5 : Int32) (M : Mm) (hF : Fr D M0 M), FJ D M0 (k6 x0 x1 x2 x3 x4 x5 M)) (x0 : Nat) (hx0 : D x0) (x1 : Int32) (x2 : Int32) (x3 : Int32) (x4 : Int32) (x5 : Int32) (M : Mm) (hF : Fr D M0 M) : FJ D M0 (Mod_against_J217 k6 x0 x1 x2 x3 x4 x5 M) := by
  unfold Mod_against_J217
  exact hk6 _ hx0 _ _ _ _ _ _ hF
theorem nj_Mod_against_J217 {M0 : Mm} (k6 : Nat → Int32 → Int32 → Int32 → Int32 → Int32 → Mm → Option (Int32 × Mm)) (hk6 : ∀ (x0 : Nat) (x1 : Int32) (x2 : Int32) (x3 : Int32) (x4 : Int32) (x5 : Int32) (M : Mm) (hS : Sm M0 M), NJ M0 (k6 x0 x1 x2 x3 x4 x5 M)) (x0 : Nat) (x1 : Int32) (x2 : Int32) (x3 : Int32) (x4 : Int32) (x5 : Int32) (M : Mm) (hS : Sm M0 M) : NJ M0 (Mod_against_J217 k6 x0 x1 x2 x3 x4 x5 M) := by
  unfold Mod_against_J217
  exact hk6 _ _ _ _ _ _ _ hS
theorem fj_Mod_against_J213 {D : Nat → Prop} {M0 : Mm} (hT : Tp D M0) (k6 : Nat → Int32 → Int32 → Int32 → Int32 → Int32 → Mm → Option (Int32 × Mm)) (hk6 : ∀ (x0 : Nat) (hx0 : D x0) (x1 : Int32) (x2 : Int32) (x3 : Int32) (x4 : Int32) (x5 : Int32) (M : Mm) (hF : Fr D M0 M), FJ D M0 (k6 x0 x1 x2 x3 x4 x5 M)) (x0 : Nat) (hx0 : D x0) (x1 : Int32) (x2 : Int32) (x3 : Int32) (x5 : Int32) (M : Mm) (hF : Fr D M0 M) : FJ D M0 (Mod_against_J213 k6 x0 x1 x2 x3 x5 M) := by
  unfold Mod_against_J213
  exact fj_Mod_against_J217 hT k6 hk6 _ hx0 _ _ _ _ _ _ hF
theorem nj_Mod_against_J213 {M0 : Mm} (k6 : Nat → Int32 → Int32 → Int32 → Int32 → Int32 → Mm → Option (Int32 × Mm)) (hk6 : ∀ (x0 : Nat) (x1 : Int32) (x2 : Int32) (x3 : Int32) (x4 : Int32) (x5 : Int32) (M : Mm) (hS : Sm M0 M), NJ M0 (k6 x0 x1 x2 x3 x4 x5 M)) (x0 : Nat) (x1 : Int32) (x2 : Int32) (x3 : Int32) (x5 : Int32) (M : Mm) (hS : Sm M0 M) : NJ M0 (Mod_against_J213 k6 x0 x1 x2 x3 x5 M) := by
  unfold Mod_against_J213
  exact nj_Mod_against_J217 k6 hk6 _ _ _ _ _ _ _ hS
theorem fj_Mod_against_J141 {D : Nat → Prop} {M0 : Mm} (hT : Tp D M0) (k6 : Nat → Int32 → Int32 → Int32 → Int32 → Int32 → Mm → Option (Int32 × Mm)) (hk6 : ∀ (x0 : Nat) (hx0 : D x0) (x1 : Int32) (x2 : Int32) (x3 : Int32) (x4 : Int32) (x5 : Int32) (M : Mm) (hF : Fr D M0 M), FJ D M0 (k6 x0 x1 x2 x3 x4 x5 M)) (x0 : Nat) (hx0 : D x0) (x1 : Int32) (x2 : Int32) (x3 : Int32) (x4 : Int32) (x5 : Int32) (x6 : Int32) (s0 : Int32) (M : Mm) (hF : Fr D M0 M) : FJ D M0 (Mod_against_J141 k6 x0 x1 x2 x3 x4 x5 x6 s0 M) := by
  unfold Mod_against_J141
  refine FJ_if ?_ ?_
  · exact fj_Mod_against_J217 hT k6 hk6 _ hx0 _ _ _ _ _ _ hF
  · refine FJ_if ?_ ?_
    · exact fj_Mod_against_J213 hT k6 hk6 _ hx0 _ _ _ _ _ hF
    · refine FJ_ck ?_
      refine FJ_nn hF hx0 (fun b21 hb21 => ?_)
      refine FJ_ck ?_
      refine FJ_if ?_ ?_
      · refine FJ_nn hF hx0 (fun b23 hb23 => ?_)
        refine FJ_ck ?_
        refine FJ_nn hF hx0 (fun b25 hb25 => ?_)
        refine FJ_ck ?_
        refine FJ_if ?_ ?_
        · exact fj_Mod_against_J217 hT k6 hk6 _ hx0 _ _ _ _ _ _ hF
        · exact fj_Mod_against_J213 hT k6 hk6 _ hx0 _ _ _ _ _ hF
      · refine FJ_nn hF hx0 (fun b27 hb27 => ?_)
        refine FJ_ck ?_
        refine FJ_nn hF hx0 (fun b29 hb29 => ?_)
        refine FJ_ck ?_
        refine FJ_if ?_ ?_
        · exact fj_Mod_against_J217 hT k6 hk6 _ hx0 _ _ _ _ _ _ hF
        · exact fj_Mod_against_J213 hT k6 hk6 _ hx0 _ _ _ _ _ hF
theorem nj_Mod_against_J141 {M0 : Mm} (k6 : Nat → Int32 → Int32 → Int32 → Int32 → Int32 → Mm → Option (Int32 × Mm)) (hk6 : ∀ (x0 : Nat) (x1 : Int32) (x2 : Int32) (x3 : Int32) (x4 : Int32) (x5 : Int32) (M : Mm) (hS : Sm M0 M), NJ M0 (k6 x0 x1 x2 x3 x4 x5 M)) (x0 : Nat) (x1 : Int32) (x2 : Int32) (x3 : Int32) (x4 : Int32) (x5 : Int32) (x6 : Int32) (s0 : Int32) (M : Mm) (hS : Sm M0 M) : NJ M0 (Mod_against_J141 k6 x0 x1 x2 x3 x4 x5 x6 s0 M) := by
  unfold Mod_against_J141
  refine NJ_if ?_ ?_
  · exact nj_Mod_against_J217 k6 hk6 _ _ _ _ _ _ _ hS
  · refine NJ_if ?_ ?_
    · exact nj_Mod_against_J213 k6 hk6 _ _ _ _ _ _ hS
    · refine NJ_ck ?_
      refine NJ_nn (fun b21 => ?_)
      refine NJ_ck ?_
      refine NJ_if ?_ ?_
      · refine NJ_nn (fun b23 => ?_)
        refine NJ_ck ?_
        refine NJ_nn (fun b25 => ?_)
        refine NJ_ck ?_
        refine NJ_if ?_ ?_
        · exact nj_Mod_against_J217 k6 hk6 _ _ _ _ _ _ _ hS
        · exact nj_Mod_against_J213 k6 hk6 _ _ _ _ _ _ hS
      · refine NJ_nn (fun b27 => ?_)
        refine NJ_ck ?_
        refine NJ_nn (fun b29 => ?_)
        refine NJ_ck ?_
        refine NJ_if ?_ ?_
        · exact nj_Mod_against_J217 k6 hk6 _ _ _ _ _ _ _ hS
        · exact nj_Mod_against_J213 k6 hk6 _ _ _ _ _ _ hS
theorem fj_Mod_against_B6 {D : Nat → Prop} {M0 : Mm} (hT : Tp D M0) (k6 : Nat → Int32 → Int32 → Int32 → Int32 → Int32 → Mm → Option (Int32 × Mm)) (hk6 : ∀ (x0 : Nat) (hx0 : D x0) (x1 : Int32) (x2 : Int32) (x3 : Int32) (x4 : Int32) (x5 : Int32) (M : Mm) (hF : Fr D M0 M), FJ D M0 (k6 x0 x1 x2 x3 x4 x5 M)) (x0 : Nat) (hx0 : D x0) (x1 : Int32) (x2 : Int32) (x3 : Int32) (x4 : Int32) (x5 : Int32) (M : Mm) (hF : Fr D M0 M) : FJ D M0 (Mod_against_B6 k6 x0 x1 x2 x3 x4 x5 M) := by
  unfold Mod_against_B6
  refine FJ_if ?_ ?_
  · exact FJ_leaf hF
  · refine FJ_ck ?_
    refine FJ_nn hF hx0 (fun b3 hb3 => ?_)
    refine FJ_ck ?_
    refine FJ_if ?_ ?_
    · exact fj_Mod_against_J217 hT k6 hk6 _ hx0 _ _ _ _ _ _ hF
    · refine FJ_nn hF hx0 (fun b6 hb6 => ?_)
      refine FJ_ck ?_
      refine FJ_nn hF hx0 (fun b8 hb8 => ?_)
      refine FJ_ck ?_
      refine FJ_if ?_ ?_
      · exact fj_Mod_against_J217 hT k6 hk6 _ hx0 _ _ _ _ _ _ hF
      · refine FJ_nn hF hx0 (fun b10 hb10 => ?_)
        refine FJ_ck ?_
        refine FJ_nn hF hx0 (fun b12 hb12 => ?_)
        refine FJ_ck ?_
        refine FJ_if ?_ ?_
        · exact fj_Mod_against_J217 hT k6 hk6 _ hx0 _ _ _ _ _ _ hF
        · refine FJ_nn hF hx0 (fun b14 hb14 => ?_)
          refine FJ_ck ?_
          refine FJ_if ?_ ?_
          · refine FJ_nn hF hx0 (fun b16 hb16 => ?_)
            refine FJ_ck ?_
            refine FJ_nn hF hx0 (fun b18 hb18 => ?_)
            refine FJ_ck ?_
            refine FJ_if ?_ ?_
            · exact fj_Mod_against_J141 hT k6 hk6 _ hx0 _ _ _ _ _ _ _ _ hF
            · exact fj_Mod_against_J141 hT k6 hk6 _ hx0 _ _ _ _ _ _ _ _ hF
          · refine FJ_nn hF hx0 (fun b31 hb31 => ?_)
            refine FJ_ck ?_
            refine FJ_nn hF hx0 (fun b33 hb33 => ?_)
            refine FJ_ck ?_
            refine FJ_if ?_ ?_
            · exact fj_Mod_against_J141 hT k6 hk6 _ hx0 _ _ _ _ _ _ _ _ hF
            · exact fj_Mod_against_J141 hT k6 hk6 _ hx0 _ _ _ _ _ _ _ _ hF
theorem nj_Mod_against_B6 {M0 : Mm} (k6 : Nat → Int32 → Int32 → Int32 → Int32 → Int32 → Mm → Option (Int32 × Mm)) (hk6 : ∀ (x0 : Nat) (x1 : Int32) (x2 : Int32) (x3 : Int32) (x4 : Int32) (x5 : Int32) (M : Mm) (hS : Sm M0 M), NJ M0 (k6 x0 x1 x2 x3 x4 x5 M)) (x0 : Nat) (x1 : Int32) (x2 : Int32) (x3 : Int32) (x4 : Int32) (x5 : Int32) (M : Mm) (hS : Sm M0 M) : NJ M0 (Mod_against_B6 k6 x0 x1 x2 x3 x4 x5 M) := by
  unfold Mod_against_B6
  refine NJ_if ?_ ?_
  · exact NJ_leaf hS
  · refine NJ_ck ?_
    refine NJ_nn (fun b3 => ?_)
    refine NJ_ck ?_
    refine NJ_if ?_ ?_
    · exact nj_Mod_against_J217 k6 hk6 _ _ _ _ _ _ _ hS
    · refine NJ_nn (fun b6 => ?_)
      refine NJ_ck ?_
      refine NJ_nn (fun b8 => ?_)
      refine NJ_ck ?_
      refine NJ_if ?_ ?_
      · exact nj_Mod_against_J217 k6 hk6 _ _ _ _ _ _ _ hS
      · refine NJ_nn (fun b10 => ?_)
        refine NJ_ck ?_
        refine NJ_nn (fun b12 => ?_)
        refine NJ_ck ?_
        refine NJ_if ?_ ?_
        · exact nj_Mod_against_J217 k6 hk6 _ _ _ _ _ _ _ hS
        · refine NJ_nn (fun b14 => ?_)
          refine NJ_ck ?_
          refine NJ_if ?_ ?_
          · refine NJ_nn (fun b16 => ?_)
            refine NJ_ck ?_
            refine NJ_nn (fun b18 => ?_)
            refine NJ_ck ?_
            refine NJ_if ?_ ?_
            · exact nj_Mod_against_J141 k6 hk6 _ _ _ _ _ _ _ _ _ hS
            · exact nj_Mod_against_J141 k6 hk6 _ _ _ _ _ _ _ _ _ hS
          · refine NJ_nn (fun b31 => ?_)
            refine NJ_ck ?_
            refine NJ_nn (fun b33 => ?_)
            refine NJ_ck ?_
            refine NJ_if ?_ ?_
            · exact nj_Mod_against_J141 k6 hk6 _ _ _ _ _ _ _ _ _ hS
            · exact nj_Mod_against_J141 k6 hk6 _ _ _ _ _ _ _ _ _ hS
theorem fj_Mod_against_L6 {D : Nat → Prop} {M0 : Mm} (hT : Tp D M0) : ∀ (n : Nat) (x0 : Nat) (hx0 : D x0) (x1 : Int32) (x2 : Int32) (x3 : Int32) (x4 : Int32) (x5 : Int32) (M : Mm) (hF : Fr D M0 M), FJ D M0 (Mod_against_L6 n x0 x1 x2 x3 x4 x5 M) := by
  intro n
  induction n with
  | zero => intros; exact FJ_none
  | succ n ih => intro x0 hx0 x1 x2 x3 x4 x5 M hF; exact fj_Mod_against_B6 hT _ ih x0 hx0 x1 x2 x3 x4 x5 M hF
theorem nj_Mod_against_L6 {M0 : Mm} : ∀ (n : Nat) (x0 : Nat) (x1 : Int32) (x2 : Int32) (x3 : Int32) (x4 : Int32) (x5 : Int32) (M : Mm) (hS : Sm M0 M), NJ M0 (Mod_against_L6 n x0 x1 x2 x3 x4 x5 M) := by
  intro n
  induction n with
  | zero => intros; exact NJ_none
  | succ n ih => intro x0 x1 x2 x3 x4 x5 M hS; exact nj_Mod_against_B6 _ ih x0 x1 x2 x3 x4 x5 M hS
theorem fj_Mod_against {D : Nat → Prop} {M : Mm} (hC : Cl D M) (hT : Tp D M) (a0 : Nat) (h0 : D a0) (a1 : Int32) (a2 : Int32) (a3 : Int32) : FJ D M (Mod_against M a0 a1 a2 a3) := by
  unfold Mod_against
  exact fj_Mod_against_L6 hT fu _ h0 _ _ _ _ _ _ (Fr.rf hC)
theorem nj_Mod_against (M : Mm) (a0 : Nat) (a1 : Int32) (a2 : Int32) (a3 : Int32) : NJ M (Mod_against M a0 a1 a2 a3) := by
  unfold Mod_against
  exact nj_Mod_against_L6 fu _ _ _ _ _ _ _ Sm.rf
