theorem fj_Mod_cry_J438 {D : Nat → Prop} {M0 : Mm} (hT : Tp D M0) (k244 : Nat → Int32 → Int32 → Int32 → Int32 → Int32 → Mm → Option (Int32 × Mm)) (hk244 : ∀ (x0 : Nat) (hx0 : D x0) (x1 : Int32) (x2 : Int32) (x5 : Int32) (x6 : Int32) (x8 : Int32) (M : Mm) (hF : Fr D M0 M), FJ D M0 (k244 x0 x1 x2 x5 x6 x8 M)) (x0 : Nat) (hx0 : D x0) (x1 : Int32) (x2 : Int32) (x5 : Int32) (x6 : Int32) (s0 : Int32) (M : Mm) (hF : Fr D M0 M) : FJ D M0 (Mod_cry_J438 k244 x0 x1 x2 x5 x6 s0 M) := by
  unfold Mod_cry_J438
  exact hk244 _ hx0 _ _ _ _ _ _ hF
theorem nj_Mod_cry_J438 {M0 : Mm} (k244 : Nat → Int32 → Int32 → Int32 → Int32 → Int32 → Mm → Option (Int32 × Mm)) (hk244 : ∀ (x0 : Nat) (x1 : Int32) (x2 : Int32) (x5 : Int32) (x6 : Int32) (x8 : Int32) (M : Mm) (hS : Sm M0 M), NJ M0 (k244 x0 x1 x2 x5 x6 x8 M)) (x0 : Nat) (x1 : Int32) (x2 : Int32) (x5 : Int32) (x6 : Int32) (s0 : Int32) (M : Mm) (hS : Sm M0 M) : NJ M0 (Mod_cry_J438 k244 x0 x1 x2 x5 x6 s0 M) := by
  unfold Mod_cry_J438
  exact hk244 _ _ _ _ _ _ _ hS
theorem fj_Mod_cry_J362 {D : Nat → Prop} {M0 : Mm} (hT : Tp D M0) (k244 : Nat → Int32 → Int32 → Int32 → Int32 → Int32 → Mm → Option (Int32 × Mm)) (hk244 : ∀ (x0 : Nat) (hx0 : D x0) (x1 : Int32) (x2 : Int32) (x5 : Int32) (x6 : Int32) (x8 : Int32) (M : Mm) (hF : Fr D M0 M), FJ D M0 (k244 x0 x1 x2 x5 x6 x8 M)) (x0 : Nat) (hx0 : D x0) (x1 : Int32) (x2 : Int32) (x5 : Int32) (x6 : Int32) (x8 : Int32) (x9 : Int32) (x10 : Int32) (s0 : Int32) (s1 : Int32) (s2 : Nat) (hs2 : D s2) (M : Mm) (hF : Fr D M0 M) : FJ D M0 (Mod_cry_J362 k244 x0 x1 x2 x5 x6 x8 x9 x10 s0 s1 s2 M) := by
  unfold Mod_cry_J362
  refine FJ_ck ?_
  refine FJ_ck ?_
  refine FJ_nn (Fr_sI hF hs2) hx0 (fun b89 hb89 => ?_)
  refine FJ_ck ?_
  refine FJ_nn (Fr_sI (Fr_sI hF hs2) hb89) hx0 (fun b92 hb92 => ?_)
  refine FJ_nn (Fr_sI (Fr_sI hF hs2) hb89) hx0 (fun b93 hb93 => ?_)
  refine FJ_ck ?_
  refine FJ_ck ?_
  refine FJ_nn (Fr_sI (Fr_sI (Fr_sI hF hs2) hb89) hb92) hx0 (fun b97 hb97 => ?_)
  refine FJ_ck ?_
  refine FJ_nn (Fr_sI (Fr_sI (Fr_sI (Fr_sI hF hs2) hb89) hb92) hb97) hx0 (fun b100 hb100 => ?_)
  refine FJ_ck ?_
  refine FJ_nn (Fr_sI (Fr_sI (Fr_sI (Fr_sI (Fr_sI hF hs2) hb89) hb92) hb97) hb100) hx0 (fun b103 hb103 => ?_)
  refine FJ_ck ?_
  refine FJ_if ?_ ?_
  · exact fj_Mod_cry_J438 hT k244 hk244 _ hx0 _ _ _ _ _ _ (Fr_sI (Fr_sI (Fr_sI (Fr_sI (Fr_sI hF hs2) hb89) hb92) hb97) hb100)
  · refine FJ_bd hT (Fr_sI (Fr_sI (Fr_sI (Fr_sI (Fr_sI hF hs2) hb89) hb92) hb97) hb100) (fun gC gT => fj_Mod_against gC gT _ hx0 _ _ _) (fun r105 M106 hFM106 => ?_)
    exact fj_Mod_cry_J438 hT k244 hk244 _ hx0 _ _ _ _ _ _ hFM106
theorem nj_Mod_cry_J362 {M0 : Mm} (k244 : Nat → Int32 → Int32 → Int32 → Int32 → Int32 → Mm → Option (Int32 × Mm)) (hk244 : ∀ (x0 : Nat) (x1 : Int32) (x2 : Int32) (x5 : Int32) (x6 : Int32) (x8 : Int32) (M : Mm) (hS : Sm M0 M), NJ M0 (k244 x0 x1 x2 x5 x6 x8 M)) (x0 : Nat) (x1 : Int32) (x2 : Int32) (x5 : Int32) (x6 : Int32) (x8 : Int32) (x9 : Int32) (x10 : Int32) (s0 : Int32) (s1 : Int32) (s2 : Nat) (M : Mm) (hS : Sm M0 M) : NJ M0 (Mod_cry_J362 k244 x0 x1 x2 x5 x6 x8 x9 x10 s0 s1 s2 M) := by
  unfold Mod_cry_J362
  refine NJ_ck ?_
  refine NJ_ck ?_
  refine NJ_nn (fun b89 => ?_)
  refine NJ_ck ?_
  refine NJ_nn (fun b92 => ?_)
  refine NJ_nn (fun b93 => ?_)
  refine NJ_ck ?_
  refine NJ_ck ?_
  refine NJ_nn (fun b97 => ?_)
  refine NJ_ck ?_
  refine NJ_nn (fun b100 => ?_)
  refine NJ_ck ?_
  refine NJ_nn (fun b103 => ?_)
  refine NJ_ck ?_
  refine NJ_if ?_ ?_
  · exact nj_Mod_cry_J438 k244 hk244 _ _ _ _ _ _ _ (Sm_sI (Sm_sI (Sm_sI (Sm_sI (Sm_sI hS)))))
  · refine NJ_bd (Sm_sI (Sm_sI (Sm_sI (Sm_sI (Sm_sI hS))))) (nj_Mod_against _ _ _ _ _) (fun r105 M106 hSM106 => ?_)
    exact nj_Mod_cry_J438 k244 hk244 _ _ _ _ _ _ _ hSM106
theorem fj_Mod_cry_J334 {D : Nat → Prop} {M0 : Mm} (hT : Tp D M0) (k244 : Nat → Int32 → Int32 → Int32 → Int32 → Int32 → Mm → Option (Int32 × Mm)) (hk244 : ∀ (x0 : Nat) (hx0 : D x0) (x1 : Int32) (x2 : Int32) (x5 : Int32) (x6 : Int32) (x8 : Int32) (M : Mm) (hF : Fr D M0 M), FJ D M0 (k244 x0 x1 x2 x5 x6 x8 M)) (x0 : Nat) (hx0 : D x0) (x1 : Int32) (x2 : Int32) (x5 : Int32) (x6 : Int32) (x8 : Int32) (x9 : Int32) (x10 : Int32) (s0 : Int32) (s1 : Int32) (s2 : Nat) (hs2 : D s2) (M : Mm) (hF : Fr D M0 M) : FJ D M0 (Mod_cry_J334 k244 x0 x1 x2 x5 x6 x8 x9 x10 s0 s1 s2 M) := by
  unfold Mod_cry_J334
  refine FJ_ck ?_
  refine FJ_ck ?_
  refine FJ_nn (Fr_sI hF hs2) hx0 (fun b85 hb85 => ?_)
  refine FJ_if ?_ ?_
  · exact fj_Mod_cry_J362 hT k244 hk244 _ hx0 _ _ _ _ _ _ _ _ _ _ hb85 _ (Fr_sI hF hs2)
  · refine FJ_nn (Fr_sI hF hs2) hx0 (fun b107 hb107 => ?_)
    refine FJ_ck ?_
    exact fj_Mod_cry_J362 hT k244 hk244 _ hx0 _ _ _ _ _ _ _ _ _ _ hb85 _ (Fr_sI hF hs2)
theorem nj_Mod_cry_J334 {M0 : Mm} (k244 : Nat → Int32 → Int32 → Int32 → Int32 → Int32 → Mm → Option (Int32 × Mm)) (hk244 : ∀ (x0 : Nat) (x1 : Int32) (x2 : Int32) (x5 : Int32) (x6 : Int32) (x8 : Int32) (M : Mm) (hS : Sm M0 M), NJ M0 (k244 x0 x1 x2 x5 x6 x8 M)) (x0 : Nat) (x1 : Int32) (x2 : Int32) (x5 : Int32) (x6 : Int32) (x8 : Int32) (x9 : Int32) (x10 : Int32) (s0 : Int32) (s1 : Int32) (s2 : Nat) (M : Mm) (hS : Sm M0 M) : NJ M0 (Mod_cry_J334 k244 x0 x1 x2 x5 x6 x8 x9 x10 s0 s1 s2 M) := by
  unfold Mod_cry_J334
  refine NJ_ck ?_
  refine NJ_ck ?_
  refine NJ_nn (fun b85 => ?_)
  refine NJ_if ?_ ?_
  · exact nj_Mod_cry_J362 k244 hk244 _ _ _ _ _ _ _ _ _ _ _ _ (Sm_sI hS)
  · refine NJ_nn (fun b107 => ?_)
    refine NJ_ck ?_
    exact nj_Mod_cry_J362 k244 hk244 _ _ _ _ _ _ _ _ _ _ _ _ (Sm_sI hS)
theorem fj_Mod_cry_B244 {D : Nat → Prop} {M0 : Mm} (hT : Tp D M0) (k244 : Nat → Int32 → Int32 → Int32 → Int32 → Int32 → Mm → Option (Int32 × Mm)) (hk244 : ∀ (x0 : Nat) (hx0 : D x0) (x1 : Int32) (x2 : Int32) (x5 : Int32) (x6 : Int32) (x8 : Int32) (M : Mm) (hF : Fr D M0 M), FJ D M0 (k244 x0 x1 x2 x5 x6 x8 M)) (x0 : Nat) (hx0 : D x0) (x1 : Int32) (x2 : Int32) (x5 : Int32) (x6 : Int32) (x8 : Int32) (M : Mm) (hF : Fr D M0 M) : FJ D M0 (Mod_cry_B244 k244 x0 x1 x2 x5 x6 x8 M) := by
  unfold Mod_cry_B244
  refine FJ_if ?_ ?_
  · exact FJ_leaf hF
  · refine FJ_ck ?_
    refine FJ_nn hF hx0 (fun b63 hb63 => ?_)
    refine FJ_ck ?_
    refine FJ_nn hF hx0 (fun b65 hb65 => ?_)
    refine FJ_ck ?_
    refine FJ_bd hT hF (fun gC gT => fj_Mod_min gC gT _ _) (fun r67 M68 hFM68 => ?_)
    refine FJ_ck ?_
    refine FJ_nn hFM68 hx0 (fun b70 hb70 => ?_)
    refine FJ_ck ?_
    refine FJ_nn (Fr_sI hFM68 hb70) hx0 (fun b73 hb73 => ?_)
    refine FJ_ck ?_
    refine FJ_nn (Fr_sI (Fr_sI hFM68 hb70) hb73) hx0 (fun b76 hb76 => ?_)
    refine FJ_ck ?_
    refine FJ_nn (Fr_sI (Fr_sI hFM68 hb70) hb73) hx0 (fun b79 hb79 => ?_)
    refine FJ_if ?_ ?_
    · refine FJ_nn (Fr_sI (Fr_sI hFM68 hb70) hb73) hx0 (fun b80 hb80 => ?_)
      refine FJ_ck ?_
      exact fj_Mod_cry_J334 hT k244 hk244 _ hx0 _ _ _ _ _ _ _ _ _ _ hb79 _ (Fr_sI (Fr_sI hFM68 hb70) hb73)
    · exact fj_Mod_cry_J334 hT k244 hk244 _ hx0 _ _ _ _ _ _ _ _ _ _ hb79 _ (Fr_sI (Fr_sI hFM68 hb70) hb73)
theorem nj_Mod_cry_B244 {M0 : Mm} (k244 : Nat → Int32 → Int32 → Int32 → Int32 → Int32 → Mm → Option (Int32 × Mm)) (hk244 : ∀ (x0 : Nat) (x1 : Int32) (x2 : Int32) (x5 : Int32) (x6 : Int32) (x8 : Int32) (M : Mm) (hS : Sm M0 M), NJ M0 (k244 x0 x1 x2 x5 x6 x8 M)) (x0 : Nat) (x1 : Int32) (x2 : Int32) (x5 : Int32) (x6 : Int32) (x8 : Int32) (M : Mm) (hS : Sm M0 M) : NJ M0 (Mod_cry_B244 k244 x0 x1 x2 x5 x6 x8 M) := by
  unfold Mod_cry_B244
  refine NJ_if ?_ ?_
  · exact NJ_leaf hS
  · refine NJ_ck ?_
    refine NJ_nn (fun b63 => ?_)
    refine NJ_ck ?_
    refine NJ_nn (fun b65 => ?_)
    refine NJ_ck ?_
    refine NJ_bd hS (nj_Mod_min _ _ _) (fun r67 M68 hSM68 => ?_)
    refine NJ_ck ?_
    refine NJ_nn (fun b70 => ?_)
    refine NJ_ck ?_
    refine NJ_nn (fun b73 => ?_)
    refine NJ_ck ?_
    refine NJ_nn (fun b76 => ?_)
    refine NJ_ck ?_
    refine NJ_nn (fun b79 => ?_)
    refine NJ_if ?_ ?_
    · refine NJ_nn (fun b80 => ?_)
      refine NJ_ck ?_
      exact nj_Mod_cry_J334 k244 hk244 _ _ _ _ _ _ _ _ _ _ _ _ (Sm_sI (Sm_sI hSM68))
    · exact nj_Mod_cry_J334 k244 hk244 _ _ _ _ _ _ _ _ _ _ _ _ (Sm_sI (Sm_sI hSM68))
theorem fj_Mod_cry_L244 {D : Nat → Prop} {M0 : Mm} (hT : Tp D M0) : ∀ (n : Nat) (x0 : Nat) (hx0 : D x0) (x1 : Int32) (x2 : Int32) (x5 : Int32) (x6 : Int32) (x8 : Int32) (M : Mm) (hF : Fr D M0 M), FJ D M0 (Mod_cry_L244 n x0 x1 x2 x5 x6 x8 M) := by
  intro n
  induction n with
  | zero => intros; exact FJ_none
  | succ n ih => intro x0 hx0 x1 x2 x5 x6 x8 M hF; exact fj_Mod_cry_B244 hT _ ih x0 hx0 x1 x2 x5 x6 x8 M hF
theorem nj_Mod_cry_L244 {M0 : Mm} : ∀ (n : Nat) (x0 : Nat) (x1 : Int32) (x2 : Int32) (x5 : Int32) (x6 : Int32) (x8 : Int32) (M : Mm) (hS : Sm M0 M), NJ M0 (Mod_cry_L244 n x0 x1 x2 x5 x6 x8 M) := by
  intro n
  induction n with
  | zero => intros; exact NJ_none
  | succ n ih => intro x0 x1 x2 x5 x6 x8 M hS; exact nj_Mod_cry_B244 _ ih x0 x1 x2 x5 x6 x8 M hS
theorem fj_Mod_cry {D : Nat → Prop} {M : Mm} (hC : Cl D M) (hT : Tp D M) (a0 : Nat) (h0 : D a0) (a1 : Int32) (a2 : Int32) (a3 : Int32) (a4 : Int32) : FJ D M (Mod_cry M a0 a1 a2 a3 a4) := by
  unfold Mod_cry
  refine FJ_ck ?_
  refine FJ_bd hT (Fr.rf hC) (fun gC gT => fj_Mod_isPerson gC gT _ h0 _) (fun r2 M3 hFM3 => ?_)
  refine FJ_if ?_ ?_
  · exact FJ_leaf hFM3
  · refine FJ_bd hT hFM3 (fun gC gT => fj_Mod_in gC gT _ _ _) (fun r4 M5 hFM5 => ?_)
    refine FJ_if ?_ ?_
    · exact FJ_leaf hFM5
    · refine FJ_bd hT hFM5 (fun gC gT => fj_Mod_in gC gT _ _ _) (fun r6 M7 hFM7 => ?_)
      refine FJ_if ?_ ?_
      · exact FJ_leaf hFM7
      · refine FJ_ck ?_
        refine FJ_if ?_ ?_
        · exact FJ_leaf hFM7
        · refine FJ_nn hFM7 h0 (fun b9 hb9 => ?_)
          refine FJ_ck ?_
          refine FJ_if ?_ ?_
          · exact FJ_leaf hFM7
          · refine FJ_bd hT hFM7 (fun gC gT => fj_Mod_asked gC gT _ h0 _) (fun r12 M13 hFM13 => ?_)
            refine FJ_if ?_ ?_
            · exact FJ_leaf hFM13
            · refine FJ_ck ?_
              refine FJ_nn hFM13 h0 (fun b15 hb15 => ?_)
              refine FJ_ck ?_
              refine FJ_if ?_ ?_
              · refine FJ_nn hFM13 h0 (fun b17 hb17 => ?_)
                refine FJ_ck ?_
                refine FJ_nn hFM13 h0 (fun b21 hb21 => ?_)
                refine FJ_ck ?_
                refine FJ_nn (Fr_sI hFM13 hb21) h0 (fun b24 hb24 => ?_)
                refine FJ_ck ?_
                refine FJ_ck ?_
                refine FJ_nn (Fr_sI (Fr_sI hFM13 hb21) hb24) h0 (fun b28 hb28 => ?_)
                refine FJ_ck ?_
                refine FJ_nn (Fr_sI (Fr_sI (Fr_sI hFM13 hb21) hb24) hb28) h0 (fun b31 hb31 => ?_)
                refine FJ_ck ?_
                refine FJ_nn (Fr_sI (Fr_sI (Fr_sI (Fr_sI hFM13 hb21) hb24) hb28) hb31) h0 (fun b34 hb34 => ?_)
                refine FJ_ck ?_
                refine FJ_nn (Fr_sI (Fr_sI (Fr_sI (Fr_sI (Fr_sI hFM13 hb21) hb24) hb28) hb31) hb34) h0 (fun b37 hb37 => ?_)
                refine FJ_nn (Fr_sI (Fr_sI (Fr_sI (Fr_sI (Fr_sI hFM13 hb21) hb24) hb28) hb31) hb34) h0 (fun b38 hb38 => ?_)
                refine FJ_ck ?_
                refine FJ_ck ?_
                refine FJ_nn (Fr_sI (Fr_sI (Fr_sI (Fr_sI (Fr_sI (Fr_sI hFM13 hb21) hb24) hb28) hb31) hb34) hb37) h0 (fun b42 hb42 => ?_)
                refine FJ_ck ?_
                refine FJ_nn (Fr_sI (Fr_sI (Fr_sI (Fr_sI (Fr_sI (Fr_sI (Fr_sI hFM13 hb21) hb24) hb28) hb31) hb34) hb37) hb42) h0 (fun b45 hb45 => ?_)
                refine FJ_ck ?_
                refine FJ_nn (Fr_sI (Fr_sI (Fr_sI (Fr_sI (Fr_sI (Fr_sI (Fr_sI (Fr_sI hFM13 hb21) hb24) hb28) hb31) hb34) hb37) hb42) hb45) h0 (fun b48 hb48 => ?_)
                refine FJ_ck ?_
                refine FJ_bd hT (Fr_sI (Fr_sI (Fr_sI (Fr_sI (Fr_sI (Fr_sI (Fr_sI (Fr_sI (Fr_sI hFM13 hb21) hb24) hb28) hb31) hb34) hb37) hb42) hb45) hb48) (fun gC gT => fj_Mod_asked gC gT _ h0 _) (fun r51 M52 hFM52 => ?_)
                refine FJ_if ?_ ?_
                · exact FJ_leaf hFM52
                · refine FJ_ck ?_
                  refine FJ_bd hT hFM52 (fun gC gT => fj_Mod_asked gC gT _ h0 _) (fun r54 M55 hFM55 => ?_)
                  refine FJ_if ?_ ?_
                  · refine FJ_ck ?_
                    refine FJ_nn hFM55 h0 (fun b57 hb57 => ?_)
                    refine FJ_ck ?_
                    refine FJ_bd hT (Fr_sI hFM55 hb57) (fun gC gT => fj_Mod_against gC gT _ h0 _ _ _) (fun r60 M61 hFM61 => ?_)
                    exact fj_Mod_cry_L244 hT fu _ h0 _ _ _ _ _ _ hFM61
                  · exact FJ_leaf hFM55
              · exact FJ_leaf hFM13
theorem nj_Mod_cry (M : Mm) (a0 : Nat) (a1 : Int32) (a2 : Int32) (a3 : Int32) (a4 : Int32) : NJ M (Mod_cry M a0 a1 a2 a3 a4) := by
  unfold Mod_cry
  refine NJ_ck ?_
  refine NJ_bd Sm.rf (nj_Mod_isPerson _ _ _) (fun r2 M3 hSM3 => ?_)
  refine NJ_if ?_ ?_
  · exact NJ_leaf hSM3
  · refine NJ_bd hSM3 (nj_Mod_in _ _ _ _) (fun r4 M5 hSM5 => ?_)
    refine NJ_if ?_ ?_
    · exact NJ_leaf hSM5
    · refine NJ_bd hSM5 (nj_Mod_in _ _ _ _) (fun r6 M7 hSM7 => ?_)
      refine NJ_if ?_ ?_
      · exact NJ_leaf hSM7
      · refine NJ_ck ?_
        refine NJ_if ?_ ?_
        · exact NJ_leaf hSM7
        · refine NJ_nn (fun b9 => ?_)
          refine NJ_ck ?_
          refine NJ_if ?_ ?_
          · exact NJ_leaf hSM7
          · refine NJ_bd hSM7 (nj_Mod_asked _ _ _) (fun r12 M13 hSM13 => ?_)
            refine NJ_if ?_ ?_
            · exact NJ_leaf hSM13
            · refine NJ_ck ?_
              refine NJ_nn (fun b15 => ?_)
              refine NJ_ck ?_
              refine NJ_if ?_ ?_
              · refine NJ_nn (fun b17 => ?_)
                refine NJ_ck ?_
                refine NJ_nn (fun b21 => ?_)
                refine NJ_ck ?_
                refine NJ_nn (fun b24 => ?_)
                refine NJ_ck ?_
                refine NJ_ck ?_
                refine NJ_nn (fun b28 => ?_)
                refine NJ_ck ?_
                refine NJ_nn (fun b31 => ?_)
                refine NJ_ck ?_
                refine NJ_nn (fun b34 => ?_)
                refine NJ_ck ?_
                refine NJ_nn (fun b37 => ?_)
                refine NJ_nn (fun b38 => ?_)
                refine NJ_ck ?_
                refine NJ_ck ?_
                refine NJ_nn (fun b42 => ?_)
                refine NJ_ck ?_
                refine NJ_nn (fun b45 => ?_)
                refine NJ_ck ?_
                refine NJ_nn (fun b48 => ?_)
                refine NJ_ck ?_
                refine NJ_bd (Sm_sI (Sm_sI (Sm_sI (Sm_sI (Sm_sI (Sm_sI (Sm_sI (Sm_sI (Sm_sI hSM13))))))))) (nj_Mod_asked _ _ _) (fun r51 M52 hSM52 => ?_)
                refine NJ_if ?_ ?_
                · exact NJ_leaf hSM52
                · refine NJ_ck ?_
                  refine NJ_bd hSM52 (nj_Mod_asked _ _ _) (fun r54 M55 hSM55 => ?_)
                  refine NJ_if ?_ ?_
                  · refine NJ_ck ?_
                    refine NJ_nn (fun b57 => ?_)
                    refine NJ_ck ?_
                    refine NJ_bd (Sm_sI hSM55) (nj_Mod_against _ _ _ _ _) (fun r60 M61 hSM61 => ?_)
                    exact nj_Mod_cry_L244 fu _ _ _ _ _ _ _ hSM61
                  · exact NJ_leaf hSM55
              · exact NJ_leaf hSM13
theorem fj_Mod_back {D : Nat → Prop} {M : Mm} (hC : Cl D M) (hT : Tp D M) (a0 : Nat) (h0 : D a0) (a1 : Int32) : FJ D M (Mod_back M a0 a1) := by
  unfold Mod_back
  refine FJ_ck ?_
  refine FJ_if ?_ ?_
  · exact FJ_leaf (Fr.rf hC)
  · refine FJ_if ?_ ?_
    · exact FJ_leaf (Fr.rf hC)
    · refine FJ_nn (Fr.rf hC) h0 (fun b2 hb2 => ?_)
      refine FJ_ck ?_
      refine FJ_if ?_ ?_
      · exact FJ_leaf (Fr.rf hC)
      · refine FJ_nn (Fr.rf hC) h0 (fun b4 hb4 => ?_)
        refine FJ_ck ?_
        refine FJ_if ?_ ?_
        · exact FJ_leaf (Fr.rf hC)
        · refine FJ_nn (Fr.rf hC) h0 (fun b7 hb7 => ?_)
          refine FJ_nn (Fr.rf hC) h0 (fun b8 hb8 => ?_)
          refine FJ_ck ?_
          refine FJ_ck ?_
          refine FJ_nn (Fr_sI (Fr.rf hC) hb7) h0 (fun b12 hb12 => ?_)
          refine FJ_ck ?_
          refine FJ_nn (Fr_sI (Fr_sI (Fr.rf hC) hb7) hb12) h0 (fun b15 hb15 => ?_)
          refine FJ_ck ?_
          refine FJ_nn (Fr_sI (Fr_sI (Fr.rf hC) hb7) hb12) h0 (fun b18 hb18 => ?_)
          refine FJ_ck ?_
          exact FJ_leaf (Fr_sI (Fr_sI (Fr_sI (Fr.rf hC) hb7) hb12) hb18)
theorem nj_Mod_back (M : Mm) (a0 : Nat) (a1 : Int32) : NJ M (Mod_back M a0 a1) := by
  unfold Mod_back
  refine NJ_ck ?_
  refine NJ_if ?_ ?_
  · exact NJ_leaf Sm.rf
  · refine NJ_if ?_ ?_
    · exact NJ_leaf Sm.rf
    · refine NJ_nn (fun b2 => ?_)
      refine NJ_ck ?_
      refine NJ_if ?_ ?_
      · exact NJ_leaf Sm.rf
      · refine NJ_nn (fun b4 => ?_)
        refine NJ_ck ?_
        refine NJ_if ?_ ?_
        · exact NJ_leaf Sm.rf
        · refine NJ_nn (fun b7 => ?_)
          refine NJ_nn (fun b8 => ?_)
          refine NJ_ck ?_
          refine NJ_ck ?_
          refine NJ_nn (fun b12 => ?_)
          refine NJ_ck ?_
          refine NJ_nn (fun b15 => ?_)
          refine NJ_ck ?_
          refine NJ_nn (fun b18 => ?_)
          refine NJ_ck ?_
          exact NJ_leaf (Sm_sI (Sm_sI (Sm_sI Sm.rf)))
theorem fj_Mod_isBargain {D : Nat → Prop} {M : Mm} (hC : Cl D M) (hT : Tp D M) (a0 : Nat) (h0 : D a0) (a1 : Int32) : FJ D M (Mod_isBargain M a0 a1) := by
  unfold Mod_isBargain
  refine FJ_ck ?_
  refine FJ_if ?_ ?_
  · exact FJ_leaf (Fr.rf hC)
  · refine FJ_if ?_ ?_
    · exact FJ_leaf (Fr.rf hC)
    · refine FJ_nn (Fr.rf hC) h0 (fun b2 hb2 => ?_)
      refine FJ_ck ?_
      refine FJ_if ?_ ?_
      · exact FJ_leaf (Fr.rf hC)
      · exact FJ_leaf (Fr.rf hC)
theorem nj_Mod_isBargain (M : Mm) (a0 : Nat) (a1 : Int32) : NJ M (Mod_isBargain M a0 a1) := by
  unfold Mod_isBargain
  refine NJ_ck ?_
  refine NJ_if ?_ ?_
  · exact NJ_leaf Sm.rf
  · refine NJ_if ?_ ?_
    · exact NJ_leaf Sm.rf
    · refine NJ_nn (fun b2 => ?_)
      refine NJ_ck ?_
      refine NJ_if ?_ ?_
      · exact NJ_leaf Sm.rf
      · exact NJ_leaf Sm.rf
theorem fj_Mod_note_J54 {D : Nat → Prop} {M0 : Mm} (hT : Tp D M0) (x0 : Nat) (hx0 : D x0) (x3 : Int32) (x4 : Int32) (s0 : Int32) (s1 : Int32) (M : Mm) (hF : Fr D M0 M) : FJ D M0 (Mod_note_J54 x0 x3 x4 s0 s1 M) := by
  unfold Mod_note_J54
  refine FJ_ck ?_
  refine FJ_nn hF hx0 (fun b11 hb11 => ?_)
  refine FJ_ck ?_
  refine FJ_nn (Fr_sI hF hb11) hx0 (fun b14 hb14 => ?_)
  refine FJ_ck ?_
  exact FJ_leaf (Fr_sI (Fr_sI hF hb11) hb14)
theorem nj_Mod_note_J54 {M0 : Mm} (x0 : Nat) (x3 : Int32) (x4 : Int32) (s0 : Int32) (s1 : Int32) (M : Mm) (hS : Sm M0 M) : NJ M0 (Mod_note_J54 x0 x3 x4 s0 s1 M) := by
  unfold Mod_note_J54
  refine NJ_ck ?_
  refine NJ_nn (fun b11 => ?_)
  refine NJ_ck ?_
  refine NJ_nn (fun b14 => ?_)
  refine NJ_ck ?_
  exact NJ_leaf (Sm_sI (Sm_sI hS))
theorem fj_Mod_note {D : Nat → Prop} {M : Mm} (hC : Cl D M) (hT : Tp D M) (a0 : Nat) (h0 : D a0) (a1 : Int32) (a2 : Int32) (a3 : Int32) (a4 : Int32) : FJ D M (Mod_note M a0 a1 a2 a3 a4) := by
  unfold Mod_note
  refine FJ_ck ?_
  refine FJ_bd hT (Fr.rf hC) (fun gC gT => fj_Mod_isBargain gC gT _ h0 _) (fun r2 M3 hFM3 => ?_)
  refine FJ_if ?_ ?_
  · exact FJ_leaf hFM3
  · refine FJ_bd hT hFM3 (fun gC gT => fj_Mod_in gC gT _ _ _) (fun r4 M5 hFM5 => ?_)
    refine FJ_if ?_ ?_
    · exact FJ_leaf hFM5
    · refine FJ_bd hT hFM5 (fun gC gT => fj_Mod_in gC gT _ _ _) (fun r6 M7 hFM7 => ?_)
      refine FJ_if ?_ ?_
      · exact FJ_leaf hFM7
      · refine FJ_ck ?_
        refine FJ_if ?_ ?_
        · exact fj_Mod_note_J54 hT _ h0 _ _ _ _ _ hFM7
        · exact fj_Mod_note_J54 hT _ h0 _ _ _ _ _ hFM7
theorem nj_Mod_note (M : Mm) (a0 : Nat) (a1 : Int32) (a2 : Int32) (a3 : Int32) (a4 : Int32) : NJ M (Mod_note M a0 a1 a2 a3 a4) := by
  unfold Mod_note
  refine NJ_ck ?_
  refine NJ_bd Sm.rf (nj_Mod_isBargain _ _ _) (fun r2 M3 hSM3 => ?_)
  refine NJ_if ?_ ?_
  · exact NJ_leaf hSM3
  · refine NJ_bd hSM3 (nj_Mod_in _ _ _ _) (fun r4 M5 hSM5 => ?_)
    refine NJ_if ?_ ?_
    · exact NJ_leaf hSM5
    · refine NJ_bd hSM5 (nj_Mod_in _ _ _ _) (fun r6 M7 hSM7 => ?_)
      refine NJ_if ?_ ?_
      · exact NJ_leaf hSM7
      · refine NJ_ck ?_
        refine NJ_if ?_ ?_
        · exact nj_Mod_note_J54 _ _ _ _ _ _ hSM7
        · exact nj_Mod_note_J54 _ _ _ _ _ _ hSM7
theorem fj_Mod_deny_J64 {D : Nat → Prop} {M0 : Mm} (hT : Tp D M0) (x0 : Nat) (hx0 : D x0) (x3 : Int32) (x4 : Int32) (M : Mm) (hF : Fr D M0 M) : FJ D M0 (Mod_deny_J64 x0 x3 x4 M) := by
  unfold Mod_deny_J64
  refine FJ_ck ?_
  refine FJ_nn hF hx0 (fun b12 hb12 => ?_)
  refine FJ_ck ?_
  exact FJ_leaf (Fr_sI hF hb12)
theorem nj_Mod_deny_J64 {M0 : Mm} (x0 : Nat) (x3 : Int32) (x4 : Int32) (M : Mm) (hS : Sm M0 M) : NJ M0 (Mod_deny_J64 x0 x3 x4 M) := by
  unfold Mod_deny_J64
  refine NJ_ck ?_
  refine NJ_nn (fun b12 => ?_)
  refine NJ_ck ?_
  exact NJ_leaf (Sm_sI hS)
theorem fj_Mod_deny_J31 {D : Nat → Prop} {M0 : Mm} (hT : Tp D M0) (x0 : Nat) (hx0 : D x0) (x3 : Int32) (s0 : Int32) (M : Mm) (hF : Fr D M0 M) : FJ D M0 (Mod_deny_J31 x0 x3 s0 M) := by
  unfold Mod_deny_J31
  refine FJ_ck ?_
  refine FJ_nn hF hx0 (fun b7 hb7 => ?_)
  refine FJ_ck ?_
  refine FJ_if ?_ ?_
  · refine FJ_nn hF hx0 (fun b9 hb9 => ?_)
    refine FJ_ck ?_
    refine FJ_if ?_ ?_
    · refine FJ_nn hF hx0 (fun b15 hb15 => ?_)
      refine FJ_ck ?_
      exact fj_Mod_deny_J64 hT _ hx0 _ _ _ (Fr_sI hF hb15)
    · exact fj_Mod_deny_J64 hT _ hx0 _ _ _ hF
  · exact FJ_leaf hF
theorem nj_Mod_deny_J31 {M0 : Mm} (x0 : Nat) (x3 : Int32) (s0 : Int32) (M : Mm) (hS : Sm M0 M) : NJ M0 (Mod_deny_J31 x0 x3 s0 M) := by
  unfold Mod_deny_J31
  refine NJ_ck ?_
  refine NJ_nn (fun b7 => ?_)
  refine NJ_ck ?_
  refine NJ_if ?_ ?_
  · refine NJ_nn (fun b9 => ?_)
    refine NJ_ck ?_
    refine NJ_if ?_ ?_
    · refine NJ_nn (fun b15 => ?_)
      refine NJ_ck ?_
      exact nj_Mod_deny_J64 _ _ _ _ (Sm_sI hS)
    · exact nj_Mod_deny_J64 _ _ _ _ hS
  · exact NJ_leaf hS
theorem fj_Mod_deny {D : Nat → Prop} {M : Mm} (hC : Cl D M) (hT : Tp D M) (a0 : Nat) (h0 : D a0) (a1 : Int32) (a2 : Int32) : FJ D M (Mod_deny M a0 a1 a2) := by
  unfold Mod_deny
  refine FJ_ck ?_
  refine FJ_bd hT (Fr.rf hC) (fun gC gT => fj_Mod_isBargain gC gT _ h0 _) (fun r2 M3 hFM3 => ?_)
  refine FJ_if ?_ ?_
  · exact FJ_leaf hFM3
  · refine FJ_ck ?_
    refine FJ_if ?_ ?_
    · exact fj_Mod_deny_J31 hT _ h0 _ _ _ hFM3
    · exact fj_Mod_deny_J31 hT _ h0 _ _ _ hFM3
theorem nj_Mod_deny (M : Mm) (a0 : Nat) (a1 : Int32) (a2 : Int32) : NJ M (Mod_deny M a0 a1 a2) := by
  unfold Mod_deny
  refine NJ_ck ?_
  refine NJ_bd Sm.rf (nj_Mod_isBargain _ _ _) (fun r2 M3 hSM3 => ?_)
  refine NJ_if ?_ ?_
  · exact NJ_leaf hSM3
  · refine NJ_ck ?_
    refine NJ_if ?_ ?_
    · exact nj_Mod_deny_J31 _ _ _ _ hSM3
    · exact nj_Mod_deny_J31 _ _ _ _ hSM3
theorem fj_Mod_judges_J172 {D : Nat → Prop} {M0 : Mm} (hT : Tp D M0) (x0 : Nat) (hx0 : D x0) (x3 : Int32) (x4 : Int32) (M : Mm) (hF : Fr D M0 M) : FJ D M0 (Mod_judges_J172 x0 x3 x4 M) := by
  unfold Mod_judges_J172
  refine FJ_ck ?_
  refine FJ_nn hF hx0 (fun b19 hb19 => ?_)
  refine FJ_ck ?_
  refine FJ_nn hF hx0 (fun b22 hb22 => ?_)
  refine FJ_nn hF hx0 (fun b23 hb23 => ?_)
  refine FJ_ck ?_
  refine FJ_ck ?_
  refine FJ_nn (Fr_sI hF hb22) hx0 (fun b27 hb27 => ?_)
  refine FJ_nn (Fr_sI hF hb22) hx0 (fun b28 hb28 => ?_)
  refine FJ_ck ?_
  refine FJ_if ?_ ?_
  · refine FJ_ck ?_
    exact FJ_leaf (Fr_sI (Fr_sI hF hb22) hb27)
  · refine FJ_nn (Fr_sI hF hb22) hx0 (fun b32 hb32 => ?_)
    refine FJ_ck ?_
    refine FJ_ck ?_
    exact FJ_leaf (Fr_sI (Fr_sI hF hb22) hb27)
theorem nj_Mod_judges_J172 {M0 : Mm} (x0 : Nat) (x3 : Int32) (x4 : Int32) (M : Mm) (hS : Sm M0 M) : NJ M0 (Mod_judges_J172 x0 x3 x4 M) := by
  unfold Mod_judges_J172
  refine NJ_ck ?_
  refine NJ_nn (fun b19 => ?_)
  refine NJ_ck ?_
  refine NJ_nn (fun b22 => ?_)
  refine NJ_nn (fun b23 => ?_)
  refine NJ_ck ?_
  refine NJ_ck ?_
  refine NJ_nn (fun b27 => ?_)
  refine NJ_nn (fun b28 => ?_)
  refine NJ_ck ?_
  refine NJ_if ?_ ?_
  · refine NJ_ck ?_
    exact NJ_leaf (Sm_sI (Sm_sI hS))
  · refine NJ_nn (fun b32 => ?_)
    refine NJ_ck ?_
    refine NJ_ck ?_
    exact NJ_leaf (Sm_sI (Sm_sI hS))
theorem fj_Mod_judges_J151 {D : Nat → Prop} {M0 : Mm} (hT : Tp D M0) (x0 : Nat) (hx0 : D x0) (x4 : Int32) (s0 : Int32) (s1 : Nat) (hs1 : D s1) (M : Mm) (hF : Fr D M0 M) : FJ D M0 (Mod_judges_J151 x0 x4 s0 s1 M) := by
  unfold Mod_judges_J151
  refine FJ_ck ?_
  refine FJ_nn hF hx0 (fun b54 hb54 => ?_)
  refine FJ_ck ?_
  refine FJ_nn hF hx0 (fun b56 hb56 => ?_)
  refine FJ_ck ?_
  refine FJ_ck ?_
  exact FJ_leaf (Fr_sI hF hs1)
theorem nj_Mod_judges_J151 {M0 : Mm} (x0 : Nat) (x4 : Int32) (s0 : Int32) (s1 : Nat) (M : Mm) (hS : Sm M0 M) : NJ M0 (Mod_judges_J151 x0 x4 s0 s1 M) := by
  unfold Mod_judges_J151
  refine NJ_ck ?_
  refine NJ_nn (fun b54 => ?_)
  refine NJ_ck ?_
  refine NJ_nn (fun b56 => ?_)
  refine NJ_ck ?_
  refine NJ_ck ?_
  exact NJ_leaf (Sm_sI hS)
theorem fj_Mod_judges {D : Nat → Prop} {M : Mm} (hC : Cl D M) (hT : Tp D M) (a0 : Nat) (h0 : D a0) (a1 : Int32) (a2 : Int32) : FJ D M (Mod_judges M a0 a1 a2) := by
  unfold Mod_judges
  refine FJ_ck ?_
  refine FJ_nn (Fr.rf hC) h0 (fun b4 hb4 => ?_)
  refine FJ_nn (Fr.rf hC) h0 (fun b5 hb5 => ?_)
  refine FJ_ck ?_
  refine FJ_ck ?_
  refine FJ_nn (Fr_sI (Fr.rf hC) hb4) h0 (fun b9 hb9 => ?_)
  refine FJ_nn (Fr_sI (Fr.rf hC) hb4) h0 (fun b10 hb10 => ?_)
  refine FJ_ck ?_
  refine FJ_ck ?_
  refine FJ_nn (Fr_sI (Fr_sI (Fr.rf hC) hb4) hb9) h0 (fun b14 hb14 => ?_)
  refine FJ_ck ?_
  refine FJ_if ?_ ?_
  · exact FJ_leaf (Fr_sI (Fr_sI (Fr.rf hC) hb4) hb9)
  · refine FJ_nn (Fr_sI (Fr_sI (Fr.rf hC) hb4) hb9) h0 (fun b16 hb16 => ?_)
    refine FJ_ck ?_
    refine FJ_if ?_ ?_
    · exact fj_Mod_judges_J172 hT _ h0 _ _ _ (Fr_sI (Fr_sI (Fr.rf hC) hb4) hb9)
    · refine FJ_nn (Fr_sI (Fr_sI (Fr.rf hC) hb4) hb9) h0 (fun b36 hb36 => ?_)
      refine FJ_ck ?_
      refine FJ_if ?_ ?_
      · exact fj_Mod_judges_J172 hT _ h0 _ _ _ (Fr_sI (Fr_sI (Fr.rf hC) hb4) hb9)
      · refine FJ_nn (Fr_sI (Fr_sI (Fr.rf hC) hb4) hb9) h0 (fun b38 hb38 => ?_)
        refine FJ_nn (Fr_sI (Fr_sI (Fr.rf hC) hb4) hb9) h0 (fun b39 hb39 => ?_)
        refine FJ_ck ?_
        refine FJ_nn (Fr_sI (Fr_sI (Fr.rf hC) hb4) hb9) h0 (fun b41 hb41 => ?_)
        refine FJ_ck ?_
        refine FJ_bd hT (Fr_sI (Fr_sI (Fr.rf hC) hb4) hb9) (fun gC gT => fj_Mod_min gC gT _ _) (fun r43 M44 hFM44 => ?_)
        refine FJ_ck ?_
        refine FJ_ck ?_
        refine FJ_nn (Fr_sI hFM44 hb38) h0 (fun b48 hb48 => ?_)
        refine FJ_nn (Fr_sI hFM44 hb38) h0 (fun b49 hb49 => ?_)
        refine FJ_ck ?_
        refine FJ_nn (Fr_sI hFM44 hb38) h0 (fun b51 hb51 => ?_)
        refine FJ_ck ?_
        refine FJ_if ?_ ?_
        · refine FJ_nn (Fr_sI hFM44 hb38) h0 (fun b60 hb60 => ?_)
          refine FJ_ck ?_
          refine FJ_nn (Fr_sI hFM44 hb38) h0 (fun b62 hb62 => ?_)
          refine FJ_ck ?_
          refine FJ_if ?_ ?_
          · refine FJ_nn (Fr_sI hFM44 hb38) h0 (fun b64 hb64 => ?_)
            refine FJ_ck ?_
            refine FJ_ck ?_
            exact FJ_leaf (Fr_sI (Fr_sI hFM44 hb38) hb48)
          · exact fj_Mod_judges_J151 hT _ h0 _ _ _ hb48 _ (Fr_sI hFM44 hb38)
        · exact fj_Mod_judges_J151 hT _ h0 _ _ _ hb48 _ (Fr_sI hFM44 hb38)
theorem nj_Mod_judges (M : Mm) (a0 : Nat) (a1 : Int32) (a2 : Int32) : NJ M (Mod_judges M a0 a1 a2) := by
  unfold Mod_judges
  refine NJ_ck ?_
  refine NJ_nn (fun b4 => ?_)
  refine NJ_nn (fun b5 => ?_)
  refine NJ_ck ?_
  refine NJ_ck ?_
  refine NJ_nn (fun b9 => ?_)
  refine NJ_nn (fun b10 => ?_)
  refine NJ_ck ?_
  refine NJ_ck ?_
  refine NJ_nn (fun b14 => ?_)
  refine NJ_ck ?_
  refine NJ_if ?_ ?_
  · exact NJ_leaf (Sm_sI (Sm_sI Sm.rf))
  · refine NJ_nn (fun b16 => ?_)
    refine NJ_ck ?_
    refine NJ_if ?_ ?_
    · exact nj_Mod_judges_J172 _ _ _ _ (Sm_sI (Sm_sI Sm.rf))
    · refine NJ_nn (fun b36 => ?_)
      refine NJ_ck ?_
      refine NJ_if ?_ ?_
      · exact nj_Mod_judges_J172 _ _ _ _ (Sm_sI (Sm_sI Sm.rf))
      · refine NJ_nn (fun b38 => ?_)
        refine NJ_nn (fun b39 => ?_)
        refine NJ_ck ?_
        refine NJ_nn (fun b41 => ?_)
        refine NJ_ck ?_
        refine NJ_bd (Sm_sI (Sm_sI Sm.rf)) (nj_Mod_min _ _ _) (fun r43 M44 hSM44 => ?_)
        refine NJ_ck ?_
        refine NJ_ck ?_
        refine NJ_nn (fun b48 => ?_)
        refine NJ_nn (fun b49 => ?_)
        refine NJ_ck ?_
        refine NJ_nn (fun b51 => ?_)
        refine NJ_ck ?_
        refine NJ_if ?_ ?_
        · refine NJ_nn (fun b60 => ?_)
          refine NJ_ck ?_
          refine NJ_nn (fun b62 => ?_)
          refine NJ_ck ?_
          refine NJ_if ?_ ?_
          · refine NJ_nn (fun b64 => ?_)
            refine NJ_ck ?_
            refine NJ_ck ?_
            exact NJ_leaf (Sm_sI (Sm_sI hSM44))
          · exact nj_Mod_judges_J151 _ _ _ _ _ (Sm_sI hSM44)
        · exact nj_Mod_judges_J151 _ _ _ _ _ (Sm_sI hSM44)
theorem fj_Mod_margin {D : Nat → Prop} {M : Mm} (hC : Cl D M) (hT : Tp D M) (a0 : Nat) (h0 : D a0) (a1 : Int32) (a2 : Int32) : FJ D M (Mod_margin M a0 a1 a2) := by
  unfold Mod_margin
  refine FJ_ck ?_
  refine FJ_nn (Fr.rf hC) h0 (fun b2 hb2 => ?_)
  refine FJ_ck ?_
  refine FJ_bd hT (Fr.rf hC) (fun gC gT => fj_Mod_needOf gC gT _ h0 _) (fun r4 M5 hFM5 => ?_)
  refine FJ_if ?_ ?_
  · refine FJ_ck ?_
    refine FJ_nn hFM5 h0 (fun b7 hb7 => ?_)
    refine FJ_ck ?_
    refine FJ_if ?_ ?_
    · refine FJ_nn hFM5 h0 (fun b9 hb9 => ?_)
      refine FJ_ck ?_
      refine FJ_if ?_ ?_
      · refine FJ_nn hFM5 h0 (fun b11 hb11 => ?_)
        refine FJ_ck ?_
        refine FJ_nn (Fr_sI hFM5 h0) h0 (fun b14 hb14 => ?_)
        refine FJ_ck ?_
        refine FJ_nn (Fr_sI (Fr_sI hFM5 h0) hb14) h0 (fun b17 hb17 => ?_)
        refine FJ_ck ?_
        refine FJ_nn (Fr_sI (Fr_sI (Fr_sI hFM5 h0) hb14) hb17) h0 (fun b20 hb20 => ?_)
        refine FJ_ck ?_
        refine FJ_nn (Fr_sI (Fr_sI (Fr_sI (Fr_sI hFM5 h0) hb14) hb17) hb20) h0 (fun b23 hb23 => ?_)
        refine FJ_ck ?_
        refine FJ_if ?_ ?_
        · refine FJ_nn (Fr_sI (Fr_sI (Fr_sI (Fr_sI hFM5 h0) hb14) hb17) hb20) h0 (fun b25 hb25 => ?_)
          refine FJ_ck ?_
          refine FJ_nn (Fr_sL (Fr_sI (Fr_sI (Fr_sI (Fr_sI hFM5 h0) hb14) hb17) hb20) h0) h0 (fun b28 hb28 => ?_)
          refine FJ_ck ?_
          refine FJ_nn (Fr_sL (Fr_sL (Fr_sI (Fr_sI (Fr_sI (Fr_sI hFM5 h0) hb14) hb17) hb20) h0) hb28) h0 (fun b31 hb31 => ?_)
          refine FJ_ck ?_
          exact FJ_leaf (Fr_sI (Fr_sL (Fr_sL (Fr_sI (Fr_sI (Fr_sI (Fr_sI hFM5 h0) hb14) hb17) hb20) h0) hb28) hb31)
        · exact FJ_leaf (Fr_sI (Fr_sI (Fr_sI (Fr_sI hFM5 h0) hb14) hb17) hb20)
      · exact FJ_leaf hFM5
    · refine FJ_nn hFM5 h0 (fun b34 hb34 => ?_)
      refine FJ_ck ?_
      exact FJ_leaf (Fr_sI hFM5 hb34)
  · refine FJ_ck ?_
    refine FJ_nn hFM5 h0 (fun b38 hb38 => ?_)
    refine FJ_ck ?_
    exact FJ_leaf (Fr_sI hFM5 hb38)
theorem nj_Mod_margin (M : Mm) (a0 : Nat) (a1 : Int32) (a2 : Int32) : NJ M (Mod_margin M a0 a1 a2) := by
  unfold Mod_margin
  refine NJ_ck ?_
  refine NJ_nn (fun b2 => ?_)
  refine NJ_ck ?_
  refine NJ_bd Sm.rf (nj_Mod_needOf _ _ _) (fun r4 M5 hSM5 => ?_)
  refine NJ_if ?_ ?_
  · refine NJ_ck ?_
    refine NJ_nn (fun b7 => ?_)
    refine NJ_ck ?_
    refine NJ_if ?_ ?_
    · refine NJ_nn (fun b9 => ?_)
      refine NJ_ck ?_
      refine NJ_if ?_ ?_
      · refine NJ_nn (fun b11 => ?_)
        refine NJ_ck ?_
        refine NJ_nn (fun b14 => ?_)
        refine NJ_ck ?_
        refine NJ_nn (fun b17 => ?_)
        refine NJ_ck ?_
        refine NJ_nn (fun b20 => ?_)
        refine NJ_ck ?_
        refine NJ_nn (fun b23 => ?_)
        refine NJ_ck ?_
        refine NJ_if ?_ ?_
        · refine NJ_nn (fun b25 => ?_)
          refine NJ_ck ?_
          refine NJ_nn (fun b28 => ?_)
          refine NJ_ck ?_
          refine NJ_nn (fun b31 => ?_)
          refine NJ_ck ?_
          exact NJ_leaf (Sm_sI (Sm_sL (Sm_sL (Sm_sI (Sm_sI (Sm_sI (Sm_sI hSM5)))))))
        · exact NJ_leaf (Sm_sI (Sm_sI (Sm_sI (Sm_sI hSM5))))
      · exact NJ_leaf hSM5
    · refine NJ_nn (fun b34 => ?_)
      refine NJ_ck ?_
      exact NJ_leaf (Sm_sI hSM5)
  · refine NJ_ck ?_
    refine NJ_nn (fun b38 => ?_)
    refine NJ_ck ?_
    exact NJ_leaf (Sm_sI hSM5)
theorem fj_Mod_parts_J115 {D : Nat → Prop} {M0 : Mm} (hT : Tp D M0) (k33 : Nat → Int32 → Int64 → Int64 → Int64 → Int64 → Int64 → Int32 → Mm → Option (Unit × Mm)) (hk33 : ∀ (x0 : Nat) (hx0 : D x0) (x1 : Int32) (x2 : Int64) (x4 : Int64) (x6 : Int64) (x8 : Int64) (x10 : Int64) (x12 : Int32) (M : Mm) (hF : Fr D M0 M), FJ D M0 (k33 x0 x1 x2 x4 x6 x8 x10 x12 M)) (x0 : Nat) (hx0 : D x0) (x1 : Int32) (x2 : Int64) (x4 : Int64) (x6 : Int64) (x8 : Int64) (x10 : Int64) (x12 : Int32) (M : Mm) (hF : Fr D M0 M) : FJ D M0 (Mod_parts_J115 k33 x0 x1 x2 x4 x6 x8 x10 x12 M) := by
  unfold Mod_parts_J115
  exact hk33 _ hx0 _ _ _ _ _ _ _ _ hF
theorem nj_Mod_parts_J115 {M0 : Mm} (k33 : Nat → Int32 → Int64 → Int64 → Int64 → Int64 → Int64 → Int32 → Mm → Option (Unit × Mm)) (hk33 : ∀ (x0 : Nat) (x1 : Int32) (x2 : Int64) (x4 : Int64) (x6 : Int64) (x8 : Int64) (x10 : Int64) (x12 : Int32) (M : Mm) (hS : Sm M0 M), NJ M0 (k33 x0 x1 x2 x4 x6 x8 x10 x12 M)) (x0 : Nat) (x1 : Int32) (x2 : Int64) (x4 : Int64) (x6 : Int64) (x8 : Int64) (x10 : Int64) (x12 : Int32) (M : Mm) (hS : Sm M0 M) : NJ M0 (Mod_parts_J115 k33 x0 x1 x2 x4 x6 x8 x10 x12 M) := by
  unfold Mod_parts_J115
  exact hk33 _ _ _ _ _ _ _ _ _ hS
theorem fj_Mod_parts_J73 {D : Nat → Prop} {M0 : Mm} (hT : Tp D M0) (k33 : Nat → Int32 → Int64 → Int64 → Int64 → Int64 → Int64 → Int32 → Mm → Option (Unit × Mm)) (hk33 : ∀ (x0 : Nat) (hx0 : D x0) (x1 : Int32) (x2 : Int64) (x4 : Int64) (x6 : Int64) (x8 : Int64) (x10 : Int64) (x12 : Int32) (M : Mm) (hF : Fr D M0 M), FJ D M0 (k33 x0 x1 x2 x4 x6 x8 x10 x12 M)) (x0 : Nat) (hx0 : D x0) (x1 : Int32) (x2 : Int64) (x4 : Int64) (x6 : Int64) (x8 : Int64) (x10 : Int64) (x12 : Int32) (M : Mm) (hF : Fr D M0 M) : FJ D M0 (Mod_parts_J73 k33 x0 x1 x2 x4 x6 x8 x10 x12 M) := by
  unfold Mod_parts_J73
  refine FJ_if ?_ ?_
  · exact fj_Mod_parts_J115 hT k33 hk33 _ hx0 _ _ _ _ _ _ _ _ hF
  · refine FJ_if ?_ ?_
    · exact fj_Mod_parts_J115 hT k33 hk33 _ hx0 _ _ _ _ _ _ _ _ hF
    · exact fj_Mod_parts_J115 hT k33 hk33 _ hx0 _ _ _ _ _ _ _ _ hF
theorem nj_Mod_parts_J73 {M0 : Mm} (k33 : Nat → Int32 → Int64 → Int64 → Int64 → Int64 → Int64 → Int32 → Mm → Option (Unit × Mm)) (hk33 : ∀ (x0 : Nat) (x1 : Int32) (x2 : Int64) (x4 : Int64) (x6 : Int64) (x8 : Int64) (x10 : Int64) (x12 : Int32) (M : Mm) (hS : Sm M0 M), NJ M0 (k33 x0 x1 x2 x4 x6 x8 x10 x12 M)) (x0 : Nat) (x1 : Int32) (x2 : Int64) (x4 : Int64) (x6 : Int64) (x8 : Int64) (x10 : Int64) (x12 : Int32) (M : Mm) (hS : Sm M0 M) : NJ M0 (Mod_parts_J73 k33 x0 x1 x2 x4 x6 x8 x10 x12 M) := by
  unfold Mod_parts_J73
  refine NJ_if ?_ ?_
  · exact nj_Mod_parts_J115 k33 hk33 _ _ _ _ _ _ _ _ _ hS
  · refine NJ_if ?_ ?_
    · exact nj_Mod_parts_J115 k33 hk33 _ _ _ _ _ _ _ _ _ hS
    · exact nj_Mod_parts_J115 k33 hk33 _ _ _ _ _ _ _ _ _ hS
theorem fj_Mod_parts_B33 {D : Nat → Prop} {M0 : Mm} (hT : Tp D M0) (k33 : Nat → Int32 → Int64 → Int64 → Int64 → Int64 → Int64 → Int32 → Mm → Option (Unit × Mm)) (hk33 : ∀ (x0 : Nat) (hx0 : D x0) (x1 : Int32) (x2 : Int64) (x4 : Int64) (x6 : Int64) (x8 : Int64) (x10 : Int64) (x12 : Int32) (M : Mm) (hF : Fr D M0 M), FJ D M0 (k33 x0 x1 x2 x4 x6 x8 x10 x12 M)) (x0 : Nat) (hx0 : D x0) (x1 : Int32) (x2 : Int64) (x4 : Int64) (x6 : Int64) (x8 : Int64) (x10 : Int64) (x12 : Int32) (M : Mm) (hF : Fr D M0 M) : FJ D M0 (Mod_parts_B33 k33 x0 x1 x2 x4 x6 x8 x10 x12 M) := by
  unfold Mod_parts_B33
  refine FJ_if ?_ ?_
  · refine FJ_ck ?_
    refine FJ_nn hF hx0 (fun b5 hb5 => ?_)
    refine FJ_ck ?_
    refine FJ_nn (Fr_sL hF hb5) hx0 (fun b8 hb8 => ?_)
    refine FJ_if ?_ ?_
    · refine FJ_ck ?_
      exact FJ_leaf (Fr_sL (Fr_sL hF hb5) hb8)
    · refine FJ_ck ?_
      exact FJ_leaf (Fr_sL (Fr_sL hF hb5) hb8)
  · refine FJ_if ?_ ?_
    · exact fj_Mod_parts_J73 hT k33 hk33 _ hx0 _ _ _ _ _ _ _ _ hF
    · exact fj_Mod_parts_J73 hT k33 hk33 _ hx0 _ _ _ _ _ _ _ _ hF
theorem nj_Mod_parts_B33 {M0 : Mm} (k33 : Nat → Int32 → Int64 → Int64 → Int64 → Int64 → Int64 → Int32 → Mm → Option (Unit × Mm)) (hk33 : ∀ (x0 : Nat) (x1 : Int32) (x2 : Int64) (x4 : Int64) (x6 : Int64) (x8 : Int64) (x10 : Int64) (x12 : Int32) (M : Mm) (hS : Sm M0 M), NJ M0 (k33 x0 x1 x2 x4 x6 x8 x10 x12 M)) (x0 : Nat) (x1 : Int32) (x2 : Int64) (x4 : Int64) (x6 : Int64) (x8 : Int64) (x10 : Int64) (x12 : Int32) (M : Mm) (hS : Sm M0 M) : NJ M0 (Mod_parts_B33 k33 x0 x1 x2 x4 x6 x8 x10 x12 M) := by
  unfold Mod_parts_B33
  refine NJ_if ?_ ?_
  · refine NJ_ck ?_
    refine NJ_nn (fun b5 => ?_)
    refine NJ_ck ?_
    refine NJ_nn (fun b8 => ?_)
    refine NJ_if ?_ ?_
    · refine NJ_ck ?_
      exact NJ_leaf (Sm_sL (Sm_sL hS))
    · refine NJ_ck ?_
      exact NJ_leaf (Sm_sL (Sm_sL hS))
  · refine NJ_if ?_ ?_
    · exact nj_Mod_parts_J73 k33 hk33 _ _ _ _ _ _ _ _ _ hS
    · exact nj_Mod_parts_J73 k33 hk33 _ _ _ _ _ _ _ _ _ hS
theorem fj_Mod_parts_L33 {D : Nat → Prop} {M0 : Mm} (hT : Tp D M0) : ∀ (n : Nat) (x0 : Nat) (hx0 : D x0) (x1 : Int32) (x2 : Int64) (x4 : Int64) (x6 : Int64) (x8 : Int64) (x10 : Int64) (x12 : Int32) (M : Mm) (hF : Fr D M0 M), FJ D M0 (Mod_parts_L33 n x0 x1 x2 x4 x6 x8 x10 x12 M) := by
  intro n
  induction n with
  | zero => intros; exact FJ_none
  | succ n ih => intro x0 hx0 x1 x2 x4 x6 x8 x10 x12 M hF; exact fj_Mod_parts_B33 hT _ ih x0 hx0 x1 x2 x4 x6 x8 x10 x12 M hF
theorem nj_Mod_parts_L33 {M0 : Mm} : ∀ (n : Nat) (x0 : Nat) (x1 : Int32) (x2 : Int64) (x4 : Int64) (x6 : Int64) (x8 : Int64) (x10 : Int64) (x12 : Int32) (M : Mm) (hS : Sm M0 M), NJ M0 (Mod_parts_L33 n x0 x1 x2 x4 x6 x8 x10 x12 M) := by
  intro n
  induction n with
  | zero => intros; exact NJ_none
  | succ n ih => intro x0 x1 x2 x4 x6 x8 x10 x12 M hS; exact nj_Mod_parts_B33 _ ih x0 x1 x2 x4 x6 x8 x10 x12 M hS
theorem fj_Mod_parts_J21 {D : Nat → Prop} {M0 : Mm} (hT : Tp D M0) (x0 : Nat) (hx0 : D x0) (x1 : Int32) (x2 : Int64) (x4 : Int64) (s0 : Int64) (M : Mm) (hF : Fr D M0 M) : FJ D M0 (Mod_parts_J21 x0 x1 x2 x4 s0 M) := by
  unfold Mod_parts_J21
  exact fj_Mod_parts_L33 hT fu _ hx0 _ _ _ _ _ _ _ _ hF
theorem nj_Mod_parts_J21 {M0 : Mm} (x0 : Nat) (x1 : Int32) (x2 : Int64) (x4 : Int64) (s0 : Int64) (M : Mm) (hS : Sm M0 M) : NJ M0 (Mod_parts_J21 x0 x1 x2 x4 s0 M) := by
  unfold Mod_parts_J21
  exact nj_Mod_parts_L33 fu _ _ _ _ _ _ _ _ _ hS
theorem fj_Mod_parts {D : Nat → Prop} {M : Mm} (hC : Cl D M) (hT : Tp D M) (a0 : Nat) (h0 : D a0) (a1 : Int32) (a2 : Int64) (a3 : Int64) : FJ D M (Mod_parts M a0 a1 a2 a3) := by
  unfold Mod_parts
  refine FJ_ck ?_
  refine FJ_nn (Fr.rf hC) h0 (fun b2 hb2 => ?_)
  refine FJ_ck ?_
  refine FJ_if ?_ ?_
  · exact fj_Mod_parts_J21 hT _ h0 _ _ _ _ _ (Fr.rf hC)
  · refine FJ_nn (Fr.rf hC) h0 (fun b21 hb21 => ?_)
    refine FJ_ck ?_
    exact fj_Mod_parts_J21 hT _ h0 _ _ _ _ _ (Fr.rf hC)
theorem nj_Mod_parts (M : Mm) (a0 : Nat) (a1 : Int32) (a2 : Int64) (a3 : Int64) : NJ M (Mod_parts M a0 a1 a2 a3) := by
  unfold Mod_parts
  refine NJ_ck ?_
  refine NJ_nn (fun b2 => ?_)
  refine NJ_ck ?_
  refine NJ_if ?_ ?_
  · exact nj_Mod_parts_J21 _ _ _ _ _ _ Sm.rf
  · refine NJ_nn (fun b21 => ?_)
    refine NJ_ck ?_
    exact nj_Mod_parts_J21 _ _ _ _ _ _ Sm.rf
theorem fj_Mod_bears_B189 {D : Nat → Prop} {M0 : Mm} (hT : Tp D M0) (k189 : Nat → Int64 → Int32 → Mm → Option (Unit × Mm)) (hk189 : ∀ (x0 : Nat) (hx0 : D x0) (x3 : Int64) (x7 : Int32) (M : Mm) (hF : Fr D M0 M), FJ D M0 (k189 x0 x3 x7 M)) (x0 : Nat) (hx0 : D x0) (x3 : Int64) (x7 : Int32) (M : Mm) (hF : Fr D M0 M) : FJ D M0 (Mod_bears_B189 k189 x0 x3 x7 M) := by
  unfold Mod_bears_B189
  refine FJ_ck ?_
  refine FJ_if ?_ ?_
  · exact FJ_leaf (Fr_sL hF hx0)
  · refine FJ_nn hF hx0 (fun b5 hb5 => ?_)
    refine FJ_ck ?_
    refine FJ_nn hF hx0 (fun b7 hb7 => ?_)
    refine FJ_ck ?_
    exact hk189 _ hx0 _ _ _ (Fr_sL hF hb5)
theorem nj_Mod_bears_B189 {M0 : Mm} (k189 : Nat → Int64 → Int32 → Mm → Option (Unit × Mm)) (hk189 : ∀ (x0 : Nat) (x3 : Int64) (x7 : Int32) (M : Mm) (hS : Sm M0 M), NJ M0 (k189 x0 x3 x7 M)) (x0 : Nat) (x3 : Int64) (x7 : Int32) (M : Mm) (hS : Sm M0 M) : NJ M0 (Mod_bears_B189 k189 x0 x3 x7 M) := by
  unfold Mod_bears_B189
  refine NJ_ck ?_
  refine NJ_if ?_ ?_
  · exact NJ_leaf (Sm_sL hS)
  · refine NJ_nn (fun b5 => ?_)
    refine NJ_ck ?_
    refine NJ_nn (fun b7 => ?_)
    refine NJ_ck ?_
    exact hk189 _ _ _ _ (Sm_sL hS)
theorem fj_Mod_bears_L189 {D : Nat → Prop} {M0 : Mm} (hT : Tp D M0) : ∀ (n : Nat) (x0 : Nat) (hx0 : D x0) (x3 : Int64) (x7 : Int32) (M : Mm) (hF : Fr D M0 M), FJ D M0 (Mod_bears_L189 n x0 x3 x7 M) := by
  intro n
  induction n with
  | zero => intros; exact FJ_none
  | succ n ih => intro x0 hx0 x3 x7 M hF; exact fj_Mod_bears_B189 hT _ ih x0 hx0 x3 x7 M hF
theorem nj_Mod_bears_L189 {M0 : Mm} : ∀ (n : Nat) (x0 : Nat) (x3 : Int64) (x7 : Int32) (M : Mm) (hS : Sm M0 M), NJ M0 (Mod_bears_L189 n x0 x3 x7 M) := by
  intro n
  induction n with
  | zero => intros; exact NJ_none
  | succ n ih => intro x0 x3 x7 M hS; exact nj_Mod_bears_B189 _ ih x0 x3 x7 M hS
theorem fj_Mod_bears_J150 {D : Nat → Prop} {M0 : Mm} (hT : Tp D M0) (k106 : Nat → Int64 → Int64 → Mm → Option (Unit × Mm)) (k119 : Nat → Int64 → Int64 → Int32 → Int32 → Mm → Option (Unit × Mm)) (hk106 : ∀ (x0 : Nat) (hx0 : D x0) (x3 : Int64) (x5 : Int64) (M : Mm) (hF : Fr D M0 M), FJ D M0 (k106 x0 x3 x5 M)) (hk119 : ∀ (x0 : Nat) (hx0 : D x0) (x3 : Int64) (x5 : Int64) (x7 : Int32) (x8 : Int32) (M : Mm) (hF : Fr D M0 M), FJ D M0 (k119 x0 x3 x5 x7 x8 M)) (x0 : Nat) (hx0 : D x0) (x3 : Int64) (x5 : Int64) (x7 : Int32) (x8 : Int32) (M : Mm) (hF : Fr D M0 M) : FJ D M0 (Mod_bears_J150 k106 k119 x0 x3 x5 x7 x8 M) := by
  unfold Mod_bears_J150
  exact hk119 _ hx0 _ _ _ _ _ hF
theorem nj_Mod_bears_J150 {M0 : Mm} (k106 : Nat → Int64 → Int64 → Mm → Option (Unit × Mm)) (k119 : Nat → Int64 → Int64 → Int32 → Int32 → Mm → Option (Unit × Mm)) (hk106 : ∀ (x0 : Nat) (x3 : Int64) (x5 : Int64) (M : Mm) (hS : Sm M0 M), NJ M0 (k106 x0 x3 x5 M)) (hk119 : ∀ (x0 : Nat) (x3 : Int64) (x5 : Int64) (x7 : Int32) (x8 : Int32) (M : Mm) (hS : Sm M0 M), NJ M0 (k119 x0 x3 x5 x7 x8 M)) (x0 : Nat) (x3 : Int64) (x5 : Int64) (x7 : Int32) (x8 : Int32) (M : Mm) (hS : Sm M0 M) : NJ M0 (Mod_bears_J150 k106 k119 x0 x3 x5 x7 x8 M) := by
  unfold Mod_bears_J150
  exact hk119 _ _ _ _ _ _ hS
theorem fj_Mod_bears_B119 {D : Nat → Prop} {M0 : Mm} (hT : Tp D M0) (k106 : Nat → Int64 → Int64 → Mm → Option (Unit × Mm)) (k119 : Nat → Int64 → Int64 → Int32 → Int32 → Mm → Option (Unit × Mm)) (hk106 : ∀ (x0 : Nat) (hx0 : D x0) (x3 : Int64) (x5 : Int64) (M : Mm) (hF : Fr D M0 M), FJ D M0 (k106 x0 x3 x5 M)) (hk119 : ∀ (x0 : Nat) (hx0 : D x0) (x3 : Int64) (x5 : Int64) (x7 : Int32) (x8 : Int32) (M : Mm) (hF : Fr D M0 M), FJ D M0 (k119 x0 x3 x5 x7 x8 M)) (x0 : Nat) (hx0 : D x0) (x3 : Int64) (x5 : Int64) (x7 : Int32) (x8 : Int32) (M : Mm) (hF : Fr D M0 M) : FJ D M0 (Mod_bears_B119 k106 k119 x0 x3 x5 x7 x8 M) := by
  unfold Mod_bears_B119
  refine FJ_ck ?_
  refine FJ_if ?_ ?_
  · refine FJ_nn hF hx0 (fun b12 hb12 => ?_)
    refine FJ_ck ?_
    refine FJ_nn (Fr_sL hF hb12) hx0 (fun b15 hb15 => ?_)
    refine FJ_ck ?_
    exact hk106 _ hx0 _ _ _ (Fr_sL (Fr_sL hF hb12) hb15)
  · refine FJ_nn hF hx0 (fun b19 hb19 => ?_)
    refine FJ_ck ?_
    refine FJ_nn hF hx0 (fun b21 hb21 => ?_)
    refine FJ_ck ?_
    refine FJ_if ?_ ?_
    · exact fj_Mod_bears_J150 hT k106 k119 hk106 hk119 _ hx0 _ _ _ _ _ hF
    · exact fj_Mod_bears_J150 hT k106 k119 hk106 hk119 _ hx0 _ _ _ _ _ hF
theorem nj_Mod_bears_B119 {M0 : Mm} (k106 : Nat → Int64 → Int64 → Mm → Option (Unit × Mm)) (k119 : Nat → Int64 → Int64 → Int32 → Int32 → Mm → Option (Unit × Mm)) (hk106 : ∀ (x0 : Nat) (x3 : Int64) (x5 : Int64) (M : Mm) (hS : Sm M0 M), NJ M0 (k106 x0 x3 x5 M)) (hk119 : ∀ (x0 : Nat) (x3 : Int64) (x5 : Int64) (x7 : Int32) (x8 : Int32) (M : Mm) (hS : Sm M0 M), NJ M0 (k119 x0 x3 x5 x7 x8 M)) (x0 : Nat) (x3 : Int64) (x5 : Int64) (x7 : Int32) (x8 : Int32) (M : Mm) (hS : Sm M0 M) : NJ M0 (Mod_bears_B119 k106 k119 x0 x3 x5 x7 x8 M) := by
  unfold Mod_bears_B119
  refine NJ_ck ?_
  refine NJ_if ?_ ?_
  · refine NJ_nn (fun b12 => ?_)
    refine NJ_ck ?_
    refine NJ_nn (fun b15 => ?_)
    refine NJ_ck ?_
    exact hk106 _ _ _ _ (Sm_sL (Sm_sL hS))
  · refine NJ_nn (fun b19 => ?_)
    refine NJ_ck ?_
    refine NJ_nn (fun b21 => ?_)
    refine NJ_ck ?_
    refine NJ_if ?_ ?_
    · exact nj_Mod_bears_J150 k106 k119 hk106 hk119 _ _ _ _ _ _ hS
    · exact nj_Mod_bears_J150 k106 k119 hk106 hk119 _ _ _ _ _ _ hS
theorem fj_Mod_bears_L119 {D : Nat → Prop} {M0 : Mm} (hT : Tp D M0) (k106 : Nat → Int64 → Int64 → Mm → Option (Unit × Mm)) (hk106 : ∀ (x0 : Nat) (hx0 : D x0) (x3 : Int64) (x5 : Int64) (M : Mm) (hF : Fr D M0 M), FJ D M0 (k106 x0 x3 x5 M)) : ∀ (n : Nat) (x0 : Nat) (hx0 : D x0) (x3 : Int64) (x5 : Int64) (x7 : Int32) (x8 : Int32) (M : Mm) (hF : Fr D M0 M), FJ D M0 (Mod_bears_L119 k106 n x0 x3 x5 x7 x8 M) := by
  intro n
  induction n with
  | zero => intros; exact FJ_none
  | succ n ih => intro x0 hx0 x3 x5 x7 x8 M hF; exact fj_Mod_bears_B119 hT k106 _ hk106 ih x0 hx0 x3 x5 x7 x8 M hF
theorem nj_Mod_bears_L119 {M0 : Mm} (k106 : Nat → Int64 → Int64 → Mm → Option (Unit × Mm)) (hk106 : ∀ (x0 : Nat) (x3 : Int64) (x5 : Int64) (M : Mm) (hS : Sm M0 M), NJ M0 (k106 x0 x3 x5 M)) : ∀ (n : Nat) (x0 : Nat) (x3 : Int64) (x5 : Int64) (x7 : Int32) (x8 : Int32) (M : Mm) (hS : Sm M0 M), NJ M0 (Mod_bears_L119 k106 n x0 x3 x5 x7 x8 M) := by
  intro n
  induction n with
  | zero => intros; exact NJ_none
  | succ n ih => intro x0 x3 x5 x7 x8 M hS; exact nj_Mod_bears_B119 k106 _ hk106 ih x0 x3 x5 x7 x8 M hS
theorem fj_Mod_bears_B106 {D : Nat → Prop} {M0 : Mm} (hT : Tp D M0) (k106 : Nat → Int64 → Int64 → Mm → Option (Unit × Mm)) (hk106 : ∀ (x0 : Nat) (hx0 : D x0) (x3 : Int64) (x5 : Int64) (M : Mm) (hF : Fr D M0 M), FJ D M0 (k106 x0 x3 x5 M)) (x0 : Nat) (hx0 : D x0) (x3 : Int64) (x5 : Int64) (M : Mm) (hF : Fr D M0 M) : FJ D M0 (Mod_bears_B106 k106 x0 x3 x5 M) := by
  unfold Mod_bears_B106
  refine FJ_if ?_ ?_
  · exact fj_Mod_bears_L189 hT fu _ hx0 _ _ _ hF
  · exact fj_Mod_bears_L119 hT k106 hk106 fu _ hx0 _ _ _ _ _ hF
theorem nj_Mod_bears_B106 {M0 : Mm} (k106 : Nat → Int64 → Int64 → Mm → Option (Unit × Mm)) (hk106 : ∀ (x0 : Nat) (x3 : Int64) (x5 : Int64) (M : Mm) (hS : Sm M0 M), NJ M0 (k106 x0 x3 x5 M)) (x0 : Nat) (x3 : Int64) (x5 : Int64) (M : Mm) (hS : Sm M0 M) : NJ M0 (Mod_bears_B106 k106 x0 x3 x5 M) := by
  unfold Mod_bears_B106
  refine NJ_if ?_ ?_
  · exact nj_Mod_bears_L189 fu _ _ _ _ hS
  · exact nj_Mod_bears_L119 k106 hk106 fu _ _ _ _ _ _ hS
theorem fj_Mod_bears_L106 {D : Nat → Prop} {M0 : Mm} (hT : Tp D M0) : ∀ (n : Nat) (x0 : Nat) (hx0 : D x0) (x3 : Int64) (x5 : Int64) (M : Mm) (hF : Fr D M0 M), FJ D M0 (Mod_bears_L106 n x0 x3 x5 M) := by
  intro n
  induction n with
  | zero => intros; exact FJ_none
  | succ n ih => intro x0 hx0 x3 x5 M hF; exact fj_Mod_bears_B106 hT _ ih x0 hx0 x3 x5 M hF
theorem nj_Mod_bears_L106 {M0 : Mm} : ∀ (n : Nat) (x0 : Nat) (x3 : Int64) (x5 : Int64) (M : Mm) (hS : Sm M0 M), NJ M0 (Mod_bears_L106 n x0 x3 x5 M) := by
  intro n
  induction n with
  | zero => intros; exact NJ_none
  | succ n ih => intro x0 x3 x5 M hS; exact nj_Mod_bears_B106 _ ih x0 x3 x5 M hS
theorem fj_Mod_bears_B71 {D : Nat → Prop} {M0 : Mm} (hT : Tp D M0) (k71 : Nat → Int64 → Int64 → Int64 → Int32 → Mm → Option (Unit × Mm)) (hk71 : ∀ (x0 : Nat) (hx0 : D x0) (x1 : Int64) (x3 : Int64) (x5 : Int64) (x7 : Int32) (M : Mm) (hF : Fr D M0 M), FJ D M0 (k71 x0 x1 x3 x5 x7 M)) (x0 : Nat) (hx0 : D x0) (x1 : Int64) (x3 : Int64) (x5 : Int64) (x7 : Int32) (M : Mm) (hF : Fr D M0 M) : FJ D M0 (Mod_bears_B71 k71 x0 x1 x3 x5 x7 M) := by
  unfold Mod_bears_B71
  refine FJ_ck ?_
  refine FJ_if ?_ ?_
  · exact fj_Mod_bears_L106 hT fu _ hx0 _ _ _ hF
  · refine FJ_bd hT hF (fun gC gT => fj_Mod_parts gC gT _ hx0 _ _ _) (fun _ M25 hFM25 => ?_)
    refine FJ_ck ?_
    refine FJ_nn hFM25 hx0 (fun b27 hb27 => ?_)
    refine FJ_ck ?_
    exact hk71 _ hx0 _ _ _ _ _ hFM25
theorem nj_Mod_bears_B71 {M0 : Mm} (k71 : Nat → Int64 → Int64 → Int64 → Int32 → Mm → Option (Unit × Mm)) (hk71 : ∀ (x0 : Nat) (x1 : Int64) (x3 : Int64) (x5 : Int64) (x7 : Int32) (M : Mm) (hS : Sm M0 M), NJ M0 (k71 x0 x1 x3 x5 x7 M)) (x0 : Nat) (x1 : Int64) (x3 : Int64) (x5 : Int64) (x7 : Int32) (M : Mm) (hS : Sm M0 M) : NJ M0 (Mod_bears_B71 k71 x0 x1 x3 x5 x7 M) := by
  unfold Mod_bears_B71
  refine NJ_ck ?_
  refine NJ_if ?_ ?_
  · exact nj_Mod_bears_L106 fu _ _ _ _ hS
  · refine NJ_bd hS (nj_Mod_parts _ _ _ _ _) (fun _ M25 hSM25 => ?_)
    refine NJ_ck ?_
    refine NJ_nn (fun b27 => ?_)
    refine NJ_ck ?_
    exact hk71 _ _ _ _ _ _ hSM25
theorem fj_Mod_bears_L71 {D : Nat → Prop} {M0 : Mm} (hT : Tp D M0) : ∀ (n : Nat) (x0 : Nat) (hx0 : D x0) (x1 : Int64) (x3 : Int64) (x5 : Int64) (x7 : Int32) (M : Mm) (hF : Fr D M0 M), FJ D M0 (Mod_bears_L71 n x0 x1 x3 x5 x7 M) := by
  intro n
  induction n with
  | zero => intros; exact FJ_none
  | succ n ih => intro x0 hx0 x1 x3 x5 x7 M hF; exact fj_Mod_bears_B71 hT _ ih x0 hx0 x1 x3 x5 x7 M hF
theorem nj_Mod_bears_L71 {M0 : Mm} : ∀ (n : Nat) (x0 : Nat) (x1 : Int64) (x3 : Int64) (x5 : Int64) (x7 : Int32) (M : Mm) (hS : Sm M0 M), NJ M0 (Mod_bears_L71 n x0 x1 x3 x5 x7 M) := by
  intro n
  induction n with
  | zero => intros; exact NJ_none
  | succ n ih => intro x0 x1 x3 x5 x7 M hS; exact nj_Mod_bears_B71 _ ih x0 x1 x3 x5 x7 M hS
theorem fj_Mod_bears_J57 {D : Nat → Prop} {M0 : Mm} (hT : Tp D M0) (x0 : Nat) (hx0 : D x0) (x1 : Int64) (s0 : Int64) (M : Mm) (hF : Fr D M0 M) : FJ D M0 (Mod_bears_J57 x0 x1 s0 M) := by
  unfold Mod_bears_J57
  refine FJ_if ?_ ?_
  · exact FJ_leaf hF
  · exact fj_Mod_bears_L71 hT fu _ hx0 _ _ _ _ _ hF
theorem nj_Mod_bears_J57 {M0 : Mm} (x0 : Nat) (x1 : Int64) (s0 : Int64) (M : Mm) (hS : Sm M0 M) : NJ M0 (Mod_bears_J57 x0 x1 s0 M) := by
  unfold Mod_bears_J57
  refine NJ_if ?_ ?_
  · exact NJ_leaf hS
  · exact nj_Mod_bears_L71 fu _ _ _ _ _ _ hS
theorem fj_Mod_bears_J32 {D : Nat → Prop} {M0 : Mm} (hT : Tp D M0) (k4 : Nat → Int64 → Int32 → Mm → Option (Unit × Mm)) (hk4 : ∀ (x0 : Nat) (hx0 : D x0) (x1 : Int64) (x3 : Int32) (M : Mm) (hF : Fr D M0 M), FJ D M0 (k4 x0 x1 x3 M)) (x0 : Nat) (hx0 : D x0) (x1 : Int64) (x3 : Int32) (M : Mm) (hF : Fr D M0 M) : FJ D M0 (Mod_bears_J32 k4 x0 x1 x3 M) := by
  unfold Mod_bears_J32
  exact hk4 _ hx0 _ _ _ hF
theorem nj_Mod_bears_J32 {M0 : Mm} (k4 : Nat → Int64 → Int32 → Mm → Option (Unit × Mm)) (hk4 : ∀ (x0 : Nat) (x1 : Int64) (x3 : Int32) (M : Mm) (hS : Sm M0 M), NJ M0 (k4 x0 x1 x3 M)) (x0 : Nat) (x1 : Int64) (x3 : Int32) (M : Mm) (hS : Sm M0 M) : NJ M0 (Mod_bears_J32 k4 x0 x1 x3 M) := by
  unfold Mod_bears_J32
  exact hk4 _ _ _ _ hS
theorem fj_Mod_bears_B4 {D : Nat → Prop} {M0 : Mm} (hT : Tp D M0) (k4 : Nat → Int64 → Int32 → Mm → Option (Unit × Mm)) (hk4 : ∀ (x0 : Nat) (hx0 : D x0) (x1 : Int64) (x3 : Int32) (M : Mm) (hF : Fr D M0 M), FJ D M0 (k4 x0 x1 x3 M)) (x0 : Nat) (hx0 : D x0) (x1 : Int64) (x3 : Int32) (M : Mm) (hF : Fr D M0 M) : FJ D M0 (Mod_bears_B4 k4 x0 x1 x3 M) := by
  unfold Mod_bears_B4
  refine FJ_ck ?_
  refine FJ_if ?_ ?_
  · refine FJ_if ?_ ?_
    · exact fj_Mod_bears_J57 hT _ hx0 _ _ _ hF
    · exact fj_Mod_bears_J57 hT _ hx0 _ _ _ hF
  · refine FJ_nn hF hx0 (fun b31 hb31 => ?_)
    refine FJ_ck ?_
    refine FJ_if ?_ ?_
    · exact fj_Mod_bears_J32 hT k4 hk4 _ hx0 _ _ _ hF
    · refine FJ_nn hF hx0 (fun b34 hb34 => ?_)
      refine FJ_ck ?_
      exact fj_Mod_bears_J32 hT k4 hk4 _ hx0 _ _ _ hF
theorem nj_Mod_bears_B4 {M0 : Mm} (k4 : Nat → Int64 → Int32 → Mm → Option (Unit × Mm)) (hk4 : ∀ (x0 : Nat) (x1 : Int64) (x3 : Int32) (M : Mm) (hS : Sm M0 M), NJ M0 (k4 x0 x1 x3 M)) (x0 : Nat) (x1 : Int64) (x3 : Int32) (M : Mm) (hS : Sm M0 M) : NJ M0 (Mod_bears_B4 k4 x0 x1 x3 M) := by
  unfold Mod_bears_B4
  refine NJ_ck ?_
  refine NJ_if ?_ ?_
  · refine NJ_if ?_ ?_
    · exact nj_Mod_bears_J57 _ _ _ _ hS
    · exact nj_Mod_bears_J57 _ _ _ _ hS
  · refine NJ_nn (fun b31 => ?_)
    refine NJ_ck ?_
    refine NJ_if ?_ ?_
    · exact nj_Mod_bears_J32 k4 hk4 _ _ _ _ hS
    · refine NJ_nn (fun b34 => ?_)
      refine NJ_ck ?_
      exact nj_Mod_bears_J32 k4 hk4 _ _ _ _ hS
theorem fj_Mod_bears_L4 {D : Nat → Prop} {M0 : Mm} (hT : Tp D M0) : ∀ (n : Nat) (x0 : Nat) (hx0 : D x0) (x1 : Int64) (x3 : Int32) (M : Mm) (hF : Fr D M0 M), FJ D M0 (Mod_bears_L4 n x0 x1 x3 M) := by
  intro n
  induction n with
  | zero => intros; exact FJ_none
  | succ n ih => intro x0 hx0 x1 x3 M hF; exact fj_Mod_bears_B4 hT _ ih x0 hx0 x1 x3 M hF
theorem nj_Mod_bears_L4 {M0 : Mm} : ∀ (n : Nat) (x0 : Nat) (x1 : Int64) (x3 : Int32) (M : Mm) (hS : Sm M0 M), NJ M0 (Mod_bears_L4 n x0 x1 x3 M) := by
  intro n
  induction n with
  | zero => intros; exact NJ_none
  | succ n ih => intro x0 x1 x3 M hS; exact nj_Mod_bears_B4 _ ih x0 x1 x3 M hS
theorem fj_Mod_bears {D : Nat → Prop} {M : Mm} (hC : Cl D M) (hT : Tp D M) (a0 : Nat) (h0 : D a0) : FJ D M (Mod_bears M a0) := by
  unfold Mod_bears
  exact fj_Mod_bears_L4 hT fu _ h0 _ _ _ (Fr.rf hC)
theorem nj_Mod_bears (M : Mm) (a0 : Nat) : NJ M (Mod_bears M a0) := by
  unfold Mod_bears
  exact nj_Mod_bears_L4 fu _ _ _ _ Sm.rf
theorem fj_Mod_clears_B253 {D : Nat → Prop} {M0 : Mm} (hT : Tp D M0) (k253 : Nat → Int32 → Mm → Option (Unit × Mm)) (hk253 : ∀ (x0 : Nat) (hx0 : D x0) (x5 : Int32) (M : Mm) (hF : Fr D M0 M), FJ D M0 (k253 x0 x5 M)) (x0 : Nat) (hx0 : D x0) (x5 : Int32) (M : Mm) (hF : Fr D M0 M) : FJ D M0 (Mod_clears_B253 k253 x0 x5 M) := by
  unfold Mod_clears_B253
  refine FJ_ck ?_
  refine FJ_if ?_ ?_
  · exact FJ_leaf (Fr_sI hF hx0)
  · refine FJ_nn hF hx0 (fun b15 hb15 => ?_)
    refine FJ_ck ?_
    refine FJ_nn (Fr_sI hF hb15) hx0 (fun b18 hb18 => ?_)
    refine FJ_ck ?_
    exact hk253 _ hx0 _ _ (Fr_sI (Fr_sI hF hb15) hb18)
theorem nj_Mod_clears_B253 {M0 : Mm} (k253 : Nat → Int32 → Mm → Option (Unit × Mm)) (hk253 : ∀ (x0 : Nat) (x5 : Int32) (M : Mm) (hS : Sm M0 M), NJ M0 (k253 x0 x5 M)) (x0 : Nat) (x5 : Int32) (M : Mm) (hS : Sm M0 M) : NJ M0 (Mod_clears_B253 k253 x0 x5 M) := by
  unfold Mod_clears_B253
  refine NJ_ck ?_
  refine NJ_if ?_ ?_
  · exact NJ_leaf (Sm_sI hS)
  · refine NJ_nn (fun b15 => ?_)
    refine NJ_ck ?_
    refine NJ_nn (fun b18 => ?_)
    refine NJ_ck ?_
    exact hk253 _ _ _ (Sm_sI (Sm_sI hS))
theorem fj_Mod_clears_L253 {D : Nat → Prop} {M0 : Mm} (hT : Tp D M0) : ∀ (n : Nat) (x0 : Nat) (hx0 : D x0) (x5 : Int32) (M : Mm) (hF : Fr D M0 M), FJ D M0 (Mod_clears_L253 n x0 x5 M) := by
  intro n
  induction n with
  | zero => intros; exact FJ_none
  | succ n ih => intro x0 hx0 x5 M hF; exact fj_Mod_clears_B253 hT _ ih x0 hx0 x5 M hF
theorem nj_Mod_clears_L253 {M0 : Mm} : ∀ (n : Nat) (x0 : Nat) (x5 : Int32) (M : Mm) (hS : Sm M0 M), NJ M0 (Mod_clears_L253 n x0 x5 M) := by
  intro n
  induction n with
  | zero => intros; exact NJ_none
  | succ n ih => intro x0 x5 M hS; exact nj_Mod_clears_B253 _ ih x0 x5 M hS
theorem fj_Mod_clears_J235 {D : Nat → Prop} {M0 : Mm} (hT : Tp D M0) (x0 : Nat) (hx0 : D x0) (M : Mm) (hF : Fr D M0 M) : FJ D M0 (Mod_clears_J235 x0 M) := by
  unfold Mod_clears_J235
  refine FJ_ck ?_
  refine FJ_bd hT hF (fun gC gT => fj_Mod_asked gC gT _ hx0 _) (fun r10 M11 hFM11 => ?_)
  refine FJ_ck ?_
  refine FJ_if ?_ ?_
  · exact fj_Mod_clears_L253 hT fu _ hx0 _ _ hFM11
  · exact FJ_leaf hFM11
theorem nj_Mod_clears_J235 {M0 : Mm} (x0 : Nat) (M : Mm) (hS : Sm M0 M) : NJ M0 (Mod_clears_J235 x0 M) := by
  unfold Mod_clears_J235
  refine NJ_ck ?_
  refine NJ_bd hS (nj_Mod_asked _ _ _) (fun r10 M11 hSM11 => ?_)
  refine NJ_ck ?_
  refine NJ_if ?_ ?_
  · exact nj_Mod_clears_L253 fu _ _ _ hSM11
  · exact NJ_leaf hSM11
theorem fj_Mod_clears_B199 {D : Nat → Prop} {M0 : Mm} (hT : Tp D M0) (k199 : Nat → Int32 → Int32 → Mm → Option (Unit × Mm)) (hk199 : ∀ (x0 : Nat) (hx0 : D x0) (x4 : Int32) (x5 : Int32) (M : Mm) (hF : Fr D M0 M), FJ D M0 (k199 x0 x4 x5 M)) (x0 : Nat) (hx0 : D x0) (x4 : Int32) (x5 : Int32) (M : Mm) (hF : Fr D M0 M) : FJ D M0 (Mod_clears_B199 k199 x0 x4 x5 M) := by
  unfold Mod_clears_B199
  refine FJ_ck ?_
  refine FJ_if ?_ ?_
  · refine FJ_if ?_ ?_
    · exact fj_Mod_clears_J235 hT _ hx0 _ hF
    · refine FJ_bd hT hF (fun gC gT => fj_Mod_bears gC gT _ hx0) (fun _ M23 hFM23 => ?_)
      exact fj_Mod_clears_J235 hT _ hx0 _ hFM23
  · refine FJ_bd hT hF (fun gC gT => fj_Mod_margin gC gT _ hx0 _ _) (fun _ M25 hFM25 => ?_)
    exact hk199 _ hx0 _ _ _ hFM25
theorem nj_Mod_clears_B199 {M0 : Mm} (k199 : Nat → Int32 → Int32 → Mm → Option (Unit × Mm)) (hk199 : ∀ (x0 : Nat) (x4 : Int32) (x5 : Int32) (M : Mm) (hS : Sm M0 M), NJ M0 (k199 x0 x4 x5 M)) (x0 : Nat) (x4 : Int32) (x5 : Int32) (M : Mm) (hS : Sm M0 M) : NJ M0 (Mod_clears_B199 k199 x0 x4 x5 M) := by
  unfold Mod_clears_B199
  refine NJ_ck ?_
  refine NJ_if ?_ ?_
  · refine NJ_if ?_ ?_
    · exact nj_Mod_clears_J235 _ _ hS
    · refine NJ_bd hS (nj_Mod_bears _ _) (fun _ M23 hSM23 => ?_)
      exact nj_Mod_clears_J235 _ _ hSM23
  · refine NJ_bd hS (nj_Mod_margin _ _ _ _) (fun _ M25 hSM25 => ?_)
    exact hk199 _ _ _ _ hSM25
theorem fj_Mod_clears_L199 {D : Nat → Prop} {M0 : Mm} (hT : Tp D M0) : ∀ (n : Nat) (x0 : Nat) (hx0 : D x0) (x4 : Int32) (x5 : Int32) (M : Mm) (hF : Fr D M0 M), FJ D M0 (Mod_clears_L199 n x0 x4 x5 M) := by
  intro n
  induction n with
  | zero => intros; exact FJ_none
  | succ n ih => intro x0 hx0 x4 x5 M hF; exact fj_Mod_clears_B199 hT _ ih x0 hx0 x4 x5 M hF
theorem nj_Mod_clears_L199 {M0 : Mm} : ∀ (n : Nat) (x0 : Nat) (x4 : Int32) (x5 : Int32) (M : Mm) (hS : Sm M0 M), NJ M0 (Mod_clears_L199 n x0 x4 x5 M) := by
  intro n
  induction n with
  | zero => intros; exact NJ_none
  | succ n ih => intro x0 x4 x5 M hS; exact nj_Mod_clears_B199 _ ih x0 x4 x5 M hS
theorem fj_Mod_clears_B63 {D : Nat → Prop} {M0 : Mm} (hT : Tp D M0) (k63 : Nat → Int32 → Int32 → Int32 → Mm → Option (Unit × Mm)) (hk63 : ∀ (x0 : Nat) (hx0 : D x0) (x1 : Int32) (x3 : Int32) (x4 : Int32) (M : Mm) (hF : Fr D M0 M), FJ D M0 (k63 x0 x1 x3 x4 M)) (x0 : Nat) (hx0 : D x0) (x1 : Int32) (x3 : Int32) (x4 : Int32) (M : Mm) (hF : Fr D M0 M) : FJ D M0 (Mod_clears_B63 k63 x0 x1 x3 x4 M) := by
  unfold Mod_clears_B63
  refine FJ_ck ?_
  refine FJ_nn hF hx0 (fun b4 hb4 => ?_)
  refine FJ_ck ?_
  refine FJ_if ?_ ?_
  · refine FJ_bd hT hF (fun gC gT => fj_Mod_asked gC gT _ hx0 _) (fun r6 M7 hFM7 => ?_)
    exact fj_Mod_clears_L199 hT fu _ hx0 _ _ _ hFM7
  · refine FJ_nn hF hx0 (fun b28 hb28 => ?_)
    refine FJ_ck ?_
    refine FJ_nn hF hx0 (fun b30 hb30 => ?_)
    refine FJ_ck ?_
    refine FJ_nn hF hx0 (fun b33 hb33 => ?_)
    refine FJ_nn hF hx0 (fun b34 hb34 => ?_)
    refine FJ_ck ?_
    refine FJ_ck ?_
    refine FJ_nn hF hx0 (fun b37 hb37 => ?_)
    refine FJ_ck ?_
    refine FJ_nn (Fr_sI hF hb33) hx0 (fun b40 hb40 => ?_)
    refine FJ_nn (Fr_sI hF hb33) hx0 (fun b41 hb41 => ?_)
    refine FJ_ck ?_
    refine FJ_ck ?_
    refine FJ_nn (Fr_sL (Fr_sI hF hb33) hb40) hx0 (fun b45 hb45 => ?_)
    refine FJ_nn (Fr_sL (Fr_sI hF hb33) hb40) hx0 (fun b46 hb46 => ?_)
    refine FJ_ck ?_
    refine FJ_ck ?_
    refine FJ_nn (Fr_sL (Fr_sI hF hb33) hb40) hx0 (fun b49 hb49 => ?_)
    refine FJ_ck ?_
    refine FJ_nn (Fr_sI (Fr_sL (Fr_sI hF hb33) hb40) hb45) hx0 (fun b52 hb52 => ?_)
    refine FJ_nn (Fr_sI (Fr_sL (Fr_sI hF hb33) hb40) hb45) hx0 (fun b53 hb53 => ?_)
    refine FJ_ck ?_
    refine FJ_ck ?_
    exact hk63 _ hx0 _ _ _ _ (Fr_sL (Fr_sI (Fr_sL (Fr_sI hF hb33) hb40) hb45) hb52)
theorem nj_Mod_clears_B63 {M0 : Mm} (k63 : Nat → Int32 → Int32 → Int32 → Mm → Option (Unit × Mm)) (hk63 : ∀ (x0 : Nat) (x1 : Int32) (x3 : Int32) (x4 : Int32) (M : Mm) (hS : Sm M0 M), NJ M0 (k63 x0 x1 x3 x4 M)) (x0 : Nat) (x1 : Int32) (x3 : Int32) (x4 : Int32) (M : Mm) (hS : Sm M0 M) : NJ M0 (Mod_clears_B63 k63 x0 x1 x3 x4 M) := by
  unfold Mod_clears_B63
  refine NJ_ck ?_
  refine NJ_nn (fun b4 => ?_)
  refine NJ_ck ?_
  refine NJ_if ?_ ?_
  · refine NJ_bd hS (nj_Mod_asked _ _ _) (fun r6 M7 hSM7 => ?_)
    exact nj_Mod_clears_L199 fu _ _ _ _ hSM7
  · refine NJ_nn (fun b28 => ?_)
    refine NJ_ck ?_
    refine NJ_nn (fun b30 => ?_)
    refine NJ_ck ?_
    refine NJ_nn (fun b33 => ?_)
    refine NJ_nn (fun b34 => ?_)
    refine NJ_ck ?_
    refine NJ_ck ?_
    refine NJ_nn (fun b37 => ?_)
    refine NJ_ck ?_
    refine NJ_nn (fun b40 => ?_)
    refine NJ_nn (fun b41 => ?_)
    refine NJ_ck ?_
    refine NJ_ck ?_
    refine NJ_nn (fun b45 => ?_)
    refine NJ_nn (fun b46 => ?_)
    refine NJ_ck ?_
    refine NJ_ck ?_
    refine NJ_nn (fun b49 => ?_)
    refine NJ_ck ?_
    refine NJ_nn (fun b52 => ?_)
    refine NJ_nn (fun b53 => ?_)
    refine NJ_ck ?_
    refine NJ_ck ?_
    exact hk63 _ _ _ _ _ (Sm_sL (Sm_sI (Sm_sL (Sm_sI hS))))
theorem fj_Mod_clears_L63 {D : Nat → Prop} {M0 : Mm} (hT : Tp D M0) : ∀ (n : Nat) (x0 : Nat) (hx0 : D x0) (x1 : Int32) (x3 : Int32) (x4 : Int32) (M : Mm) (hF : Fr D M0 M), FJ D M0 (Mod_clears_L63 n x0 x1 x3 x4 M) := by
  intro n
  induction n with
  | zero => intros; exact FJ_none
  | succ n ih => intro x0 hx0 x1 x3 x4 M hF; exact fj_Mod_clears_B63 hT _ ih x0 hx0 x1 x3 x4 M hF
theorem nj_Mod_clears_L63 {M0 : Mm} : ∀ (n : Nat) (x0 : Nat) (x1 : Int32) (x3 : Int32) (x4 : Int32) (M : Mm) (hS : Sm M0 M), NJ M0 (Mod_clears_L63 n x0 x1 x3 x4 M) := by
  intro n
  induction n with
  | zero => intros; exact NJ_none
  | succ n ih => intro x0 x1 x3 x4 M hS; exact nj_Mod_clears_B63 _ ih x0 x1 x3 x4 M hS
theorem fj_Mod_clears_B3 {D : Nat → Prop} {M0 : Mm} (hT : Tp D M0) (k3 : Nat → Int32 → Int32 → Int32 → Int32 → Mm → Option (Unit × Mm)) (hk3 : ∀ (x0 : Nat) (hx0 : D x0) (x1 : Int32) (x2 : Int32) (x3 : Int32) (x4 : Int32) (M : Mm) (hF : Fr D M0 M), FJ D M0 (k3 x0 x1 x2 x3 x4 M)) (x0 : Nat) (hx0 : D x0) (x1 : Int32) (x2 : Int32) (x3 : Int32) (x4 : Int32) (M : Mm) (hF : Fr D M0 M) : FJ D M0 (Mod_clears_B3 k3 x0 x1 x2 x3 x4 M) := by
  unfold Mod_clears_B3
  refine FJ_ck ?_
  refine FJ_if ?_ ?_
  · exact fj_Mod_clears_L63 hT fu _ hx0 _ _ _ _ (Fr_sL hF hx0)
  · refine FJ_nn hF hx0 (fun b58 hb58 => ?_)
    refine FJ_ck ?_
    refine FJ_nn hF hx0 (fun b60 hb60 => ?_)
    refine FJ_ck ?_
    exact hk3 _ hx0 _ _ _ _ _ (Fr_sL hF hb58)
theorem nj_Mod_clears_B3 {M0 : Mm} (k3 : Nat → Int32 → Int32 → Int32 → Int32 → Mm → Option (Unit × Mm)) (hk3 : ∀ (x0 : Nat) (x1 : Int32) (x2 : Int32) (x3 : Int32) (x4 : Int32) (M : Mm) (hS : Sm M0 M), NJ M0 (k3 x0 x1 x2 x3 x4 M)) (x0 : Nat) (x1 : Int32) (x2 : Int32) (x3 : Int32) (x4 : Int32) (M : Mm) (hS : Sm M0 M) : NJ M0 (Mod_clears_B3 k3 x0 x1 x2 x3 x4 M) := by
  unfold Mod_clears_B3
  refine NJ_ck ?_
  refine NJ_if ?_ ?_
  · exact nj_Mod_clears_L63 fu _ _ _ _ _ (Sm_sL hS)
  · refine NJ_nn (fun b58 => ?_)
    refine NJ_ck ?_
    refine NJ_nn (fun b60 => ?_)
    refine NJ_ck ?_
    exact hk3 _ _ _ _ _ _ (Sm_sL hS)
theorem fj_Mod_clears_L3 {D : Nat → Prop} {M0 : Mm} (hT : Tp D M0) : ∀ (n : Nat) (x0 : Nat) (hx0 : D x0) (x1 : Int32) (x2 : Int32) (x3 : Int32) (x4 : Int32) (M : Mm) (hF : Fr D M0 M), FJ D M0 (Mod_clears_L3 n x0 x1 x2 x3 x4 M) := by
  intro n
  induction n with
  | zero => intros; exact FJ_none
  | succ n ih => intro x0 hx0 x1 x2 x3 x4 M hF; exact fj_Mod_clears_B3 hT _ ih x0 hx0 x1 x2 x3 x4 M hF
theorem nj_Mod_clears_L3 {M0 : Mm} : ∀ (n : Nat) (x0 : Nat) (x1 : Int32) (x2 : Int32) (x3 : Int32) (x4 : Int32) (M : Mm) (hS : Sm M0 M), NJ M0 (Mod_clears_L3 n x0 x1 x2 x3 x4 M) := by
  intro n
  induction n with
  | zero => intros; exact NJ_none
  | succ n ih => intro x0 x1 x2 x3 x4 M hS; exact nj_Mod_clears_B3 _ ih x0 x1 x2 x3 x4 M hS
theorem fj_Mod_clears {D : Nat → Prop} {M : Mm} (hC : Cl D M) (hT : Tp D M) (a0 : Nat) (h0 : D a0) (a1 : Int32) (a2 : Int32) (a3 : Int32) : FJ D M (Mod_clears M a0 a1 a2 a3) := by
  unfold Mod_clears
  exact fj_Mod_clears_L3 hT fu _ h0 _ _ _ _ _ (Fr.rf hC)
theorem nj_Mod_clears (M : Mm) (a0 : Nat) (a1 : Int32) (a2 : Int32) (a3 : Int32) : NJ M (Mod_clears M a0 a1 a2 a3) := by
  unfold Mod_clears
  exact nj_Mod_clears_L3 fu _ _ _ _ _ _ Sm.rf
theorem fj_Mod_closesSession_J203 {D : Nat → Prop} {M0 : Mm} (hT : Tp D M0) (k160 : Nat → Int32 → Int32 → Int32 → Int32 → Mm → Option (Unit × Mm)) (hk160 : ∀ (x0 : Nat) (hx0 : D x0) (x1 : Int32) (x3 : Int32) (x4 : Int32) (x5 : Int32) (M : Mm) (hF : Fr D M0 M), FJ D M0 (k160 x0 x1 x3 x4 x5 M)) (x0 : Nat) (hx0 : D x0) (x1 : Int32) (x3 : Int32) (x4 : Int32) (x5 : Int32) (M : Mm) (hF : Fr D M0 M) : FJ D M0 (Mod_closesSession_J203 k160 x0 x1 x3 x4 x5 M) := by
  unfold Mod_closesSession_J203
  exact hk160 _ hx0 _ _ _ _ _ hF
theorem nj_Mod_closesSession_J203 {M0 : Mm} (k160 : Nat → Int32 → Int32 → Int32 → Int32 → Mm → Option (Unit × Mm)) (hk160 : ∀ (x0 : Nat) (x1 : Int32) (x3 : Int32) (x4 : Int32) (x5 : Int32) (M : Mm) (hS : Sm M0 M), NJ M0 (k160 x0 x1 x3 x4 x5 M)) (x0 : Nat) (x1 : Int32) (x3 : Int32) (x4 : Int32) (x5 : Int32) (M : Mm) (hS : Sm M0 M) : NJ M0 (Mod_closesSession_J203 k160 x0 x1 x3 x4 x5 M) := by
  unfold Mod_closesSession_J203
  exact hk160 _ _ _ _ _ _ hS
theorem fj_Mod_closesSession_B160 {D : Nat → Prop} {M0 : Mm} (hT : Tp D M0) (k160 : Nat → Int32 → Int32 → Int32 → Int32 → Mm → Option (Unit × Mm)) (hk160 : ∀ (x0 : Nat) (hx0 : D x0) (x1 : Int32) (x3 : Int32) (x4 : Int32) (x5 : Int32) (M : Mm) (hF : Fr D M0 M), FJ D M0 (k160 x0 x1 x3 x4 x5 M)) (x0 : Nat) (hx0 : D x0) (x1 : Int32) (x3 : Int32) (x4 : Int32) (x5 : Int32) (M : Mm) (hF : Fr D M0 M) : FJ D M0 (Mod_closesSession_B160 k160 x0 x1 x3 x4 x5 M) := by
  unfold Mod_closesSession_B160
  refine FJ_ck ?_
  refine FJ_nn hF hx0 (fun b36 hb36 => ?_)
  refine FJ_ck ?_
  refine FJ_if ?_ ?_
  · refine FJ_bd hT hF (fun gC gT => fj_Mod_clears gC gT _ hx0 _ _ _) (fun _ M39 hFM39 => ?_)
    exact FJ_leaf hFM39
  · refine FJ_bd hT hF (fun gC gT => fj_Mod_judges gC gT _ hx0 _ _) (fun _ M41 hFM41 => ?_)
    refine FJ_ck ?_
    refine FJ_nn hFM41 hx0 (fun b43 hb43 => ?_)
    refine FJ_ck ?_
    refine FJ_if ?_ ?_
    · exact fj_Mod_closesSession_J203 hT k160 hk160 _ hx0 _ _ _ _ _ hFM41
    · refine FJ_nn hFM41 hx0 (fun b46 hb46 => ?_)
      refine FJ_ck ?_
      exact fj_Mod_closesSession_J203 hT k160 hk160 _ hx0 _ _ _ _ _ (Fr_sI hFM41 hb46)
theorem nj_Mod_closesSession_B160 {M0 : Mm} (k160 : Nat → Int32 → Int32 → Int32 → Int32 → Mm → Option (Unit × Mm)) (hk160 : ∀ (x0 : Nat) (x1 : Int32) (x3 : Int32) (x4 : Int32) (x5 : Int32) (M : Mm) (hS : Sm M0 M), NJ M0 (k160 x0 x1 x3 x4 x5 M)) (x0 : Nat) (x1 : Int32) (x3 : Int32) (x4 : Int32) (x5 : Int32) (M : Mm) (hS : Sm M0 M) : NJ M0 (Mod_closesSession_B160 k160 x0 x1 x3 x4 x5 M) := by
  unfold Mod_closesSession_B160
  refine NJ_ck ?_
  refine NJ_nn (fun b36 => ?_)
  refine NJ_ck ?_
  refine NJ_if ?_ ?_
  · refine NJ_bd hS (nj_Mod_clears _ _ _ _ _) (fun _ M39 hSM39 => ?_)
    exact NJ_leaf hSM39
  · refine NJ_bd hS (nj_Mod_judges _ _ _ _) (fun _ M41 hSM41 => ?_)
    refine NJ_ck ?_
    refine NJ_nn (fun b43 => ?_)
    refine NJ_ck ?_
    refine NJ_if ?_ ?_
    · exact nj_Mod_closesSession_J203 k160 hk160 _ _ _ _ _ _ hSM41
    · refine NJ_nn (fun b46 => ?_)
      refine NJ_ck ?_
      exact nj_Mod_closesSession_J203 k160 hk160 _ _ _ _ _ _ (Sm_sI hSM41)
theorem fj_Mod_closesSession_L160 {D : Nat → Prop} {M0 : Mm} (hT : Tp D M0) : ∀ (n : Nat) (x0 : Nat) (hx0 : D x0) (x1 : Int32) (x3 : Int32) (x4 : Int32) (x5 : Int32) (M : Mm) (hF : Fr D M0 M), FJ D M0 (Mod_closesSession_L160 n x0 x1 x3 x4 x5 M) := by
  intro n
  induction n with
  | zero => intros; exact FJ_none
  | succ n ih => intro x0 hx0 x1 x3 x4 x5 M hF; exact fj_Mod_closesSession_B160 hT _ ih x0 hx0 x1 x3 x4 x5 M hF
theorem nj_Mod_closesSession_L160 {M0 : Mm} : ∀ (n : Nat) (x0 : Nat) (x1 : Int32) (x3 : Int32) (x4 : Int32) (x5 : Int32) (M : Mm) (hS : Sm M0 M), NJ M0 (Mod_closesSession_L160 n x0 x1 x3 x4 x5 M) := by
  intro n
  induction n with
  | zero => intros; exact NJ_none
  | succ n ih => intro x0 x1 x3 x4 x5 M hS; exact nj_Mod_closesSession_B160 _ ih x0 x1 x3 x4 x5 M hS
theorem fj_Mod_closesSession_J119 {D : Nat → Prop} {M0 : Mm} (hT : Tp D M0) (x0 : Nat) (hx0 : D x0) (x1 : Int32) (x2 : Int32) (s0 : Int32) (M : Mm) (hF : Fr D M0 M) : FJ D M0 (Mod_closesSession_J119 x0 x1 x2 s0 M) := by
  unfold Mod_closesSession_J119
  refine FJ_ck ?_
  refine FJ_nn hF hx0 (fun b25 hb25 => ?_)
  refine FJ_ck ?_
  refine FJ_nn hF hx0 (fun b28 hb28 => ?_)
  refine FJ_ck ?_
  refine FJ_nn (Fr_sI hF hb28) hx0 (fun b31 hb31 => ?_)
  refine FJ_ck ?_
  exact fj_Mod_closesSession_L160 hT fu _ hx0 _ _ _ _ _ (Fr_sI (Fr_sI (Fr_sI hF hb28) hb31) hx0)
theorem nj_Mod_closesSession_J119 {M0 : Mm} (x0 : Nat) (x1 : Int32) (x2 : Int32) (s0 : Int32) (M : Mm) (hS : Sm M0 M) : NJ M0 (Mod_closesSession_J119 x0 x1 x2 s0 M) := by
  unfold Mod_closesSession_J119
  refine NJ_ck ?_
  refine NJ_nn (fun b25 => ?_)
  refine NJ_ck ?_
  refine NJ_nn (fun b28 => ?_)
  refine NJ_ck ?_
  refine NJ_nn (fun b31 => ?_)
  refine NJ_ck ?_
  exact nj_Mod_closesSession_L160 fu _ _ _ _ _ _ (Sm_sI (Sm_sI (Sm_sI hS)))
theorem fj_Mod_closesSession_B34 {D : Nat → Prop} {M0 : Mm} (hT : Tp D M0) (k34 : Nat → Int32 → Int32 → Mm → Option (Unit × Mm)) (hk34 : ∀ (x0 : Nat) (hx0 : D x0) (x1 : Int32) (x2 : Int32) (M : Mm) (hF : Fr D M0 M), FJ D M0 (k34 x0 x1 x2 M)) (x0 : Nat) (hx0 : D x0) (x1 : Int32) (x2 : Int32) (M : Mm) (hF : Fr D M0 M) : FJ D M0 (Mod_closesSession_B34 k34 x0 x1 x2 M) := by
  unfold Mod_closesSession_B34
  refine FJ_if ?_ ?_
  · refine FJ_ck ?_
    refine FJ_nn hF hx0 (fun b13 hb13 => ?_)
    refine FJ_ck ?_
    refine FJ_nn hF hx0 (fun b16 hb16 => ?_)
    refine FJ_ck ?_
    refine FJ_if ?_ ?_
    · exact FJ_leaf hF
    · refine FJ_nn hF hx0 (fun b18 hb18 => ?_)
      refine FJ_ck ?_
      refine FJ_nn hF hx0 (fun b20 hb20 => ?_)
      refine FJ_ck ?_
      refine FJ_if ?_ ?_
      · refine FJ_if ?_ ?_
        · exact fj_Mod_closesSession_J119 hT _ hx0 _ _ _ _ hF
        · refine FJ_nn hF hx0 (fun b22 hb22 => ?_)
          refine FJ_ck ?_
          exact fj_Mod_closesSession_J119 hT _ hx0 _ _ _ _ hF
      · exact FJ_leaf hF
  · refine FJ_ck ?_
    refine FJ_nn hF hx0 (fun b50 hb50 => ?_)
    refine FJ_ck ?_
    exact hk34 _ hx0 _ _ _ (Fr_sI hF hb50)
theorem nj_Mod_closesSession_B34 {M0 : Mm} (k34 : Nat → Int32 → Int32 → Mm → Option (Unit × Mm)) (hk34 : ∀ (x0 : Nat) (x1 : Int32) (x2 : Int32) (M : Mm) (hS : Sm M0 M), NJ M0 (k34 x0 x1 x2 M)) (x0 : Nat) (x1 : Int32) (x2 : Int32) (M : Mm) (hS : Sm M0 M) : NJ M0 (Mod_closesSession_B34 k34 x0 x1 x2 M) := by
  unfold Mod_closesSession_B34
  refine NJ_if ?_ ?_
  · refine NJ_ck ?_
    refine NJ_nn (fun b13 => ?_)
    refine NJ_ck ?_
    refine NJ_nn (fun b16 => ?_)
    refine NJ_ck ?_
    refine NJ_if ?_ ?_
    · exact NJ_leaf hS
    · refine NJ_nn (fun b18 => ?_)
      refine NJ_ck ?_
      refine NJ_nn (fun b20 => ?_)
      refine NJ_ck ?_
      refine NJ_if ?_ ?_
      · refine NJ_if ?_ ?_
        · exact nj_Mod_closesSession_J119 _ _ _ _ _ hS
        · refine NJ_nn (fun b22 => ?_)
          refine NJ_ck ?_
          exact nj_Mod_closesSession_J119 _ _ _ _ _ hS
      · exact NJ_leaf hS
  · refine NJ_ck ?_
    refine NJ_nn (fun b50 => ?_)
    refine NJ_ck ?_
    exact hk34 _ _ _ _ (Sm_sI hS)
theorem fj_Mod_closesSession_L34 {D : Nat → Prop} {M0 : Mm} (hT : Tp D M0) : ∀ (n : Nat) (x0 : Nat) (hx0 : D x0) (x1 : Int32) (x2 : Int32) (M : Mm) (hF : Fr D M0 M), FJ D M0 (Mod_closesSession_L34 n x0 x1 x2 M) := by
  intro n
  induction n with
  | zero => intros; exact FJ_none
  | succ n ih => intro x0 hx0 x1 x2 M hF; exact fj_Mod_closesSession_B34 hT _ ih x0 hx0 x1 x2 M hF
theorem nj_Mod_closesSession_L34 {M0 : Mm} : ∀ (n : Nat) (x0 : Nat) (x1 : Int32) (x2 : Int32) (M : Mm) (hS : Sm M0 M), NJ M0 (Mod_closesSession_L34 n x0 x1 x2 M) := by
  intro n
  induction n with
  | zero => intros; exact NJ_none
  | succ n ih => intro x0 x1 x2 M hS; exact nj_Mod_closesSession_B34 _ ih x0 x1 x2 M hS
theorem fj_Mod_closesSession {D : Nat → Prop} {M : Mm} (hC : Cl D M) (hT : Tp D M) (a0 : Nat) (h0 : D a0) (a1 : Int32) : FJ D M (Mod_closesSession M a0 a1) := by
  unfold Mod_closesSession
  refine FJ_ck ?_
  refine FJ_nn (Fr_sI (Fr_sI (Fr.rf hC) h0) h0) h0 (fun b4 hb4 => ?_)
  refine FJ_ck ?_
  refine FJ_nn (Fr_sI (Fr_sI (Fr_sI (Fr.rf hC) h0) h0) hb4) h0 (fun b7 hb7 => ?_)
  refine FJ_bd hT (Fr_sI (Fr_sI (Fr_sI (Fr.rf hC) h0) h0) hb4) (fun gC gT => fj_Mod_asked gC gT _ h0 _) (fun r8 M9 hFM9 => ?_)
  refine FJ_ck ?_
  exact fj_Mod_closesSession_L34 hT fu _ h0 _ _ _ (Fr_sI hFM9 hb7)
theorem nj_Mod_closesSession (M : Mm) (a0 : Nat) (a1 : Int32) : NJ M (Mod_closesSession M a0 a1) := by
  unfold Mod_closesSession
  refine NJ_ck ?_
  refine NJ_nn (fun b4 => ?_)
  refine NJ_ck ?_
  refine NJ_nn (fun b7 => ?_)
  refine NJ_bd (Sm_sI (Sm_sI (Sm_sI Sm.rf))) (nj_Mod_asked _ _ _) (fun r8 M9 hSM9 => ?_)
  refine NJ_ck ?_
  exact nj_Mod_closesSession_L34 fu _ _ _ _ (Sm_sI hSM9)
