theorem fj_Math_min_I {D : Nat → Prop} {M : Mm} (hC : Cl D M) (hT : Tp D M) (a0 : Int32) (a1 : Int32) : FJ D M (Math_min_I M a0 a1) := by
  unfold Math_min_I
  refine FJ_if ?_ ?_
  · exact FJ_leaf (Fr.rf hC)
  · exact FJ_leaf (Fr.rf hC)
theorem nj_Math_min_I (M : Mm) (a0 : Int32) (a1 : Int32) : NJ M (Math_min_I M a0 a1) := by
  unfold Math_min_I
  refine NJ_if ?_ ?_
  · exact NJ_leaf Sm.rf
  · exact NJ_leaf Sm.rf
theorem fj_Math_max_I {D : Nat → Prop} {M : Mm} (hC : Cl D M) (hT : Tp D M) (a0 : Int32) (a1 : Int32) : FJ D M (Math_max_I M a0 a1) := by
  unfold Math_max_I
  refine FJ_if ?_ ?_
  · exact FJ_leaf (Fr.rf hC)
  · exact FJ_leaf (Fr.rf hC)
theorem nj_Math_max_I (M : Mm) (a0 : Int32) (a1 : Int32) : NJ M (Math_max_I M a0 a1) := by
  unfold Math_max_I
  refine NJ_if ?_ ?_
  · exact NJ_leaf Sm.rf
  · exact NJ_leaf Sm.rf
theorem fj_Math_abs_I {D : Nat → Prop} {M : Mm} (hC : Cl D M) (hT : Tp D M) (a0 : Int32) : FJ D M (Math_abs_I M a0) := by
  unfold Math_abs_I
  refine FJ_if ?_ ?_
  · exact FJ_leaf (Fr.rf hC)
  · exact FJ_leaf (Fr.rf hC)
theorem nj_Math_abs_I (M : Mm) (a0 : Int32) : NJ M (Math_abs_I M a0) := by
  unfold Math_abs_I
  refine NJ_if ?_ ?_
  · exact NJ_leaf Sm.rf
  · exact NJ_leaf Sm.rf
theorem fj_Math_min_L {D : Nat → Prop} {M : Mm} (hC : Cl D M) (hT : Tp D M) (a0 : Int64) (a1 : Int64) : FJ D M (Math_min_L M a0 a1) := by
  unfold Math_min_L
  refine FJ_if ?_ ?_
  · exact FJ_leaf (Fr.rf hC)
  · exact FJ_leaf (Fr.rf hC)
theorem nj_Math_min_L (M : Mm) (a0 : Int64) (a1 : Int64) : NJ M (Math_min_L M a0 a1) := by
  unfold Math_min_L
  refine NJ_if ?_ ?_
  · exact NJ_leaf Sm.rf
  · exact NJ_leaf Sm.rf
theorem fj_Math_max_L {D : Nat → Prop} {M : Mm} (hC : Cl D M) (hT : Tp D M) (a0 : Int64) (a1 : Int64) : FJ D M (Math_max_L M a0 a1) := by
  unfold Math_max_L
  refine FJ_if ?_ ?_
  · exact FJ_leaf (Fr.rf hC)
  · exact FJ_leaf (Fr.rf hC)
theorem nj_Math_max_L (M : Mm) (a0 : Int64) (a1 : Int64) : NJ M (Math_max_L M a0 a1) := by
  unfold Math_max_L
  refine NJ_if ?_ ?_
  · exact NJ_leaf Sm.rf
  · exact NJ_leaf Sm.rf
theorem fj_Arr_fill_B5 {D : Nat → Prop} {M0 : Mm} (hT : Tp D M0) (k5 : Nat → Int32 → Int32 → Int32 → Mm → Option (Unit × Mm)) (hk5 : ∀ (x0 : Nat) (hx0 : D x0) (x1 : Int32) (x2 : Int32) (x3 : Int32) (M : Mm) (hF : Fr D M0 M), FJ D M0 (k5 x0 x1 x2 x3 M)) (x0 : Nat) (hx0 : D x0) (x1 : Int32) (x2 : Int32) (x3 : Int32) (M : Mm) (hF : Fr D M0 M) : FJ D M0 (Arr_fill_B5 k5 x0 x1 x2 x3 M) := by
  unfold Arr_fill_B5
  refine FJ_if ?_ ?_
  · exact FJ_leaf hF
  · refine FJ_ck ?_
    exact hk5 _ hx0 _ _ _ _ (Fr_sI hF hx0)
theorem nj_Arr_fill_B5 {M0 : Mm} (k5 : Nat → Int32 → Int32 → Int32 → Mm → Option (Unit × Mm)) (hk5 : ∀ (x0 : Nat) (x1 : Int32) (x2 : Int32) (x3 : Int32) (M : Mm) (hS : Sm M0 M), NJ M0 (k5 x0 x1 x2 x3 M)) (x0 : Nat) (x1 : Int32) (x2 : Int32) (x3 : Int32) (M : Mm) (hS : Sm M0 M) : NJ M0 (Arr_fill_B5 k5 x0 x1 x2 x3 M) := by
  unfold Arr_fill_B5
  refine NJ_if ?_ ?_
  · exact NJ_leaf hS
  · refine NJ_ck ?_
    exact hk5 _ _ _ _ _ (Sm_sI hS)
theorem fj_Arr_fill_L5 {D : Nat → Prop} {M0 : Mm} (hT : Tp D M0) : ∀ (n : Nat) (x0 : Nat) (hx0 : D x0) (x1 : Int32) (x2 : Int32) (x3 : Int32) (M : Mm) (hF : Fr D M0 M), FJ D M0 (Arr_fill_L5 n x0 x1 x2 x3 M) := by
  intro n
  induction n with
  | zero => intros; exact FJ_none
  | succ n ih => intro x0 hx0 x1 x2 x3 M hF; exact fj_Arr_fill_B5 hT _ ih x0 hx0 x1 x2 x3 M hF
theorem nj_Arr_fill_L5 {M0 : Mm} : ∀ (n : Nat) (x0 : Nat) (x1 : Int32) (x2 : Int32) (x3 : Int32) (M : Mm) (hS : Sm M0 M), NJ M0 (Arr_fill_L5 n x0 x1 x2 x3 M) := by
  intro n
  induction n with
  | zero => intros; exact NJ_none
  | succ n ih => intro x0 x1 x2 x3 M hS; exact nj_Arr_fill_B5 _ ih x0 x1 x2 x3 M hS
theorem fj_Arr_fill {D : Nat → Prop} {M : Mm} (hC : Cl D M) (hT : Tp D M) (a0 : Nat) (h0 : D a0) (a1 : Int32) : FJ D M (Arr_fill M a0 a1) := by
  unfold Arr_fill
  refine FJ_ck ?_
  exact fj_Arr_fill_L5 hT fu _ h0 _ _ _ _ (Fr.rf hC)
theorem nj_Arr_fill (M : Mm) (a0 : Nat) (a1 : Int32) : NJ M (Arr_fill M a0 a1) := by
  unfold Arr_fill
  refine NJ_ck ?_
  exact nj_Arr_fill_L5 fu _ _ _ _ _ Sm.rf
theorem fj_Arr_copyOf {D : Nat → Prop} {M : Mm} (hC : Cl D M) (hT : Tp D M) (a0 : Nat) (h0 : D a0) (a1 : Int32) : FJ D M (Arr_copyOf M a0 a1) := by
  unfold Arr_copyOf
  refine FJ_ck ?_
  refine FJ_if ?_ ?_
  · refine FJ_ck ?_
    exact FJ_leaf (Fr_cpy (Fr_nw hT (Fr.rf hC)) (hT _ (Nat.le_refl _)))
  · refine FJ_ck ?_
    refine FJ_ck ?_
    refine FJ_bd hT (Fr_nw hT (Fr.rf hC)) (fun hC hT => fj_Math_min_I hC hT _ _) (fun r M2 hF => ?_)
    refine FJ_ck ?_
    refine FJ_ck ?_
    refine FJ_ck ?_
    exact FJ_leaf (Fr_cpy hF (hT _ (Nat.le_refl _)))
theorem rz_Arr_copyOf {M M1 : Mm} {a0 r : Nat} {a1 : Int32} (h : Arr_copyOf M a0 a1 = some (r, M1)) : mZ M ≤ r := by
  unfold Arr_copyOf at h
  have hck : ∀ {α : Type} {b : Bool} {o : Option α} {x : α}, ck b o = some x → o = some x := by
    intro α b o x h
    cases b with
    | true => exact h
    | false => cases h
  have h := hck h
  split at h
  · have h := hck h
    cases h; exact Nat.le_refl _
  · have h := hck (hck h)
    cases hq : Math_min_I (nw M 20 (ix a1)) (ln (nw M 20 (ix a1)) a0) a1 with
    | none => rw [hq] at h; cases h
    | some q =>
      rw [hq] at h
      have h := hck (hck (hck h))
      cases h; exact Nat.le_refl _

theorem fj_Bargain_new_J45 {D : Nat → Prop} {M0 : Mm} (hT : Tp D M0) (x0 : Nat) (hx0 : D x0) (x1 : Nat) (hx1 : D x1) (x2 : Nat) (hx2 : D x2) (x3 : Int32) (s0 : Int32) (s1 : Nat) (hs1 : D s1) (M : Mm) (hF : Fr D M0 M) : FJ D M0 (Bargain_new_J45 x0 x1 x2 x3 s0 s1 M) := by
  unfold Bargain_new_J45
  refine FJ_ck ?_
  refine FJ_ck ?_
  refine FJ_ck ?_
  refine FJ_ck ?_
  exact FJ_leaf (Fr_sI (Fr_sI (Fr_sI (Fr_sI hF hs1) hx0) hx0) hx0)
theorem nj_Bargain_new_J45 {M0 : Mm} (x0 : Nat) (x1 : Nat) (x2 : Nat) (x3 : Int32) (s0 : Int32) (s1 : Nat) (M : Mm) (hS : Sm M0 M) : NJ M0 (Bargain_new_J45 x0 x1 x2 x3 s0 s1 M) := by
  unfold Bargain_new_J45
  refine NJ_ck ?_
  refine NJ_ck ?_
  refine NJ_ck ?_
  refine NJ_ck ?_
  exact NJ_leaf (Sm_sI (Sm_sI (Sm_sI (Sm_sI hS))))
theorem fj_Bargain_new_J23 {D : Nat → Prop} {M0 : Mm} (hT : Tp D M0) (x0 : Nat) (hx0 : D x0) (x1 : Nat) (hx1 : D x1) (x2 : Nat) (hx2 : D x2) (x3 : Int32) (s0 : Int32) (s1 : Nat) (hs1 : D s1) (M : Mm) (hF : Fr D M0 M) : FJ D M0 (Bargain_new_J23 x0 x1 x2 x3 s0 s1 M) := by
  unfold Bargain_new_J23
  refine FJ_ck ?_
  refine FJ_ck ?_
  refine FJ_if ?_ ?_
  · exact fj_Bargain_new_J45 hT _ hx0 _ hx1 _ hx2 _ _ _ hx0 _ (Fr_sI hF hs1)
  · refine FJ_ck ?_
    exact fj_Bargain_new_J45 hT _ hx0 _ hx1 _ hx2 _ _ _ hx0 _ (Fr_sI hF hs1)
theorem nj_Bargain_new_J23 {M0 : Mm} (x0 : Nat) (x1 : Nat) (x2 : Nat) (x3 : Int32) (s0 : Int32) (s1 : Nat) (M : Mm) (hS : Sm M0 M) : NJ M0 (Bargain_new_J23 x0 x1 x2 x3 s0 s1 M) := by
  unfold Bargain_new_J23
  refine NJ_ck ?_
  refine NJ_ck ?_
  refine NJ_if ?_ ?_
  · exact nj_Bargain_new_J45 _ _ _ _ _ _ _ (Sm_sI hS)
  · refine NJ_ck ?_
    exact nj_Bargain_new_J45 _ _ _ _ _ _ _ (Sm_sI hS)
theorem fj_Bargain_new {D : Nat → Prop} {M : Mm} (hC : Cl D M) (hT : Tp D M) (a0 : Nat) (h0 : D a0) (a1 : Nat) (h1 : D a1) (a2 : Nat) (h2 : D a2) (a3 : Int32) : FJ D M (Bargain_new M a0 a1 a2 a3) := by
  unfold Bargain_new
  refine FJ_ck ?_
  refine FJ_if ?_ ?_
  · refine FJ_ck ?_
    exact fj_Bargain_new_J23 hT _ h0 _ h1 _ h2 _ _ _ h0 _ (Fr.rf hC)
  · exact fj_Bargain_new_J23 hT _ h0 _ h1 _ h2 _ _ _ h0 _ (Fr.rf hC)
theorem nj_Bargain_new (M : Mm) (a0 : Nat) (a1 : Nat) (a2 : Nat) (a3 : Int32) : NJ M (Bargain_new M a0 a1 a2 a3) := by
  unfold Bargain_new
  refine NJ_ck ?_
  refine NJ_if ?_ ?_
  · refine NJ_ck ?_
    exact nj_Bargain_new_J23 _ _ _ _ _ _ _ Sm.rf
  · exact nj_Bargain_new_J23 _ _ _ _ _ _ _ Sm.rf
theorem fj_Bargain_write {D : Nat → Prop} {M : Mm} (hC : Cl D M) (hT : Tp D M) (a0 : Nat) (h0 : D a0) (a1 : Int32) (a2 : Int32) (a3 : Int32) : FJ D M (Bargain_write M a0 a1 a2 a3) := by
  unfold Bargain_write
  refine FJ_if ?_ ?_
  · refine FJ_ck ?_
    exact FJ_leaf (Fr_sI (Fr_sI (Fr.rf hC) h0) h0)
  · refine FJ_ck ?_
    exact FJ_leaf (Fr_sI (Fr_sI (Fr.rf hC) h0) h0)
theorem nj_Bargain_write (M : Mm) (a0 : Nat) (a1 : Int32) (a2 : Int32) (a3 : Int32) : NJ M (Bargain_write M a0 a1 a2 a3) := by
  unfold Bargain_write
  refine NJ_if ?_ ?_
  · refine NJ_ck ?_
    exact NJ_leaf (Sm_sI (Sm_sI Sm.rf))
  · refine NJ_ck ?_
    exact NJ_leaf (Sm_sI (Sm_sI Sm.rf))
theorem fj_Bargain_isDenied {D : Nat → Prop} {M : Mm} (hC : Cl D M) (hT : Tp D M) (a0 : Nat) (h0 : D a0) : FJ D M (Bargain_isDenied M a0) := by
  unfold Bargain_isDenied
  refine FJ_ck ?_
  refine FJ_if ?_ ?_
  · refine FJ_if ?_ ?_
    · exact FJ_leaf (Fr.rf hC)
    · exact FJ_leaf (Fr.rf hC)
  · exact FJ_leaf (Fr.rf hC)
theorem nj_Bargain_isDenied (M : Mm) (a0 : Nat) : NJ M (Bargain_isDenied M a0) := by
  unfold Bargain_isDenied
  refine NJ_ck ?_
  refine NJ_if ?_ ?_
  · refine NJ_if ?_ ?_
    · exact NJ_leaf Sm.rf
    · exact NJ_leaf Sm.rf
  · exact NJ_leaf Sm.rf
theorem fj_Bargain_denyBy_J35 {D : Nat → Prop} {M0 : Mm} (hT : Tp D M0) (x0 : Nat) (hx0 : D x0) (x1 : Int32) (M : Mm) (hF : Fr D M0 M) : FJ D M0 (Bargain_denyBy_J35 x0 x1 M) := by
  unfold Bargain_denyBy_J35
  refine FJ_if ?_ ?_
  · refine FJ_ck ?_
    exact FJ_leaf (Fr_sI hF hx0)
  · refine FJ_ck ?_
    exact FJ_leaf (Fr_sI hF hx0)
theorem nj_Bargain_denyBy_J35 {M0 : Mm} (x0 : Nat) (x1 : Int32) (M : Mm) (hS : Sm M0 M) : NJ M0 (Bargain_denyBy_J35 x0 x1 M) := by
  unfold Bargain_denyBy_J35
  refine NJ_if ?_ ?_
  · refine NJ_ck ?_
    exact NJ_leaf (Sm_sI hS)
  · refine NJ_ck ?_
    exact NJ_leaf (Sm_sI hS)
theorem fj_Bargain_denyBy_J23 {D : Nat → Prop} {M0 : Mm} (hT : Tp D M0) (x0 : Nat) (hx0 : D x0) (x1 : Int32) (M : Mm) (hF : Fr D M0 M) : FJ D M0 (Bargain_denyBy_J23 x0 x1 M) := by
  unfold Bargain_denyBy_J23
  refine FJ_ck ?_
  refine FJ_bd hT hF (fun gC gT => fj_Bargain_isDenied gC gT _ hx0) (fun r3 M4 hFM4 => ?_)
  refine FJ_if ?_ ?_
  · refine FJ_ck ?_
    refine FJ_ck ?_
    exact fj_Bargain_denyBy_J35 hT _ hx0 _ _ (Fr_sI hFM4 hx0)
  · exact fj_Bargain_denyBy_J35 hT _ hx0 _ _ hFM4
theorem nj_Bargain_denyBy_J23 {M0 : Mm} (x0 : Nat) (x1 : Int32) (M : Mm) (hS : Sm M0 M) : NJ M0 (Bargain_denyBy_J23 x0 x1 M) := by
  unfold Bargain_denyBy_J23
  refine NJ_ck ?_
  refine NJ_bd hS (nj_Bargain_isDenied _ _) (fun r3 M4 hSM4 => ?_)
  refine NJ_if ?_ ?_
  · refine NJ_ck ?_
    refine NJ_ck ?_
    exact nj_Bargain_denyBy_J35 _ _ _ (Sm_sI hSM4)
  · exact nj_Bargain_denyBy_J35 _ _ _ hSM4
theorem fj_Bargain_denyBy {D : Nat → Prop} {M : Mm} (hC : Cl D M) (hT : Tp D M) (a0 : Nat) (h0 : D a0) (a1 : Int32) : FJ D M (Bargain_denyBy M a0 a1) := by
  unfold Bargain_denyBy
  refine FJ_if ?_ ?_
  · refine FJ_ck ?_
    refine FJ_if ?_ ?_
    · exact fj_Bargain_denyBy_J23 hT _ h0 _ _ (Fr.rf hC)
    · exact FJ_leaf (Fr.rf hC)
  · refine FJ_ck ?_
    refine FJ_if ?_ ?_
    · exact fj_Bargain_denyBy_J23 hT _ h0 _ _ (Fr.rf hC)
    · exact FJ_leaf (Fr.rf hC)
theorem nj_Bargain_denyBy (M : Mm) (a0 : Nat) (a1 : Int32) : NJ M (Bargain_denyBy M a0 a1) := by
  unfold Bargain_denyBy
  refine NJ_if ?_ ?_
  · refine NJ_ck ?_
    refine NJ_if ?_ ?_
    · exact nj_Bargain_denyBy_J23 _ _ _ Sm.rf
    · exact NJ_leaf Sm.rf
  · refine NJ_ck ?_
    refine NJ_if ?_ ?_
    · exact nj_Bargain_denyBy_J23 _ _ _ Sm.rf
    · exact NJ_leaf Sm.rf
theorem fj_Bargain_standAs {D : Nat → Prop} {M : Mm} (hC : Cl D M) (hT : Tp D M) (a0 : Nat) (h0 : D a0) (a1 : Int32) (a2 : Int32) : FJ D M (Bargain_standAs M a0 a1 a2) := by
  unfold Bargain_standAs
  refine FJ_ck ?_
  exact FJ_leaf (Fr_sI (Fr_sI (Fr.rf hC) h0) h0)
theorem nj_Bargain_standAs (M : Mm) (a0 : Nat) (a1 : Int32) (a2 : Int32) : NJ M (Bargain_standAs M a0 a1 a2) := by
  unfold Bargain_standAs
  refine NJ_ck ?_
  exact NJ_leaf (Sm_sI (Sm_sI Sm.rf))
theorem fj_Bargain_judge_J94 {D : Nat → Prop} {M0 : Mm} (hT : Tp D M0) (x0 : Nat) (hx0 : D x0) (M : Mm) (hF : Fr D M0 M) : FJ D M0 (Bargain_judge_J94 x0 M) := by
  unfold Bargain_judge_J94
  refine FJ_ck ?_
  refine FJ_if ?_ ?_
  · refine FJ_if ?_ ?_
    · exact FJ_leaf hF
    · refine FJ_bd hT hF (fun gC gT => fj_Bargain_standAs gC gT _ hx0 _ _) (fun _ M8 hFM8 => ?_)
      exact FJ_leaf hFM8
  · exact FJ_leaf hF
theorem nj_Bargain_judge_J94 {M0 : Mm} (x0 : Nat) (M : Mm) (hS : Sm M0 M) : NJ M0 (Bargain_judge_J94 x0 M) := by
  unfold Bargain_judge_J94
  refine NJ_ck ?_
  refine NJ_if ?_ ?_
  · refine NJ_if ?_ ?_
    · exact NJ_leaf hS
    · refine NJ_bd hS (nj_Bargain_standAs _ _ _ _) (fun _ M8 hSM8 => ?_)
      exact NJ_leaf hSM8
  · exact NJ_leaf hS
theorem fj_Bargain_judge_J65 {D : Nat → Prop} {M0 : Mm} (hT : Tp D M0) (x0 : Nat) (hx0 : D x0) (M : Mm) (hF : Fr D M0 M) : FJ D M0 (Bargain_judge_J65 x0 M) := by
  unfold Bargain_judge_J65
  refine FJ_ck ?_
  refine FJ_if ?_ ?_
  · exact fj_Bargain_judge_J94 hT _ hx0 _ hF
  · refine FJ_if ?_ ?_
    · exact fj_Bargain_judge_J94 hT _ hx0 _ hF
    · refine FJ_bd hT hF (fun gC gT => fj_Bargain_standAs gC gT _ hx0 _ _) (fun _ M10 hFM10 => ?_)
      exact FJ_leaf hFM10
theorem nj_Bargain_judge_J65 {M0 : Mm} (x0 : Nat) (M : Mm) (hS : Sm M0 M) : NJ M0 (Bargain_judge_J65 x0 M) := by
  unfold Bargain_judge_J65
  refine NJ_ck ?_
  refine NJ_if ?_ ?_
  · exact nj_Bargain_judge_J94 _ _ hS
  · refine NJ_if ?_ ?_
    · exact nj_Bargain_judge_J94 _ _ hS
    · refine NJ_bd hS (nj_Bargain_standAs _ _ _ _) (fun _ M10 hSM10 => ?_)
      exact NJ_leaf hSM10
theorem fj_Bargain_judge {D : Nat → Prop} {M : Mm} (hC : Cl D M) (hT : Tp D M) (a0 : Nat) (h0 : D a0) : FJ D M (Bargain_judge M a0) := by
  unfold Bargain_judge
  refine FJ_ck ?_
  refine FJ_bd hT (Fr.rf hC) (fun gC gT => fj_Bargain_isDenied gC gT _ h0) (fun r2 M3 hFM3 => ?_)
  refine FJ_if ?_ ?_
  · refine FJ_ck ?_
    refine FJ_bd hT hFM3 (fun gC gT => fj_Bargain_standAs gC gT _ h0 _ _) (fun _ M18 hFM18 => ?_)
    exact FJ_leaf hFM18
  · refine FJ_ck ?_
    refine FJ_if ?_ ?_
    · exact fj_Bargain_judge_J65 hT _ h0 _ hFM3
    · refine FJ_if ?_ ?_
      · exact fj_Bargain_judge_J65 hT _ h0 _ hFM3
      · refine FJ_bd hT hFM3 (fun gC gT => fj_Math_min_I gC gT _ _) (fun r11 M12 hFM12 => ?_)
        refine FJ_ck ?_
        refine FJ_bd hT hFM12 (fun gC gT => fj_Bargain_standAs gC gT _ h0 _ _) (fun _ M15 hFM15 => ?_)
        exact FJ_leaf hFM15
theorem nj_Bargain_judge (M : Mm) (a0 : Nat) : NJ M (Bargain_judge M a0) := by
  unfold Bargain_judge
  refine NJ_ck ?_
  refine NJ_bd Sm.rf (nj_Bargain_isDenied _ _) (fun r2 M3 hSM3 => ?_)
  refine NJ_if ?_ ?_
  · refine NJ_ck ?_
    refine NJ_bd hSM3 (nj_Bargain_standAs _ _ _ _) (fun _ M18 hSM18 => ?_)
    exact NJ_leaf hSM18
  · refine NJ_ck ?_
    refine NJ_if ?_ ?_
    · exact nj_Bargain_judge_J65 _ _ hSM3
    · refine NJ_if ?_ ?_
      · exact nj_Bargain_judge_J65 _ _ hSM3
      · refine NJ_bd hSM3 (nj_Math_min_I _ _ _) (fun r11 M12 hSM12 => ?_)
        refine NJ_ck ?_
        refine NJ_bd hSM12 (nj_Bargain_standAs _ _ _ _) (fun _ M15 hSM15 => ?_)
        exact NJ_leaf hSM15
theorem fj_Cry_new {D : Nat → Prop} {M : Mm} (hC : Cl D M) (hT : Tp D M) (a0 : Nat) (h0 : D a0) (a1 : Int32) (a2 : Int32) (a3 : Int32) (a4 : Int32) (a5 : Int32) : FJ D M (Cry_new M a0 a1 a2 a3 a4 a5) := by
  unfold Cry_new
  refine FJ_ck ?_
  refine FJ_ck ?_
  exact FJ_leaf (Fr_sI (Fr_sI (Fr_sI (Fr_sI (Fr_sI (Fr_sI (Fr.rf hC) h0) h0) h0) h0) h0) h0)
theorem nj_Cry_new (M : Mm) (a0 : Nat) (a1 : Int32) (a2 : Int32) (a3 : Int32) (a4 : Int32) (a5 : Int32) : NJ M (Cry_new M a0 a1 a2 a3 a4 a5) := by
  unfold Cry_new
  refine NJ_ck ?_
  refine NJ_ck ?_
  exact NJ_leaf (Sm_sI (Sm_sI (Sm_sI (Sm_sI (Sm_sI (Sm_sI Sm.rf))))))
theorem fj_Cry_meets {D : Nat → Prop} {M : Mm} (hC : Cl D M) (hT : Tp D M) (a0 : Nat) (h0 : D a0) (a1 : Nat) (h1 : D a1) : FJ D M (Cry_meets M a0 a1) := by
  unfold Cry_meets
  refine FJ_ck ?_
  refine FJ_ck ?_
  refine FJ_if ?_ ?_
  · exact FJ_leaf (Fr.rf hC)
  · refine FJ_if ?_ ?_
    · exact FJ_leaf (Fr.rf hC)
    · refine FJ_if ?_ ?_
      · refine FJ_if ?_ ?_
        · exact FJ_leaf (Fr.rf hC)
        · exact FJ_leaf (Fr.rf hC)
      · refine FJ_if ?_ ?_
        · exact FJ_leaf (Fr.rf hC)
        · exact FJ_leaf (Fr.rf hC)
theorem nj_Cry_meets (M : Mm) (a0 : Nat) (a1 : Nat) : NJ M (Cry_meets M a0 a1) := by
  unfold Cry_meets
  refine NJ_ck ?_
  refine NJ_ck ?_
  refine NJ_if ?_ ?_
  · exact NJ_leaf Sm.rf
  · refine NJ_if ?_ ?_
    · exact NJ_leaf Sm.rf
    · refine NJ_if ?_ ?_
      · refine NJ_if ?_ ?_
        · exact NJ_leaf Sm.rf
        · exact NJ_leaf Sm.rf
      · refine NJ_if ?_ ?_
        · exact NJ_leaf Sm.rf
        · exact NJ_leaf Sm.rf
theorem fj_Cry_isBetterThan {D : Nat → Prop} {M : Mm} (hC : Cl D M) (hT : Tp D M) (a0 : Nat) (h0 : D a0) (a1 : Nat) (h1 : D a1) : FJ D M (Cry_isBetterThan M a0 a1) := by
  unfold Cry_isBetterThan
  refine FJ_ck ?_
  refine FJ_if ?_ ?_
  · refine FJ_ck ?_
    refine FJ_if ?_ ?_
    · exact FJ_leaf (Fr.rf hC)
    · exact FJ_leaf (Fr.rf hC)
  · refine FJ_ck ?_
    refine FJ_if ?_ ?_
    · exact FJ_leaf (Fr.rf hC)
    · exact FJ_leaf (Fr.rf hC)
theorem nj_Cry_isBetterThan (M : Mm) (a0 : Nat) (a1 : Nat) : NJ M (Cry_isBetterThan M a0 a1) := by
  unfold Cry_isBetterThan
  refine NJ_ck ?_
  refine NJ_if ?_ ?_
  · refine NJ_ck ?_
    refine NJ_if ?_ ?_
    · exact NJ_leaf Sm.rf
    · exact NJ_leaf Sm.rf
  · refine NJ_ck ?_
    refine NJ_if ?_ ?_
    · exact NJ_leaf Sm.rf
    · exact NJ_leaf Sm.rf
theorem fj_Edict_isFact {D : Nat → Prop} {M : Mm} (hC : Cl D M) (hT : Tp D M) (a0 : Int32) (a1 : Nat) (h1 : D a1) : FJ D M (Edict_isFact M a0 a1) := by
  unfold Edict_isFact
  refine FJ_if ?_ ?_
  · exact FJ_leaf (Fr.rf hC)
  · refine FJ_ck ?_
    refine FJ_if ?_ ?_
    · refine FJ_if ?_ ?_
      · refine FJ_ck ?_
        refine FJ_if ?_ ?_
        · exact FJ_leaf (Fr.rf hC)
        · exact FJ_leaf (Fr.rf hC)
      · refine FJ_if ?_ ?_
        · refine FJ_ck ?_
          refine FJ_if ?_ ?_
          · exact FJ_leaf (Fr.rf hC)
          · exact FJ_leaf (Fr.rf hC)
        · refine FJ_ck ?_
          refine FJ_if ?_ ?_
          · exact FJ_leaf (Fr.rf hC)
          · exact FJ_leaf (Fr.rf hC)
    · exact FJ_leaf (Fr.rf hC)
theorem nj_Edict_isFact (M : Mm) (a0 : Int32) (a1 : Nat) : NJ M (Edict_isFact M a0 a1) := by
  unfold Edict_isFact
  refine NJ_if ?_ ?_
  · exact NJ_leaf Sm.rf
  · refine NJ_ck ?_
    refine NJ_if ?_ ?_
    · refine NJ_if ?_ ?_
      · refine NJ_ck ?_
        refine NJ_if ?_ ?_
        · exact NJ_leaf Sm.rf
        · exact NJ_leaf Sm.rf
      · refine NJ_if ?_ ?_
        · refine NJ_ck ?_
          refine NJ_if ?_ ?_
          · exact NJ_leaf Sm.rf
          · exact NJ_leaf Sm.rf
        · refine NJ_ck ?_
          refine NJ_if ?_ ?_
          · exact NJ_leaf Sm.rf
          · exact NJ_leaf Sm.rf
    · exact NJ_leaf Sm.rf
theorem fj_Edict_holds_J138 {D : Nat → Prop} {M0 : Mm} (hT : Tp D M0) (x4 : Int64) (M : Mm) (hF : Fr D M0 M) : FJ D M0 (Edict_holds_J138 x4 M) := by
  unfold Edict_holds_J138
  refine FJ_if ?_ ?_
  · exact FJ_leaf hF
  · exact FJ_leaf hF
theorem nj_Edict_holds_J138 {M0 : Mm} (x4 : Int64) (M : Mm) (hS : Sm M0 M) : NJ M0 (Edict_holds_J138 x4 M) := by
  unfold Edict_holds_J138
  refine NJ_if ?_ ?_
  · exact NJ_leaf hS
  · exact NJ_leaf hS
theorem fj_Edict_holds_J132 {D : Nat → Prop} {M0 : Mm} (hT : Tp D M0) (k15 : Nat → Int32 → Nat → Int64 → Int32 → Mm → Option (Int32 × Mm)) (hk15 : ∀ (x0 : Nat) (hx0 : D x0) (x2 : Int32) (x3 : Nat) (hx3 : D x3) (x4 : Int64) (x6 : Int32) (M : Mm) (hF : Fr D M0 M), FJ D M0 (k15 x0 x2 x3 x4 x6 M)) (x0 : Nat) (hx0 : D x0) (x2 : Int32) (x3 : Nat) (hx3 : D x3) (x4 : Int64) (x6 : Int32) (M : Mm) (hF : Fr D M0 M) : FJ D M0 (Edict_holds_J132 k15 x0 x2 x3 x4 x6 M) := by
  unfold Edict_holds_J132
  exact hk15 _ hx0 _ _ hx3 _ _ _ hF
theorem nj_Edict_holds_J132 {M0 : Mm} (k15 : Nat → Int32 → Nat → Int64 → Int32 → Mm → Option (Int32 × Mm)) (hk15 : ∀ (x0 : Nat) (x2 : Int32) (x3 : Nat) (x4 : Int64) (x6 : Int32) (M : Mm) (hS : Sm M0 M), NJ M0 (k15 x0 x2 x3 x4 x6 M)) (x0 : Nat) (x2 : Int32) (x3 : Nat) (x4 : Int64) (x6 : Int32) (M : Mm) (hS : Sm M0 M) : NJ M0 (Edict_holds_J132 k15 x0 x2 x3 x4 x6 M) := by
  unfold Edict_holds_J132
  exact hk15 _ _ _ _ _ _ hS
theorem fj_Edict_holds_J119 {D : Nat → Prop} {M0 : Mm} (hT : Tp D M0) (k15 : Nat → Int32 → Nat → Int64 → Int32 → Mm → Option (Int32 × Mm)) (hk15 : ∀ (x0 : Nat) (hx0 : D x0) (x2 : Int32) (x3 : Nat) (hx3 : D x3) (x4 : Int64) (x6 : Int32) (M : Mm) (hF : Fr D M0 M), FJ D M0 (k15 x0 x2 x3 x4 x6 M)) (x0 : Nat) (hx0 : D x0) (x2 : Int32) (x3 : Nat) (hx3 : D x3) (x4 : Int64) (x6 : Int32) (s0 : Int64) (M : Mm) (hF : Fr D M0 M) : FJ D M0 (Edict_holds_J119 k15 x0 x2 x3 x4 x6 s0 M) := by
  unfold Edict_holds_J119
  exact fj_Edict_holds_J132 hT k15 hk15 _ hx0 _ _ hx3 _ _ _ hF
theorem nj_Edict_holds_J119 {M0 : Mm} (k15 : Nat → Int32 → Nat → Int64 → Int32 → Mm → Option (Int32 × Mm)) (hk15 : ∀ (x0 : Nat) (x2 : Int32) (x3 : Nat) (x4 : Int64) (x6 : Int32) (M : Mm) (hS : Sm M0 M), NJ M0 (k15 x0 x2 x3 x4 x6 M)) (x0 : Nat) (x2 : Int32) (x3 : Nat) (x4 : Int64) (x6 : Int32) (s0 : Int64) (M : Mm) (hS : Sm M0 M) : NJ M0 (Edict_holds_J119 k15 x0 x2 x3 x4 x6 s0 M) := by
  unfold Edict_holds_J119
  exact nj_Edict_holds_J132 k15 hk15 _ _ _ _ _ _ hS
theorem fj_Edict_holds_J63 {D : Nat → Prop} {M0 : Mm} (hT : Tp D M0) (k15 : Nat → Int32 → Nat → Int64 → Int32 → Mm → Option (Int32 × Mm)) (hk15 : ∀ (x0 : Nat) (hx0 : D x0) (x2 : Int32) (x3 : Nat) (hx3 : D x3) (x4 : Int64) (x6 : Int32) (M : Mm) (hF : Fr D M0 M), FJ D M0 (k15 x0 x2 x3 x4 x6 M)) (x0 : Nat) (hx0 : D x0) (x2 : Int32) (x3 : Nat) (hx3 : D x3) (x6 : Int32) (s0 : Int32) (s1 : Int64) (M : Mm) (hF : Fr D M0 M) : FJ D M0 (Edict_holds_J63 k15 x0 x2 x3 x6 s0 s1 M) := by
  unfold Edict_holds_J63
  exact fj_Edict_holds_J132 hT k15 hk15 _ hx0 _ _ hx3 _ _ _ hF
theorem nj_Edict_holds_J63 {M0 : Mm} (k15 : Nat → Int32 → Nat → Int64 → Int32 → Mm → Option (Int32 × Mm)) (hk15 : ∀ (x0 : Nat) (x2 : Int32) (x3 : Nat) (x4 : Int64) (x6 : Int32) (M : Mm) (hS : Sm M0 M), NJ M0 (k15 x0 x2 x3 x4 x6 M)) (x0 : Nat) (x2 : Int32) (x3 : Nat) (x6 : Int32) (s0 : Int32) (s1 : Int64) (M : Mm) (hS : Sm M0 M) : NJ M0 (Edict_holds_J63 k15 x0 x2 x3 x6 s0 s1 M) := by
  unfold Edict_holds_J63
  exact nj_Edict_holds_J132 k15 hk15 _ _ _ _ _ _ hS
theorem fj_Edict_holds_B15 {D : Nat → Prop} {M0 : Mm} (hT : Tp D M0) (k15 : Nat → Int32 → Nat → Int64 → Int32 → Mm → Option (Int32 × Mm)) (hk15 : ∀ (x0 : Nat) (hx0 : D x0) (x2 : Int32) (x3 : Nat) (hx3 : D x3) (x4 : Int64) (x6 : Int32) (M : Mm) (hF : Fr D M0 M), FJ D M0 (k15 x0 x2 x3 x4 x6 M)) (x0 : Nat) (hx0 : D x0) (x2 : Int32) (x3 : Nat) (hx3 : D x3) (x4 : Int64) (x6 : Int32) (M : Mm) (hF : Fr D M0 M) : FJ D M0 (Edict_holds_B15 k15 x0 x2 x3 x4 x6 M) := by
  unfold Edict_holds_B15
  refine FJ_if ?_ ?_
  · exact fj_Edict_holds_J138 hT _ _ hF
  · refine FJ_ck ?_
    refine FJ_nn hF hx0 (fun b2 hb2 => ?_)
    refine FJ_ck ?_
    refine FJ_if ?_ ?_
    · exact fj_Edict_holds_J138 hT _ _ hF
    · refine FJ_nn hF hx0 (fun b4 hb4 => ?_)
      refine FJ_ck ?_
      refine FJ_if ?_ ?_
      · refine FJ_if ?_ ?_
        · exact fj_Edict_holds_J132 hT k15 hk15 _ hx0 _ _ hx3 _ _ _ hF
        · refine FJ_if ?_ ?_
          · exact fj_Edict_holds_J119 hT k15 hk15 _ hx0 _ _ hx3 _ _ _ _ hF
          · exact fj_Edict_holds_J119 hT k15 hk15 _ hx0 _ _ hx3 _ _ _ _ hF
      · refine FJ_bd hT hF (fun gC gT => fj_Edict_isFact gC gT _ _ hx3) (fun r12 M13 hFM13 => ?_)
        refine FJ_if ?_ ?_
        · exact fj_Edict_holds_J63 hT k15 hk15 _ hx0 _ _ hx3 _ _ _ _ hFM13
        · exact fj_Edict_holds_J63 hT k15 hk15 _ hx0 _ _ hx3 _ _ _ _ hFM13
theorem nj_Edict_holds_B15 {M0 : Mm} (k15 : Nat → Int32 → Nat → Int64 → Int32 → Mm → Option (Int32 × Mm)) (hk15 : ∀ (x0 : Nat) (x2 : Int32) (x3 : Nat) (x4 : Int64) (x6 : Int32) (M : Mm) (hS : Sm M0 M), NJ M0 (k15 x0 x2 x3 x4 x6 M)) (x0 : Nat) (x2 : Int32) (x3 : Nat) (x4 : Int64) (x6 : Int32) (M : Mm) (hS : Sm M0 M) : NJ M0 (Edict_holds_B15 k15 x0 x2 x3 x4 x6 M) := by
  unfold Edict_holds_B15
  refine NJ_if ?_ ?_
  · exact nj_Edict_holds_J138 _ _ hS
  · refine NJ_ck ?_
    refine NJ_nn (fun b2 => ?_)
    refine NJ_ck ?_
    refine NJ_if ?_ ?_
    · exact nj_Edict_holds_J138 _ _ hS
    · refine NJ_nn (fun b4 => ?_)
      refine NJ_ck ?_
      refine NJ_if ?_ ?_
      · refine NJ_if ?_ ?_
        · exact nj_Edict_holds_J132 k15 hk15 _ _ _ _ _ _ hS
        · refine NJ_if ?_ ?_
          · exact nj_Edict_holds_J119 k15 hk15 _ _ _ _ _ _ _ hS
          · exact nj_Edict_holds_J119 k15 hk15 _ _ _ _ _ _ _ hS
      · refine NJ_bd hS (nj_Edict_isFact _ _ _) (fun r12 M13 hSM13 => ?_)
        refine NJ_if ?_ ?_
        · exact nj_Edict_holds_J63 k15 hk15 _ _ _ _ _ _ _ hSM13
        · exact nj_Edict_holds_J63 k15 hk15 _ _ _ _ _ _ _ hSM13
theorem fj_Edict_holds_L15 {D : Nat → Prop} {M0 : Mm} (hT : Tp D M0) : ∀ (n : Nat) (x0 : Nat) (hx0 : D x0) (x2 : Int32) (x3 : Nat) (hx3 : D x3) (x4 : Int64) (x6 : Int32) (M : Mm) (hF : Fr D M0 M), FJ D M0 (Edict_holds_L15 n x0 x2 x3 x4 x6 M) := by
  intro n
  induction n with
  | zero => intros; exact FJ_none
  | succ n ih => intro x0 hx0 x2 x3 hx3 x4 x6 M hF; exact fj_Edict_holds_B15 hT _ ih x0 hx0 x2 x3 hx3 x4 x6 M hF
theorem nj_Edict_holds_L15 {M0 : Mm} : ∀ (n : Nat) (x0 : Nat) (x2 : Int32) (x3 : Nat) (x4 : Int64) (x6 : Int32) (M : Mm) (hS : Sm M0 M), NJ M0 (Edict_holds_L15 n x0 x2 x3 x4 x6 M) := by
  intro n
  induction n with
  | zero => intros; exact NJ_none
  | succ n ih => intro x0 x2 x3 x4 x6 M hS; exact nj_Edict_holds_B15 _ ih x0 x2 x3 x4 x6 M hS
theorem fj_Edict_holds_J10 {D : Nat → Prop} {M0 : Mm} (hT : Tp D M0) (x0 : Nat) (hx0 : D x0) (x1 : Int32) (x2 : Int32) (x3 : Nat) (hx3 : D x3) (s0 : Int64) (M : Mm) (hF : Fr D M0 M) : FJ D M0 (Edict_holds_J10 x0 x1 x2 x3 s0 M) := by
  unfold Edict_holds_J10
  exact fj_Edict_holds_L15 hT fu _ hx0 _ _ hx3 _ _ _ hF
theorem nj_Edict_holds_J10 {M0 : Mm} (x0 : Nat) (x1 : Int32) (x2 : Int32) (x3 : Nat) (s0 : Int64) (M : Mm) (hS : Sm M0 M) : NJ M0 (Edict_holds_J10 x0 x1 x2 x3 s0 M) := by
  unfold Edict_holds_J10
  exact nj_Edict_holds_L15 fu _ _ _ _ _ _ hS
theorem fj_Edict_holds {D : Nat → Prop} {M : Mm} (hC : Cl D M) (hT : Tp D M) (a0 : Nat) (h0 : D a0) (a1 : Int32) (a2 : Int32) (a3 : Nat) (h3 : D a3) : FJ D M (Edict_holds M a0 a1 a2 a3) := by
  unfold Edict_holds
  refine FJ_if ?_ ?_
  · exact fj_Edict_holds_J10 hT _ h0 _ _ _ h3 _ _ (Fr.rf hC)
  · exact fj_Edict_holds_J10 hT _ h0 _ _ _ h3 _ _ (Fr.rf hC)
theorem nj_Edict_holds (M : Mm) (a0 : Nat) (a1 : Int32) (a2 : Int32) (a3 : Nat) : NJ M (Edict_holds M a0 a1 a2 a3) := by
  unfold Edict_holds
  refine NJ_if ?_ ?_
  · exact nj_Edict_holds_J10 _ _ _ _ _ _ Sm.rf
  · exact nj_Edict_holds_J10 _ _ _ _ _ _ Sm.rf
theorem fj_Edict_lastThatHolds_J54 {D : Nat → Prop} {M0 : Mm} (hT : Tp D M0) (k8 : Nat → Int32 → Nat → Int32 → Mm → Option (Int32 × Mm)) (hk8 : ∀ (x0 : Nat) (hx0 : D x0) (x1 : Int32) (x2 : Nat) (hx2 : D x2) (x3 : Int32) (M : Mm) (hF : Fr D M0 M), FJ D M0 (k8 x0 x1 x2 x3 M)) (x0 : Nat) (hx0 : D x0) (x1 : Int32) (x2 : Nat) (hx2 : D x2) (x3 : Int32) (M : Mm) (hF : Fr D M0 M) : FJ D M0 (Edict_lastThatHolds_J54 k8 x0 x1 x2 x3 M) := by
  unfold Edict_lastThatHolds_J54
  exact hk8 _ hx0 _ _ hx2 _ _ hF
theorem nj_Edict_lastThatHolds_J54 {M0 : Mm} (k8 : Nat → Int32 → Nat → Int32 → Mm → Option (Int32 × Mm)) (hk8 : ∀ (x0 : Nat) (x1 : Int32) (x2 : Nat) (x3 : Int32) (M : Mm) (hS : Sm M0 M), NJ M0 (k8 x0 x1 x2 x3 M)) (x0 : Nat) (x1 : Int32) (x2 : Nat) (x3 : Int32) (M : Mm) (hS : Sm M0 M) : NJ M0 (Edict_lastThatHolds_J54 k8 x0 x1 x2 x3 M) := by
  unfold Edict_lastThatHolds_J54
  exact hk8 _ _ _ _ _ hS
theorem fj_Edict_lastThatHolds_J39 {D : Nat → Prop} {M0 : Mm} (hT : Tp D M0) (k8 : Nat → Int32 → Nat → Int32 → Mm → Option (Int32 × Mm)) (hk8 : ∀ (x0 : Nat) (hx0 : D x0) (x1 : Int32) (x2 : Nat) (hx2 : D x2) (x3 : Int32) (M : Mm) (hF : Fr D M0 M), FJ D M0 (k8 x0 x1 x2 x3 M)) (x0 : Nat) (hx0 : D x0) (x1 : Int32) (x2 : Nat) (hx2 : D x2) (x3 : Int32) (s0 : Int32) (s1 : Nat) (hs1 : D s1) (M : Mm) (hF : Fr D M0 M) : FJ D M0 (Edict_lastThatHolds_J39 k8 x0 x1 x2 x3 s0 s1 M) := by
  unfold Edict_lastThatHolds_J39
  refine FJ_ck ?_
  refine FJ_nn hF hx0 (fun b12 hb12 => ?_)
  refine FJ_ck ?_
  refine FJ_ck ?_
  refine FJ_bd hT hF (fun gC gT => fj_Edict_holds gC gT _ hs1 _ _ _ hx2) (fun r15 M16 hFM16 => ?_)
  refine FJ_if ?_ ?_
  · exact fj_Edict_lastThatHolds_J54 hT k8 hk8 _ hx0 _ _ hx2 _ _ hFM16
  · exact FJ_leaf hFM16
theorem nj_Edict_lastThatHolds_J39 {M0 : Mm} (k8 : Nat → Int32 → Nat → Int32 → Mm → Option (Int32 × Mm)) (hk8 : ∀ (x0 : Nat) (x1 : Int32) (x2 : Nat) (x3 : Int32) (M : Mm) (hS : Sm M0 M), NJ M0 (k8 x0 x1 x2 x3 M)) (x0 : Nat) (x1 : Int32) (x2 : Nat) (x3 : Int32) (s0 : Int32) (s1 : Nat) (M : Mm) (hS : Sm M0 M) : NJ M0 (Edict_lastThatHolds_J39 k8 x0 x1 x2 x3 s0 s1 M) := by
  unfold Edict_lastThatHolds_J39
  refine NJ_ck ?_
  refine NJ_nn (fun b12 => ?_)
  refine NJ_ck ?_
  refine NJ_ck ?_
  refine NJ_bd hS (nj_Edict_holds _ _ _ _ _) (fun r15 M16 hSM16 => ?_)
  refine NJ_if ?_ ?_
  · exact nj_Edict_lastThatHolds_J54 k8 hk8 _ _ _ _ _ hSM16
  · exact NJ_leaf hSM16
theorem fj_Edict_lastThatHolds_B8 {D : Nat → Prop} {M0 : Mm} (hT : Tp D M0) (k8 : Nat → Int32 → Nat → Int32 → Mm → Option (Int32 × Mm)) (hk8 : ∀ (x0 : Nat) (hx0 : D x0) (x1 : Int32) (x2 : Nat) (hx2 : D x2) (x3 : Int32) (M : Mm) (hF : Fr D M0 M), FJ D M0 (k8 x0 x1 x2 x3 M)) (x0 : Nat) (hx0 : D x0) (x1 : Int32) (x2 : Nat) (hx2 : D x2) (x3 : Int32) (M : Mm) (hF : Fr D M0 M) : FJ D M0 (Edict_lastThatHolds_B8 k8 x0 x1 x2 x3 M) := by
  unfold Edict_lastThatHolds_B8
  refine FJ_if ?_ ?_
  · exact FJ_leaf hF
  · refine FJ_ck ?_
    refine FJ_nn hF hx0 (fun b6 hb6 => ?_)
    refine FJ_ck ?_
    refine FJ_if ?_ ?_
    · refine FJ_if ?_ ?_
      · exact fj_Edict_lastThatHolds_J39 hT k8 hk8 _ hx0 _ _ hx2 _ _ _ hx0 _ hF
      · refine FJ_nn hF hx0 (fun b9 hb9 => ?_)
        refine FJ_ck ?_
        exact fj_Edict_lastThatHolds_J39 hT k8 hk8 _ hx0 _ _ hx2 _ _ _ hx0 _ hF
    · exact fj_Edict_lastThatHolds_J54 hT k8 hk8 _ hx0 _ _ hx2 _ _ hF
theorem nj_Edict_lastThatHolds_B8 {M0 : Mm} (k8 : Nat → Int32 → Nat → Int32 → Mm → Option (Int32 × Mm)) (hk8 : ∀ (x0 : Nat) (x1 : Int32) (x2 : Nat) (x3 : Int32) (M : Mm) (hS : Sm M0 M), NJ M0 (k8 x0 x1 x2 x3 M)) (x0 : Nat) (x1 : Int32) (x2 : Nat) (x3 : Int32) (M : Mm) (hS : Sm M0 M) : NJ M0 (Edict_lastThatHolds_B8 k8 x0 x1 x2 x3 M) := by
  unfold Edict_lastThatHolds_B8
  refine NJ_if ?_ ?_
  · exact NJ_leaf hS
  · refine NJ_ck ?_
    refine NJ_nn (fun b6 => ?_)
    refine NJ_ck ?_
    refine NJ_if ?_ ?_
    · refine NJ_if ?_ ?_
      · exact nj_Edict_lastThatHolds_J39 k8 hk8 _ _ _ _ _ _ _ hS
      · refine NJ_nn (fun b9 => ?_)
        refine NJ_ck ?_
        exact nj_Edict_lastThatHolds_J39 k8 hk8 _ _ _ _ _ _ _ hS
    · exact nj_Edict_lastThatHolds_J54 k8 hk8 _ _ _ _ _ hS
theorem fj_Edict_lastThatHolds_L8 {D : Nat → Prop} {M0 : Mm} (hT : Tp D M0) : ∀ (n : Nat) (x0 : Nat) (hx0 : D x0) (x1 : Int32) (x2 : Nat) (hx2 : D x2) (x3 : Int32) (M : Mm) (hF : Fr D M0 M), FJ D M0 (Edict_lastThatHolds_L8 n x0 x1 x2 x3 M) := by
  intro n
  induction n with
  | zero => intros; exact FJ_none
  | succ n ih => intro x0 hx0 x1 x2 hx2 x3 M hF; exact fj_Edict_lastThatHolds_B8 hT _ ih x0 hx0 x1 x2 hx2 x3 M hF
theorem nj_Edict_lastThatHolds_L8 {M0 : Mm} : ∀ (n : Nat) (x0 : Nat) (x1 : Int32) (x2 : Nat) (x3 : Int32) (M : Mm) (hS : Sm M0 M), NJ M0 (Edict_lastThatHolds_L8 n x0 x1 x2 x3 M) := by
  intro n
  induction n with
  | zero => intros; exact NJ_none
  | succ n ih => intro x0 x1 x2 x3 M hS; exact nj_Edict_lastThatHolds_B8 _ ih x0 x1 x2 x3 M hS
theorem fj_Edict_lastThatHolds {D : Nat → Prop} {M : Mm} (hC : Cl D M) (hT : Tp D M) (a0 : Nat) (h0 : D a0) (a1 : Int32) (a2 : Nat) (h2 : D a2) : FJ D M (Edict_lastThatHolds M a0 a1 a2) := by
  unfold Edict_lastThatHolds
  refine FJ_ck ?_
  refine FJ_nn (Fr.rf hC) h0 (fun b2 hb2 => ?_)
  refine FJ_ck ?_
  exact fj_Edict_lastThatHolds_L8 hT fu _ h0 _ _ h2 _ _ (Fr.rf hC)
theorem nj_Edict_lastThatHolds (M : Mm) (a0 : Nat) (a1 : Int32) (a2 : Nat) : NJ M (Edict_lastThatHolds M a0 a1 a2) := by
  unfold Edict_lastThatHolds
  refine NJ_ck ?_
  refine NJ_nn (fun b2 => ?_)
  refine NJ_ck ?_
  exact nj_Edict_lastThatHolds_L8 fu _ _ _ _ _ Sm.rf
theorem fj_Edict_new {D : Nat → Prop} {M : Mm} (hC : Cl D M) (hT : Tp D M) (a0 : Nat) (h0 : D a0) (a1 : Nat) (h1 : D a1) (a2 : Int32) : FJ D M (Edict_new M a0 a1 a2) := by
  unfold Edict_new
  refine FJ_ck ?_
  refine FJ_ck ?_
  refine FJ_nn (Fr_sI (Fr.rf hC) h0) h1 (fun b4 hb4 => ?_)
  refine FJ_bdR hT (Fr_sI (Fr.rf hC) h0) (fun gC gT => fj_Arr_copyOf gC gT _ hb4 _) (fun _ _ h => rz_Arr_copyOf h) (fun r5 M6 hr5 hFM6 => ?_)
  refine FJ_ck ?_
  refine FJ_ck ?_
  refine FJ_nn (Fr_sRs hFM6 h0 hr5) h1 (fun b10 hb10 => ?_)
  refine FJ_bdR hT (Fr_sRs hFM6 h0 hr5) (fun gC gT => fj_Arr_copyOf gC gT _ hb10 _) (fun _ _ h => rz_Arr_copyOf h) (fun r11 M12 hr11 hFM12 => ?_)
  refine FJ_ck ?_
  refine FJ_ck ?_
  refine FJ_nn (Fr_sRs hFM12 h0 hr11) h1 (fun b16 hb16 => ?_)
  refine FJ_bdR hT (Fr_sRs hFM12 h0 hr11) (fun gC gT => fj_Arr_copyOf gC gT _ hb16 _) (fun _ _ h => rz_Arr_copyOf h) (fun r17 M18 hr17 hFM18 => ?_)
  refine FJ_ck ?_
  refine FJ_ck ?_
  refine FJ_nn (Fr_sRs hFM18 h0 hr17) h1 (fun b22 hb22 => ?_)
  refine FJ_bdR hT (Fr_sRs hFM18 h0 hr17) (fun gC gT => fj_Arr_copyOf gC gT _ hb22 _) (fun _ _ h => rz_Arr_copyOf h) (fun r23 M24 hr23 hFM24 => ?_)
  refine FJ_ck ?_
  exact FJ_leaf (Fr_sRs hFM24 h0 hr23)
theorem fj_Person_new {D : Nat → Prop} {M : Mm} (hC : Cl D M) (hT : Tp D M) (a0 : Nat) (h0 : D a0) (a1 : Int32) : FJ D M (Person_new M a0 a1) := by
  unfold Person_new
  refine FJ_ck ?_
  refine FJ_ck ?_
  refine FJ_ck ?_
  exact FJ_leaf (Fr_sI (Fr_sRs (Fr_nw hT (Fr_sRs (Fr_nw hT (Fr_sI (Fr.rf hC) h0)) h0 (hT _ (Fr.z (Fr_sI (Fr.rf hC) h0))))) h0 (hT _ (Fr.z (Fr_sRs (Fr_nw hT (Fr_sI (Fr.rf hC) h0)) h0 (hT _ (Fr.z (Fr_sI (Fr.rf hC) h0))))))) h0)
theorem fj_Person_need {D : Nat → Prop} {M : Mm} (hC : Cl D M) (hT : Tp D M) (a0 : Nat) (h0 : D a0) (a1 : Int32) : FJ D M (Person_need M a0 a1) := by
  unfold Person_need
  refine FJ_ck ?_
  refine FJ_bd hT (Fr.rf hC) (fun gC gT => fj_Math_abs_I gC gT _) (fun r2 M3 hFM3 => ?_)
  exact FJ_leaf hFM3
theorem nj_Person_need (M : Mm) (a0 : Nat) (a1 : Int32) : NJ M (Person_need M a0 a1) := by
  unfold Person_need
  refine NJ_ck ?_
  refine NJ_bd Sm.rf (nj_Math_abs_I _ _) (fun r2 M3 hSM3 => ?_)
  exact NJ_leaf hSM3
theorem fj_Scribe_take {D : Nat → Prop} {M : Mm} (hC : Cl D M) (hT : Tp D M) (a0 : Nat) (h0 : D a0) (a1 : Int32) : FJ D M (Scribe_take M a0 a1) := by
  unfold Scribe_take
  refine FJ_ck ?_
  refine FJ_if ?_ ?_
  · exact FJ_leaf (Fr.rf hC)
  · refine FJ_nn (Fr.rf hC) h0 (fun b2 hb2 => ?_)
    refine FJ_ck ?_
    refine FJ_if ?_ ?_
    · exact FJ_leaf (Fr_sI (Fr.rf hC) h0)
    · exact FJ_leaf (Fr.rf hC)
theorem nj_Scribe_take (M : Mm) (a0 : Nat) (a1 : Int32) : NJ M (Scribe_take M a0 a1) := by
  unfold Scribe_take
  refine NJ_ck ?_
  refine NJ_if ?_ ?_
  · exact NJ_leaf Sm.rf
  · refine NJ_nn (fun b2 => ?_)
    refine NJ_ck ?_
    refine NJ_if ?_ ?_
    · exact NJ_leaf (Sm_sI Sm.rf)
    · exact NJ_leaf Sm.rf
theorem fj_Scribe_put {D : Nat → Prop} {M : Mm} (hC : Cl D M) (hT : Tp D M) (a0 : Nat) (h0 : D a0) (a1 : Int32) : FJ D M (Scribe_put M a0 a1) := by
  unfold Scribe_put
  refine FJ_ck ?_
  refine FJ_nn (Fr.rf hC) h0 (fun b2 hb2 => ?_)
  refine FJ_ck ?_
  refine FJ_if ?_ ?_
  · refine FJ_nn (Fr.rf hC) h0 (fun b4 hb4 => ?_)
    refine FJ_ck ?_
    exact FJ_leaf (Fr_sI (Fr_sI (Fr.rf hC) hb4) h0)
  · exact FJ_leaf (Fr.rf hC)
theorem nj_Scribe_put (M : Mm) (a0 : Nat) (a1 : Int32) : NJ M (Scribe_put M a0 a1) := by
  unfold Scribe_put
  refine NJ_ck ?_
  refine NJ_nn (fun b2 => ?_)
  refine NJ_ck ?_
  refine NJ_if ?_ ?_
  · refine NJ_nn (fun b4 => ?_)
    refine NJ_ck ?_
    exact NJ_leaf (Sm_sI (Sm_sI Sm.rf))
  · exact NJ_leaf Sm.rf
theorem fj_Scribe_takeOf {D : Nat → Prop} {M : Mm} (hC : Cl D M) (hT : Tp D M) (a0 : Nat) (h0 : D a0) (a1 : Int32) (a2 : Int32) : FJ D M (Scribe_takeOf M a0 a1 a2) := by
  unfold Scribe_takeOf
  refine FJ_ck ?_
  refine FJ_if ?_ ?_
  · exact FJ_leaf (Fr.rf hC)
  · refine FJ_nn (Fr.rf hC) h0 (fun b2 hb2 => ?_)
    refine FJ_ck ?_
    refine FJ_if ?_ ?_
    · exact FJ_leaf (Fr.rf hC)
    · refine FJ_nn (Fr.rf hC) h0 (fun b4 hb4 => ?_)
      refine FJ_ck ?_
      refine FJ_if ?_ ?_
      · refine FJ_nn (Fr_sI (Fr.rf hC) h0) h0 (fun b7 hb7 => ?_)
        refine FJ_ck ?_
        exact FJ_leaf (Fr_sI (Fr.rf hC) h0)
      · exact FJ_leaf (Fr.rf hC)
theorem nj_Scribe_takeOf (M : Mm) (a0 : Nat) (a1 : Int32) (a2 : Int32) : NJ M (Scribe_takeOf M a0 a1 a2) := by
  unfold Scribe_takeOf
  refine NJ_ck ?_
  refine NJ_if ?_ ?_
  · exact NJ_leaf Sm.rf
  · refine NJ_nn (fun b2 => ?_)
    refine NJ_ck ?_
    refine NJ_if ?_ ?_
    · exact NJ_leaf Sm.rf
    · refine NJ_nn (fun b4 => ?_)
      refine NJ_ck ?_
      refine NJ_if ?_ ?_
      · refine NJ_nn (fun b7 => ?_)
        refine NJ_ck ?_
        exact NJ_leaf (Sm_sI Sm.rf)
      · exact NJ_leaf Sm.rf
theorem fj_Scribe_takeNumber {D : Nat → Prop} {M : Mm} (hC : Cl D M) (hT : Tp D M) (a0 : Nat) (h0 : D a0) (a1 : Int32) : FJ D M (Scribe_takeNumber M a0 a1) := by
  unfold Scribe_takeNumber
  refine FJ_ck ?_
  refine FJ_if ?_ ?_
  · exact FJ_leaf (Fr.rf hC)
  · refine FJ_nn (Fr.rf hC) h0 (fun b2 hb2 => ?_)
    refine FJ_ck ?_
    refine FJ_if ?_ ?_
    · refine FJ_nn (Fr.rf hC) h0 (fun b4 hb4 => ?_)
      refine FJ_ck ?_
      refine FJ_if ?_ ?_
      · refine FJ_nn (Fr_sI (Fr.rf hC) h0) h0 (fun b7 hb7 => ?_)
        refine FJ_ck ?_
        exact FJ_leaf (Fr_sI (Fr.rf hC) h0)
      · exact FJ_leaf (Fr.rf hC)
    · exact FJ_leaf (Fr.rf hC)
theorem nj_Scribe_takeNumber (M : Mm) (a0 : Nat) (a1 : Int32) : NJ M (Scribe_takeNumber M a0 a1) := by
  unfold Scribe_takeNumber
  refine NJ_ck ?_
  refine NJ_if ?_ ?_
  · exact NJ_leaf Sm.rf
  · refine NJ_nn (fun b2 => ?_)
    refine NJ_ck ?_
    refine NJ_if ?_ ?_
    · refine NJ_nn (fun b4 => ?_)
      refine NJ_ck ?_
      refine NJ_if ?_ ?_
      · refine NJ_nn (fun b7 => ?_)
        refine NJ_ck ?_
        exact NJ_leaf (Sm_sI Sm.rf)
      · exact NJ_leaf Sm.rf
    · exact NJ_leaf Sm.rf
theorem fj_Scribe_readComparison {D : Nat → Prop} {M : Mm} (hC : Cl D M) (hT : Tp D M) (a0 : Nat) (h0 : D a0) : FJ D M (Scribe_readComparison M a0) := by
  unfold Scribe_readComparison
  refine FJ_ck ?_
  refine FJ_bd hT (Fr.rf hC) (fun gC gT => fj_Scribe_takeOf gC gT _ h0 _ _) (fun r2 M3 hFM3 => ?_)
  refine FJ_if ?_ ?_
  · exact FJ_leaf hFM3
  · refine FJ_ck ?_
    refine FJ_bd hT hFM3 (fun gC gT => fj_Scribe_takeOf gC gT _ h0 _ _) (fun r5 M6 hFM6 => ?_)
    refine FJ_if ?_ ?_
    · exact FJ_leaf hFM6
    · refine FJ_ck ?_
      refine FJ_bd hT hFM6 (fun gC gT => fj_Scribe_takeNumber gC gT _ h0 _) (fun r8 M9 hFM9 => ?_)
      refine FJ_if ?_ ?_
      · exact FJ_leaf hFM9
      · refine FJ_ck ?_
        refine FJ_bd hT hFM9 (fun gC gT => fj_Scribe_put gC gT _ h0 _) (fun r11 M12 hFM12 => ?_)
        refine FJ_if ?_ ?_
        · exact FJ_leaf hFM12
        · exact FJ_leaf hFM12
theorem nj_Scribe_readComparison (M : Mm) (a0 : Nat) : NJ M (Scribe_readComparison M a0) := by
  unfold Scribe_readComparison
  refine NJ_ck ?_
  refine NJ_bd Sm.rf (nj_Scribe_takeOf _ _ _ _) (fun r2 M3 hSM3 => ?_)
  refine NJ_if ?_ ?_
  · exact NJ_leaf hSM3
  · refine NJ_ck ?_
    refine NJ_bd hSM3 (nj_Scribe_takeOf _ _ _ _) (fun r5 M6 hSM6 => ?_)
    refine NJ_if ?_ ?_
    · exact NJ_leaf hSM6
    · refine NJ_ck ?_
      refine NJ_bd hSM6 (nj_Scribe_takeNumber _ _ _) (fun r8 M9 hSM9 => ?_)
      refine NJ_if ?_ ?_
      · exact NJ_leaf hSM9
      · refine NJ_ck ?_
        refine NJ_bd hSM9 (nj_Scribe_put _ _ _) (fun r11 M12 hSM12 => ?_)
        refine NJ_if ?_ ?_
        · exact NJ_leaf hSM12
        · exact NJ_leaf hSM12
theorem fj_Scribe_readFact_J80 {D : Nat → Prop} {M0 : Mm} (hT : Tp D M0) (rC : Mm → Nat → Int32 → Option (Int32 × Mm)) (rF : Mm → Nat → Int32 → Option (Int32 × Mm)) (hrC : ∀ {M : Mm} (hC : Cl D M) (hT : Tp D M) (y0 : Nat) (h0 : D y0) (y1 : Int32), FJ D M (rC M y0 y1)) (hrF : ∀ {M : Mm} (hC : Cl D M) (hT : Tp D M) (y0 : Nat) (h0 : D y0) (y1 : Int32), FJ D M (rF M y0 y1)) (x0 : Nat) (hx0 : D x0) (M : Mm) (hF : Fr D M0 M) : FJ D M0 (Scribe_readFact_J80 rC rF x0 M) := by
  unfold Scribe_readFact_J80
  refine FJ_ck ?_
  refine FJ_bd hT hF (fun gC gT => fj_Scribe_readComparison gC gT _ hx0) (fun r2 M3 hFM3 => ?_)
  refine FJ_ck ?_
  exact FJ_leaf hFM3
theorem nj_Scribe_readFact_J80 {M0 : Mm} (rC : Mm → Nat → Int32 → Option (Int32 × Mm)) (rF : Mm → Nat → Int32 → Option (Int32 × Mm)) (hrC : ∀ (M : Mm) (y0 : Nat) (y1 : Int32), NJ M (rC M y0 y1)) (hrF : ∀ (M : Mm) (y0 : Nat) (y1 : Int32), NJ M (rF M y0 y1)) (x0 : Nat) (M : Mm) (hS : Sm M0 M) : NJ M0 (Scribe_readFact_J80 rC rF x0 M) := by
  unfold Scribe_readFact_J80
  refine NJ_ck ?_
  refine NJ_bd hS (nj_Scribe_readComparison _ _) (fun r2 M3 hSM3 => ?_)
  refine NJ_ck ?_
  exact NJ_leaf hSM3
theorem fj_Scribe_readFact_J40 {D : Nat → Prop} {M0 : Mm} (hT : Tp D M0) (rC : Mm → Nat → Int32 → Option (Int32 × Mm)) (rF : Mm → Nat → Int32 → Option (Int32 × Mm)) (hrC : ∀ {M : Mm} (hC : Cl D M) (hT : Tp D M) (y0 : Nat) (h0 : D y0) (y1 : Int32), FJ D M (rC M y0 y1)) (hrF : ∀ {M : Mm} (hC : Cl D M) (hT : Tp D M) (y0 : Nat) (h0 : D y0) (y1 : Int32), FJ D M (rF M y0 y1)) (x0 : Nat) (hx0 : D x0) (x1 : Int32) (M : Mm) (hF : Fr D M0 M) : FJ D M0 (Scribe_readFact_J40 rC rF x0 x1 M) := by
  unfold Scribe_readFact_J40
  refine FJ_if ?_ ?_
  · exact fj_Scribe_readFact_J80 hT rC rF hrC hrF _ hx0 _ hF
  · refine FJ_ck ?_
    refine FJ_bd hT hF (fun gC gT => fj_Scribe_take gC gT _ hx0 _) (fun r6 M7 hFM7 => ?_)
    refine FJ_if ?_ ?_
    · exact fj_Scribe_readFact_J80 hT rC rF hrC hrF _ hx0 _ hFM7
    · refine FJ_ck ?_
      refine FJ_bd hT hFM7 (fun gC gT => hrC gC gT _ hx0 _) (fun r9 M10 hFM10 => ?_)
      refine FJ_if ?_ ?_
      · exact FJ_leaf hFM10
      · refine FJ_ck ?_
        refine FJ_bd hT hFM10 (fun gC gT => fj_Scribe_take gC gT _ hx0 _) (fun r12 M13 hFM13 => ?_)
        refine FJ_if ?_ ?_
        · exact FJ_leaf hFM13
        · exact FJ_leaf hFM13
theorem nj_Scribe_readFact_J40 {M0 : Mm} (rC : Mm → Nat → Int32 → Option (Int32 × Mm)) (rF : Mm → Nat → Int32 → Option (Int32 × Mm)) (hrC : ∀ (M : Mm) (y0 : Nat) (y1 : Int32), NJ M (rC M y0 y1)) (hrF : ∀ (M : Mm) (y0 : Nat) (y1 : Int32), NJ M (rF M y0 y1)) (x0 : Nat) (x1 : Int32) (M : Mm) (hS : Sm M0 M) : NJ M0 (Scribe_readFact_J40 rC rF x0 x1 M) := by
  unfold Scribe_readFact_J40
  refine NJ_if ?_ ?_
  · exact nj_Scribe_readFact_J80 rC rF hrC hrF _ _ hS
  · refine NJ_ck ?_
    refine NJ_bd hS (nj_Scribe_take _ _ _) (fun r6 M7 hSM7 => ?_)
    refine NJ_if ?_ ?_
    · exact nj_Scribe_readFact_J80 rC rF hrC hrF _ _ hSM7
    · refine NJ_ck ?_
      refine NJ_bd hSM7 (hrC _ _ _) (fun r9 M10 hSM10 => ?_)
      refine NJ_if ?_ ?_
      · exact NJ_leaf hSM10
      · refine NJ_ck ?_
        refine NJ_bd hSM10 (nj_Scribe_take _ _ _) (fun r12 M13 hSM13 => ?_)
        refine NJ_if ?_ ?_
        · exact NJ_leaf hSM13
        · exact NJ_leaf hSM13
theorem fj_Scribe_readFact {D : Nat → Prop} {M : Mm} (hC : Cl D M) (hT : Tp D M) (rC : Mm → Nat → Int32 → Option (Int32 × Mm)) (rF : Mm → Nat → Int32 → Option (Int32 × Mm)) (hrC : ∀ {M : Mm} (hC : Cl D M) (hT : Tp D M) (y0 : Nat) (h0 : D y0) (y1 : Int32), FJ D M (rC M y0 y1)) (hrF : ∀ {M : Mm} (hC : Cl D M) (hT : Tp D M) (y0 : Nat) (h0 : D y0) (y1 : Int32), FJ D M (rF M y0 y1)) (a0 : Nat) (h0 : D a0) (a1 : Int32) : FJ D M (Scribe_readFact rC rF M a0 a1) := by
  unfold Scribe_readFact
  refine FJ_if ?_ ?_
  · exact fj_Scribe_readFact_J40 hT rC rF hrC hrF _ h0 _ _ (Fr.rf hC)
  · refine FJ_ck ?_
    refine FJ_bd hT (Fr.rf hC) (fun gC gT => fj_Scribe_take gC gT _ h0 _) (fun r15 M16 hFM16 => ?_)
    refine FJ_if ?_ ?_
    · exact fj_Scribe_readFact_J40 hT rC rF hrC hrF _ h0 _ _ hFM16
    · refine FJ_ck ?_
      refine FJ_bd hT hFM16 (fun gC gT => hrF gC gT _ h0 _) (fun r18 M19 hFM19 => ?_)
      refine FJ_if ?_ ?_
      · exact FJ_leaf hFM19
      · refine FJ_ck ?_
        refine FJ_bd hT hFM19 (fun gC gT => fj_Scribe_put gC gT _ h0 _) (fun r21 M22 hFM22 => ?_)
        refine FJ_if ?_ ?_
        · exact FJ_leaf hFM22
        · exact FJ_leaf hFM22
theorem nj_Scribe_readFact (rC : Mm → Nat → Int32 → Option (Int32 × Mm)) (rF : Mm → Nat → Int32 → Option (Int32 × Mm)) (hrC : ∀ (M : Mm) (y0 : Nat) (y1 : Int32), NJ M (rC M y0 y1)) (hrF : ∀ (M : Mm) (y0 : Nat) (y1 : Int32), NJ M (rF M y0 y1)) (M : Mm) (a0 : Nat) (a1 : Int32) : NJ M (Scribe_readFact rC rF M a0 a1) := by
  unfold Scribe_readFact
  refine NJ_if ?_ ?_
  · exact nj_Scribe_readFact_J40 rC rF hrC hrF _ _ _ Sm.rf
  · refine NJ_ck ?_
    refine NJ_bd Sm.rf (nj_Scribe_take _ _ _) (fun r15 M16 hSM16 => ?_)
    refine NJ_if ?_ ?_
    · exact nj_Scribe_readFact_J40 rC rF hrC hrF _ _ _ hSM16
    · refine NJ_ck ?_
      refine NJ_bd hSM16 (hrF _ _ _) (fun r18 M19 hSM19 => ?_)
      refine NJ_if ?_ ?_
      · exact NJ_leaf hSM19
      · refine NJ_ck ?_
        refine NJ_bd hSM19 (nj_Scribe_put _ _ _) (fun r21 M22 hSM22 => ?_)
        refine NJ_if ?_ ?_
        · exact NJ_leaf hSM22
        · exact NJ_leaf hSM22
theorem fj_Scribe_readAll_B12 {D : Nat → Prop} {M0 : Mm} (hT : Tp D M0) (rF : Mm → Nat → Int32 → Option (Int32 × Mm)) (hrF : ∀ {M : Mm} (hC : Cl D M) (hT : Tp D M) (y0 : Nat) (h0 : D y0) (y1 : Int32), FJ D M (rF M y0 y1)) (k12 : Nat → Int32 → Int32 → Mm → Option (Int32 × Mm)) (hk12 : ∀ (x0 : Nat) (hx0 : D x0) (x1 : Int32) (x2 : Int32) (M : Mm) (hF : Fr D M0 M), FJ D M0 (k12 x0 x1 x2 M)) (x0 : Nat) (hx0 : D x0) (x1 : Int32) (x2 : Int32) (M : Mm) (hF : Fr D M0 M) : FJ D M0 (Scribe_readAll_B12 rF k12 x0 x1 x2 M) := by
  unfold Scribe_readAll_B12
  refine FJ_ck ?_
  refine FJ_if ?_ ?_
  · exact FJ_leaf hF
  · refine FJ_bd hT hF (fun gC gT => fj_Scribe_take gC gT _ hx0 _) (fun r5 M6 hFM6 => ?_)
    refine FJ_if ?_ ?_
    · exact FJ_leaf hFM6
    · refine FJ_ck ?_
      refine FJ_bd hT hFM6 (fun gC gT => hrF gC gT _ hx0 _) (fun r8 M9 hFM9 => ?_)
      refine FJ_if ?_ ?_
      · exact FJ_leaf hFM9
      · refine FJ_ck ?_
        refine FJ_bd hT hFM9 (fun gC gT => fj_Scribe_put gC gT _ hx0 _) (fun r11 M12 hFM12 => ?_)
        exact hk12 _ hx0 _ _ _ hFM12
theorem nj_Scribe_readAll_B12 {M0 : Mm} (rF : Mm → Nat → Int32 → Option (Int32 × Mm)) (hrF : ∀ (M : Mm) (y0 : Nat) (y1 : Int32), NJ M (rF M y0 y1)) (k12 : Nat → Int32 → Int32 → Mm → Option (Int32 × Mm)) (hk12 : ∀ (x0 : Nat) (x1 : Int32) (x2 : Int32) (M : Mm) (hS : Sm M0 M), NJ M0 (k12 x0 x1 x2 M)) (x0 : Nat) (x1 : Int32) (x2 : Int32) (M : Mm) (hS : Sm M0 M) : NJ M0 (Scribe_readAll_B12 rF k12 x0 x1 x2 M) := by
  unfold Scribe_readAll_B12
  refine NJ_ck ?_
  refine NJ_if ?_ ?_
  · exact NJ_leaf hS
  · refine NJ_bd hS (nj_Scribe_take _ _ _) (fun r5 M6 hSM6 => ?_)
    refine NJ_if ?_ ?_
    · exact NJ_leaf hSM6
    · refine NJ_ck ?_
      refine NJ_bd hSM6 (hrF _ _ _) (fun r8 M9 hSM9 => ?_)
      refine NJ_if ?_ ?_
      · exact NJ_leaf hSM9
      · refine NJ_ck ?_
        refine NJ_bd hSM9 (nj_Scribe_put _ _ _) (fun r11 M12 hSM12 => ?_)
        exact hk12 _ _ _ _ hSM12
theorem fj_Scribe_readAll_L12 {D : Nat → Prop} {M0 : Mm} (hT : Tp D M0) (rF : Mm → Nat → Int32 → Option (Int32 × Mm)) (hrF : ∀ {M : Mm} (hC : Cl D M) (hT : Tp D M) (y0 : Nat) (h0 : D y0) (y1 : Int32), FJ D M (rF M y0 y1)) : ∀ (n : Nat) (x0 : Nat) (hx0 : D x0) (x1 : Int32) (x2 : Int32) (M : Mm) (hF : Fr D M0 M), FJ D M0 (Scribe_readAll_L12 rF n x0 x1 x2 M) := by
  intro n
  induction n with
  | zero => intros; exact FJ_none
  | succ n ih => intro x0 hx0 x1 x2 M hF; exact fj_Scribe_readAll_B12 hT rF hrF _ ih x0 hx0 x1 x2 M hF
theorem nj_Scribe_readAll_L12 {M0 : Mm} (rF : Mm → Nat → Int32 → Option (Int32 × Mm)) (hrF : ∀ (M : Mm) (y0 : Nat) (y1 : Int32), NJ M (rF M y0 y1)) : ∀ (n : Nat) (x0 : Nat) (x1 : Int32) (x2 : Int32) (M : Mm) (hS : Sm M0 M), NJ M0 (Scribe_readAll_L12 rF n x0 x1 x2 M) := by
  intro n
  induction n with
  | zero => intros; exact NJ_none
  | succ n ih => intro x0 x1 x2 M hS; exact nj_Scribe_readAll_B12 rF hrF _ ih x0 x1 x2 M hS
theorem fj_Scribe_readAll {D : Nat → Prop} {M : Mm} (hC : Cl D M) (hT : Tp D M) (rF : Mm → Nat → Int32 → Option (Int32 × Mm)) (hrF : ∀ {M : Mm} (hC : Cl D M) (hT : Tp D M) (y0 : Nat) (h0 : D y0) (y1 : Int32), FJ D M (rF M y0 y1)) (a0 : Nat) (h0 : D a0) (a1 : Int32) : FJ D M (Scribe_readAll rF M a0 a1) := by
  unfold Scribe_readAll
  refine FJ_ck ?_
  refine FJ_bd hT (Fr.rf hC) (fun gC gT => hrF gC gT _ h0 _) (fun r2 M3 hFM3 => ?_)
  refine FJ_if ?_ ?_
  · exact FJ_leaf hFM3
  · exact fj_Scribe_readAll_L12 hT rF hrF fu _ h0 _ _ _ hFM3
theorem nj_Scribe_readAll (rF : Mm → Nat → Int32 → Option (Int32 × Mm)) (hrF : ∀ (M : Mm) (y0 : Nat) (y1 : Int32), NJ M (rF M y0 y1)) (M : Mm) (a0 : Nat) (a1 : Int32) : NJ M (Scribe_readAll rF M a0 a1) := by
  unfold Scribe_readAll
  refine NJ_ck ?_
  refine NJ_bd Sm.rf (hrF _ _ _) (fun r2 M3 hSM3 => ?_)
  refine NJ_if ?_ ?_
  · exact NJ_leaf hSM3
  · exact nj_Scribe_readAll_L12 rF hrF fu _ _ _ _ hSM3
theorem fj_Scribe_readCondition_B12 {D : Nat → Prop} {M0 : Mm} (hT : Tp D M0) (rA : Mm → Nat → Int32 → Option (Int32 × Mm)) (hrA : ∀ {M : Mm} (hC : Cl D M) (hT : Tp D M) (y0 : Nat) (h0 : D y0) (y1 : Int32), FJ D M (rA M y0 y1)) (k12 : Nat → Int32 → Int32 → Mm → Option (Int32 × Mm)) (hk12 : ∀ (x0 : Nat) (hx0 : D x0) (x1 : Int32) (x2 : Int32) (M : Mm) (hF : Fr D M0 M), FJ D M0 (k12 x0 x1 x2 M)) (x0 : Nat) (hx0 : D x0) (x1 : Int32) (x2 : Int32) (M : Mm) (hF : Fr D M0 M) : FJ D M0 (Scribe_readCondition_B12 rA k12 x0 x1 x2 M) := by
  unfold Scribe_readCondition_B12
  refine FJ_ck ?_
  refine FJ_if ?_ ?_
  · exact FJ_leaf hF
  · refine FJ_bd hT hF (fun gC gT => fj_Scribe_take gC gT _ hx0 _) (fun r5 M6 hFM6 => ?_)
    refine FJ_if ?_ ?_
    · exact FJ_leaf hFM6
    · refine FJ_ck ?_
      refine FJ_bd hT hFM6 (fun gC gT => hrA gC gT _ hx0 _) (fun r8 M9 hFM9 => ?_)
      refine FJ_if ?_ ?_
      · exact FJ_leaf hFM9
      · refine FJ_ck ?_
        refine FJ_bd hT hFM9 (fun gC gT => fj_Scribe_put gC gT _ hx0 _) (fun r11 M12 hFM12 => ?_)
        exact hk12 _ hx0 _ _ _ hFM12
theorem nj_Scribe_readCondition_B12 {M0 : Mm} (rA : Mm → Nat → Int32 → Option (Int32 × Mm)) (hrA : ∀ (M : Mm) (y0 : Nat) (y1 : Int32), NJ M (rA M y0 y1)) (k12 : Nat → Int32 → Int32 → Mm → Option (Int32 × Mm)) (hk12 : ∀ (x0 : Nat) (x1 : Int32) (x2 : Int32) (M : Mm) (hS : Sm M0 M), NJ M0 (k12 x0 x1 x2 M)) (x0 : Nat) (x1 : Int32) (x2 : Int32) (M : Mm) (hS : Sm M0 M) : NJ M0 (Scribe_readCondition_B12 rA k12 x0 x1 x2 M) := by
  unfold Scribe_readCondition_B12
  refine NJ_ck ?_
  refine NJ_if ?_ ?_
  · exact NJ_leaf hS
  · refine NJ_bd hS (nj_Scribe_take _ _ _) (fun r5 M6 hSM6 => ?_)
    refine NJ_if ?_ ?_
    · exact NJ_leaf hSM6
    · refine NJ_ck ?_
      refine NJ_bd hSM6 (hrA _ _ _) (fun r8 M9 hSM9 => ?_)
      refine NJ_if ?_ ?_
      · exact NJ_leaf hSM9
      · refine NJ_ck ?_
        refine NJ_bd hSM9 (nj_Scribe_put _ _ _) (fun r11 M12 hSM12 => ?_)
        exact hk12 _ _ _ _ hSM12
theorem fj_Scribe_readCondition_L12 {D : Nat → Prop} {M0 : Mm} (hT : Tp D M0) (rA : Mm → Nat → Int32 → Option (Int32 × Mm)) (hrA : ∀ {M : Mm} (hC : Cl D M) (hT : Tp D M) (y0 : Nat) (h0 : D y0) (y1 : Int32), FJ D M (rA M y0 y1)) : ∀ (n : Nat) (x0 : Nat) (hx0 : D x0) (x1 : Int32) (x2 : Int32) (M : Mm) (hF : Fr D M0 M), FJ D M0 (Scribe_readCondition_L12 rA n x0 x1 x2 M) := by
  intro n
  induction n with
  | zero => intros; exact FJ_none
  | succ n ih => intro x0 hx0 x1 x2 M hF; exact fj_Scribe_readCondition_B12 hT rA hrA _ ih x0 hx0 x1 x2 M hF
theorem nj_Scribe_readCondition_L12 {M0 : Mm} (rA : Mm → Nat → Int32 → Option (Int32 × Mm)) (hrA : ∀ (M : Mm) (y0 : Nat) (y1 : Int32), NJ M (rA M y0 y1)) : ∀ (n : Nat) (x0 : Nat) (x1 : Int32) (x2 : Int32) (M : Mm) (hS : Sm M0 M), NJ M0 (Scribe_readCondition_L12 rA n x0 x1 x2 M) := by
  intro n
  induction n with
  | zero => intros; exact NJ_none
  | succ n ih => intro x0 x1 x2 M hS; exact nj_Scribe_readCondition_B12 rA hrA _ ih x0 x1 x2 M hS
theorem fj_Scribe_readCondition {D : Nat → Prop} {M : Mm} (hC : Cl D M) (hT : Tp D M) (rA : Mm → Nat → Int32 → Option (Int32 × Mm)) (hrA : ∀ {M : Mm} (hC : Cl D M) (hT : Tp D M) (y0 : Nat) (h0 : D y0) (y1 : Int32), FJ D M (rA M y0 y1)) (a0 : Nat) (h0 : D a0) (a1 : Int32) : FJ D M (Scribe_readCondition rA M a0 a1) := by
  unfold Scribe_readCondition
  refine FJ_ck ?_
  refine FJ_bd hT (Fr.rf hC) (fun gC gT => hrA gC gT _ h0 _) (fun r2 M3 hFM3 => ?_)
  refine FJ_if ?_ ?_
  · exact FJ_leaf hFM3
  · exact fj_Scribe_readCondition_L12 hT rA hrA fu _ h0 _ _ _ hFM3
theorem nj_Scribe_readCondition (rA : Mm → Nat → Int32 → Option (Int32 × Mm)) (hrA : ∀ (M : Mm) (y0 : Nat) (y1 : Int32), NJ M (rA M y0 y1)) (M : Mm) (a0 : Nat) (a1 : Int32) : NJ M (Scribe_readCondition rA M a0 a1) := by
  unfold Scribe_readCondition
  refine NJ_ck ?_
  refine NJ_bd Sm.rf (hrA _ _ _) (fun r2 M3 hSM3 => ?_)
  refine NJ_if ?_ ?_
  · exact NJ_leaf hSM3
  · exact nj_Scribe_readCondition_L12 rA hrA fu _ _ _ _ hSM3
theorem fj_Scribe_tF {D : Nat → Prop} : ∀ (n : Nat) {M : Mm} (hC : Cl D M) (hT : Tp D M) (a0 : Nat) (h0 : D a0) (a1 : Int32), FJ D M (Scribe_tF n M a0 a1) := by
  intro n
  induction n with
  | zero => intros; exact FJ_none
  | succ n ih =>
    intro M hC hT a0 h0 a1
    exact fj_Scribe_readFact hC hT _ _ (fun hC hT y0 h0 y1 => fj_Scribe_readCondition hC hT _ (fun hC hT y0 h0 y1 => fj_Scribe_readAll hC hT _ ih y0 h0 y1) y0 h0 y1) ih a0 h0 a1
theorem fj_Scribe_tC {D : Nat → Prop} {M : Mm} (hC : Cl D M) (hT : Tp D M) (a0 : Nat) (h0 : D a0) (a1 : Int32) : FJ D M (Scribe_tC M a0 a1) :=
  fj_Scribe_readCondition hC hT _ (fun hC hT y0 h0 y1 => fj_Scribe_readAll hC hT _ (fj_Scribe_tF 12) y0 h0 y1) a0 h0 a1
theorem nj_Scribe_tF : ∀ (n : Nat) (M : Mm) (a0 : Nat) (a1 : Int32), NJ M (Scribe_tF n M a0 a1) := by
  intro n
  induction n with
  | zero => intros; exact NJ_none
  | succ n ih =>
    intro M a0 a1
    exact nj_Scribe_readFact _ _ (fun M y0 y1 => nj_Scribe_readCondition _ (fun M y0 y1 => nj_Scribe_readAll _ ih M y0 y1) M y0 y1) ih M a0 a1
theorem nj_Scribe_tC (M : Mm) (a0 : Nat) (a1 : Int32) : NJ M (Scribe_tC M a0 a1) :=
  nj_Scribe_readCondition _ (fun M y0 y1 => nj_Scribe_readAll _ (nj_Scribe_tF 12) M y0 y1) M a0 a1

theorem fj_Scribe_new {D : Nat → Prop} {M : Mm} (hC : Cl D M) (hT : Tp D M) (a0 : Nat) (h0 : D a0) : FJ D M (Scribe_new M a0) := by
  unfold Scribe_new
  refine FJ_ck ?_
  refine FJ_ck ?_
  refine FJ_ck ?_
  refine FJ_ck ?_
  refine FJ_ck ?_
  refine FJ_ck ?_
  refine FJ_ck ?_
  exact FJ_leaf (Fr_sRs (Fr_nw hT (Fr_sRs (Fr_nw hT (Fr_sRs (Fr_nw hT (Fr_sRs (Fr_nw hT (Fr_sRs (Fr_nw hT (Fr_sRs (Fr_nw hT (Fr_sRs (Fr_nw hT (Fr.rf hC)) h0 (hT _ (Fr.z (Fr.rf hC))))) h0 (hT _ (Fr.z (Fr_sRs (Fr_nw hT (Fr.rf hC)) h0 (hT _ (Fr.z (Fr.rf hC)))))))) h0 (hT _ (Fr.z (Fr_sRs (Fr_nw hT (Fr_sRs (Fr_nw hT (Fr.rf hC)) h0 (hT _ (Fr.z (Fr.rf hC))))) h0 (hT _ (Fr.z (Fr_sRs (Fr_nw hT (Fr.rf hC)) h0 (hT _ (Fr.z (Fr.rf hC))))))))))) h0 (hT _ (Fr.z (Fr_sRs (Fr_nw hT (Fr_sRs (Fr_nw hT (Fr_sRs (Fr_nw hT (Fr.rf hC)) h0 (hT _ (Fr.z (Fr.rf hC))))) h0 (hT _ (Fr.z (Fr_sRs (Fr_nw hT (Fr.rf hC)) h0 (hT _ (Fr.z (Fr.rf hC)))))))) h0 (hT _ (Fr.z (Fr_sRs (Fr_nw hT (Fr_sRs (Fr_nw hT (Fr.rf hC)) h0 (hT _ (Fr.z (Fr.rf hC))))) h0 (hT _ (Fr.z (Fr_sRs (Fr_nw hT (Fr.rf hC)) h0 (hT _ (Fr.z (Fr.rf hC)))))))))))))) h0 (hT _ (Fr.z (Fr_sRs (Fr_nw hT (Fr_sRs (Fr_nw hT (Fr_sRs (Fr_nw hT (Fr_sRs (Fr_nw hT (Fr.rf hC)) h0 (hT _ (Fr.z (Fr.rf hC))))) h0 (hT _ (Fr.z (Fr_sRs (Fr_nw hT (Fr.rf hC)) h0 (hT _ (Fr.z (Fr.rf hC)))))))) h0 (hT _ (Fr.z (Fr_sRs (Fr_nw hT (Fr_sRs (Fr_nw hT (Fr.rf hC)) h0 (hT _ (Fr.z (Fr.rf hC))))) h0 (hT _ (Fr.z (Fr_sRs (Fr_nw hT (Fr.rf hC)) h0 (hT _ (Fr.z (Fr.rf hC))))))))))) h0 (hT _ (Fr.z (Fr_sRs (Fr_nw hT (Fr_sRs (Fr_nw hT (Fr_sRs (Fr_nw hT (Fr.rf hC)) h0 (hT _ (Fr.z (Fr.rf hC))))) h0 (hT _ (Fr.z (Fr_sRs (Fr_nw hT (Fr.rf hC)) h0 (hT _ (Fr.z (Fr.rf hC)))))))) h0 (hT _ (Fr.z (Fr_sRs (Fr_nw hT (Fr_sRs (Fr_nw hT (Fr.rf hC)) h0 (hT _ (Fr.z (Fr.rf hC))))) h0 (hT _ (Fr.z (Fr_sRs (Fr_nw hT (Fr.rf hC)) h0 (hT _ (Fr.z (Fr.rf hC))))))))))))))))) h0 (hT _ (Fr.z (Fr_sRs (Fr_nw hT (Fr_sRs (Fr_nw hT (Fr_sRs (Fr_nw hT (Fr_sRs (Fr_nw hT (Fr_sRs (Fr_nw hT (Fr.rf hC)) h0 (hT _ (Fr.z (Fr.rf hC))))) h0 (hT _ (Fr.z (Fr_sRs (Fr_nw hT (Fr.rf hC)) h0 (hT _ (Fr.z (Fr.rf hC)))))))) h0 (hT _ (Fr.z (Fr_sRs (Fr_nw hT (Fr_sRs (Fr_nw hT (Fr.rf hC)) h0 (hT _ (Fr.z (Fr.rf hC))))) h0 (hT _ (Fr.z (Fr_sRs (Fr_nw hT (Fr.rf hC)) h0 (hT _ (Fr.z (Fr.rf hC))))))))))) h0 (hT _ (Fr.z (Fr_sRs (Fr_nw hT (Fr_sRs (Fr_nw hT (Fr_sRs (Fr_nw hT (Fr.rf hC)) h0 (hT _ (Fr.z (Fr.rf hC))))) h0 (hT _ (Fr.z (Fr_sRs (Fr_nw hT (Fr.rf hC)) h0 (hT _ (Fr.z (Fr.rf hC)))))))) h0 (hT _ (Fr.z (Fr_sRs (Fr_nw hT (Fr_sRs (Fr_nw hT (Fr.rf hC)) h0 (hT _ (Fr.z (Fr.rf hC))))) h0 (hT _ (Fr.z (Fr_sRs (Fr_nw hT (Fr.rf hC)) h0 (hT _ (Fr.z (Fr.rf hC)))))))))))))) h0 (hT _ (Fr.z (Fr_sRs (Fr_nw hT (Fr_sRs (Fr_nw hT (Fr_sRs (Fr_nw hT (Fr_sRs (Fr_nw hT (Fr.rf hC)) h0 (hT _ (Fr.z (Fr.rf hC))))) h0 (hT _ (Fr.z (Fr_sRs (Fr_nw hT (Fr.rf hC)) h0 (hT _ (Fr.z (Fr.rf hC)))))))) h0 (hT _ (Fr.z (Fr_sRs (Fr_nw hT (Fr_sRs (Fr_nw hT (Fr.rf hC)) h0 (hT _ (Fr.z (Fr.rf hC))))) h0 (hT _ (Fr.z (Fr_sRs (Fr_nw hT (Fr.rf hC)) h0 (hT _ (Fr.z (Fr.rf hC))))))))))) h0 (hT _ (Fr.z (Fr_sRs (Fr_nw hT (Fr_sRs (Fr_nw hT (Fr_sRs (Fr_nw hT (Fr.rf hC)) h0 (hT _ (Fr.z (Fr.rf hC))))) h0 (hT _ (Fr.z (Fr_sRs (Fr_nw hT (Fr.rf hC)) h0 (hT _ (Fr.z (Fr.rf hC)))))))) h0 (hT _ (Fr.z (Fr_sRs (Fr_nw hT (Fr_sRs (Fr_nw hT (Fr.rf hC)) h0 (hT _ (Fr.z (Fr.rf hC))))) h0 (hT _ (Fr.z (Fr_sRs (Fr_nw hT (Fr.rf hC)) h0 (hT _ (Fr.z (Fr.rf hC)))))))))))))))))))) h0 (hT _ (Fr.z (Fr_sRs (Fr_nw hT (Fr_sRs (Fr_nw hT (Fr_sRs (Fr_nw hT (Fr_sRs (Fr_nw hT (Fr_sRs (Fr_nw hT (Fr_sRs (Fr_nw hT (Fr.rf hC)) h0 (hT _ (Fr.z (Fr.rf hC))))) h0 (hT _ (Fr.z (Fr_sRs (Fr_nw hT (Fr.rf hC)) h0 (hT _ (Fr.z (Fr.rf hC)))))))) h0 (hT _ (Fr.z (Fr_sRs (Fr_nw hT (Fr_sRs (Fr_nw hT (Fr.rf hC)) h0 (hT _ (Fr.z (Fr.rf hC))))) h0 (hT _ (Fr.z (Fr_sRs (Fr_nw hT (Fr.rf hC)) h0 (hT _ (Fr.z (Fr.rf hC))))))))))) h0 (hT _ (Fr.z (Fr_sRs (Fr_nw hT (Fr_sRs (Fr_nw hT (Fr_sRs (Fr_nw hT (Fr.rf hC)) h0 (hT _ (Fr.z (Fr.rf hC))))) h0 (hT _ (Fr.z (Fr_sRs (Fr_nw hT (Fr.rf hC)) h0 (hT _ (Fr.z (Fr.rf hC)))))))) h0 (hT _ (Fr.z (Fr_sRs (Fr_nw hT (Fr_sRs (Fr_nw hT (Fr.rf hC)) h0 (hT _ (Fr.z (Fr.rf hC))))) h0 (hT _ (Fr.z (Fr_sRs (Fr_nw hT (Fr.rf hC)) h0 (hT _ (Fr.z (Fr.rf hC)))))))))))))) h0 (hT _ (Fr.z (Fr_sRs (Fr_nw hT (Fr_sRs (Fr_nw hT (Fr_sRs (Fr_nw hT (Fr_sRs (Fr_nw hT (Fr.rf hC)) h0 (hT _ (Fr.z (Fr.rf hC))))) h0 (hT _ (Fr.z (Fr_sRs (Fr_nw hT (Fr.rf hC)) h0 (hT _ (Fr.z (Fr.rf hC)))))))) h0 (hT _ (Fr.z (Fr_sRs (Fr_nw hT (Fr_sRs (Fr_nw hT (Fr.rf hC)) h0 (hT _ (Fr.z (Fr.rf hC))))) h0 (hT _ (Fr.z (Fr_sRs (Fr_nw hT (Fr.rf hC)) h0 (hT _ (Fr.z (Fr.rf hC))))))))))) h0 (hT _ (Fr.z (Fr_sRs (Fr_nw hT (Fr_sRs (Fr_nw hT (Fr_sRs (Fr_nw hT (Fr.rf hC)) h0 (hT _ (Fr.z (Fr.rf hC))))) h0 (hT _ (Fr.z (Fr_sRs (Fr_nw hT (Fr.rf hC)) h0 (hT _ (Fr.z (Fr.rf hC)))))))) h0 (hT _ (Fr.z (Fr_sRs (Fr_nw hT (Fr_sRs (Fr_nw hT (Fr.rf hC)) h0 (hT _ (Fr.z (Fr.rf hC))))) h0 (hT _ (Fr.z (Fr_sRs (Fr_nw hT (Fr.rf hC)) h0 (hT _ (Fr.z (Fr.rf hC))))))))))))))))) h0 (hT _ (Fr.z (Fr_sRs (Fr_nw hT (Fr_sRs (Fr_nw hT (Fr_sRs (Fr_nw hT (Fr_sRs (Fr_nw hT (Fr_sRs (Fr_nw hT (Fr.rf hC)) h0 (hT _ (Fr.z (Fr.rf hC))))) h0 (hT _ (Fr.z (Fr_sRs (Fr_nw hT (Fr.rf hC)) h0 (hT _ (Fr.z (Fr.rf hC)))))))) h0 (hT _ (Fr.z (Fr_sRs (Fr_nw hT (Fr_sRs (Fr_nw hT (Fr.rf hC)) h0 (hT _ (Fr.z (Fr.rf hC))))) h0 (hT _ (Fr.z (Fr_sRs (Fr_nw hT (Fr.rf hC)) h0 (hT _ (Fr.z (Fr.rf hC))))))))))) h0 (hT _ (Fr.z (Fr_sRs (Fr_nw hT (Fr_sRs (Fr_nw hT (Fr_sRs (Fr_nw hT (Fr.rf hC)) h0 (hT _ (Fr.z (Fr.rf hC))))) h0 (hT _ (Fr.z (Fr_sRs (Fr_nw hT (Fr.rf hC)) h0 (hT _ (Fr.z (Fr.rf hC)))))))) h0 (hT _ (Fr.z (Fr_sRs (Fr_nw hT (Fr_sRs (Fr_nw hT (Fr.rf hC)) h0 (hT _ (Fr.z (Fr.rf hC))))) h0 (hT _ (Fr.z (Fr_sRs (Fr_nw hT (Fr.rf hC)) h0 (hT _ (Fr.z (Fr.rf hC)))))))))))))) h0 (hT _ (Fr.z (Fr_sRs (Fr_nw hT (Fr_sRs (Fr_nw hT (Fr_sRs (Fr_nw hT (Fr_sRs (Fr_nw hT (Fr.rf hC)) h0 (hT _ (Fr.z (Fr.rf hC))))) h0 (hT _ (Fr.z (Fr_sRs (Fr_nw hT (Fr.rf hC)) h0 (hT _ (Fr.z (Fr.rf hC)))))))) h0 (hT _ (Fr.z (Fr_sRs (Fr_nw hT (Fr_sRs (Fr_nw hT (Fr.rf hC)) h0 (hT _ (Fr.z (Fr.rf hC))))) h0 (hT _ (Fr.z (Fr_sRs (Fr_nw hT (Fr.rf hC)) h0 (hT _ (Fr.z (Fr.rf hC))))))))))) h0 (hT _ (Fr.z (Fr_sRs (Fr_nw hT (Fr_sRs (Fr_nw hT (Fr_sRs (Fr_nw hT (Fr.rf hC)) h0 (hT _ (Fr.z (Fr.rf hC))))) h0 (hT _ (Fr.z (Fr_sRs (Fr_nw hT (Fr.rf hC)) h0 (hT _ (Fr.z (Fr.rf hC)))))))) h0 (hT _ (Fr.z (Fr_sRs (Fr_nw hT (Fr_sRs (Fr_nw hT (Fr.rf hC)) h0 (hT _ (Fr.z (Fr.rf hC))))) h0 (hT _ (Fr.z (Fr_sRs (Fr_nw hT (Fr.rf hC)) h0 (hT _ (Fr.z (Fr.rf hC))))))))))))))))))))))
theorem fj_Scribe_isLetter {D : Nat → Prop} {M : Mm} (hC : Cl D M) (hT : Tp D M) (a0 : Int32) : FJ D M (Scribe_isLetter M a0) := by
  unfold Scribe_isLetter
  refine FJ_if ?_ ?_
  · exact FJ_leaf (Fr.rf hC)
  · refine FJ_if ?_ ?_
    · exact FJ_leaf (Fr.rf hC)
    · exact FJ_leaf (Fr.rf hC)
theorem nj_Scribe_isLetter (M : Mm) (a0 : Int32) : NJ M (Scribe_isLetter M a0) := by
  unfold Scribe_isLetter
  refine NJ_if ?_ ?_
  · exact NJ_leaf Sm.rf
  · refine NJ_if ?_ ?_
    · exact NJ_leaf Sm.rf
    · exact NJ_leaf Sm.rf
theorem fj_Scribe_isDigit {D : Nat → Prop} {M : Mm} (hC : Cl D M) (hT : Tp D M) (a0 : Int32) : FJ D M (Scribe_isDigit M a0) := by
  unfold Scribe_isDigit
  refine FJ_if ?_ ?_
  · exact FJ_leaf (Fr.rf hC)
  · refine FJ_if ?_ ?_
    · exact FJ_leaf (Fr.rf hC)
    · exact FJ_leaf (Fr.rf hC)
theorem nj_Scribe_isDigit (M : Mm) (a0 : Int32) : NJ M (Scribe_isDigit M a0) := by
  unfold Scribe_isDigit
  refine NJ_if ?_ ?_
  · exact NJ_leaf Sm.rf
  · refine NJ_if ?_ ?_
    · exact NJ_leaf Sm.rf
    · exact NJ_leaf Sm.rf
theorem fj_Scribe_tokenEnd_B42 {D : Nat → Prop} {M0 : Mm} (hT : Tp D M0) (k42 : Nat → Int32 → Int32 → Mm → Option (Int32 × Mm)) (hk42 : ∀ (x0 : Nat) (hx0 : D x0) (x2 : Int32) (x3 : Int32) (M : Mm) (hF : Fr D M0 M), FJ D M0 (k42 x0 x2 x3 M)) (x0 : Nat) (hx0 : D x0) (x2 : Int32) (x3 : Int32) (M : Mm) (hF : Fr D M0 M) : FJ D M0 (Scribe_tokenEnd_B42 k42 x0 x2 x3 M) := by
  unfold Scribe_tokenEnd_B42
  refine FJ_if ?_ ?_
  · exact FJ_leaf hF
  · refine FJ_ck ?_
    refine FJ_bd hT hF (fun gC gT => fj_Scribe_isDigit gC gT _) (fun r9 M10 hFM10 => ?_)
    refine FJ_if ?_ ?_
    · exact FJ_leaf hFM10
    · exact hk42 _ hx0 _ _ _ hFM10
theorem nj_Scribe_tokenEnd_B42 {M0 : Mm} (k42 : Nat → Int32 → Int32 → Mm → Option (Int32 × Mm)) (hk42 : ∀ (x0 : Nat) (x2 : Int32) (x3 : Int32) (M : Mm) (hS : Sm M0 M), NJ M0 (k42 x0 x2 x3 M)) (x0 : Nat) (x2 : Int32) (x3 : Int32) (M : Mm) (hS : Sm M0 M) : NJ M0 (Scribe_tokenEnd_B42 k42 x0 x2 x3 M) := by
  unfold Scribe_tokenEnd_B42
  refine NJ_if ?_ ?_
  · exact NJ_leaf hS
  · refine NJ_ck ?_
    refine NJ_bd hS (nj_Scribe_isDigit _ _) (fun r9 M10 hSM10 => ?_)
    refine NJ_if ?_ ?_
    · exact NJ_leaf hSM10
    · exact hk42 _ _ _ _ hSM10
theorem fj_Scribe_tokenEnd_L42 {D : Nat → Prop} {M0 : Mm} (hT : Tp D M0) : ∀ (n : Nat) (x0 : Nat) (hx0 : D x0) (x2 : Int32) (x3 : Int32) (M : Mm) (hF : Fr D M0 M), FJ D M0 (Scribe_tokenEnd_L42 n x0 x2 x3 M) := by
  intro n
  induction n with
  | zero => intros; exact FJ_none
  | succ n ih => intro x0 hx0 x2 x3 M hF; exact fj_Scribe_tokenEnd_B42 hT _ ih x0 hx0 x2 x3 M hF
theorem nj_Scribe_tokenEnd_L42 {M0 : Mm} : ∀ (n : Nat) (x0 : Nat) (x2 : Int32) (x3 : Int32) (M : Mm) (hS : Sm M0 M), NJ M0 (Scribe_tokenEnd_L42 n x0 x2 x3 M) := by
  intro n
  induction n with
  | zero => intros; exact NJ_none
  | succ n ih => intro x0 x2 x3 M hS; exact nj_Scribe_tokenEnd_B42 _ ih x0 x2 x3 M hS
theorem fj_Scribe_tokenEnd_B13 {D : Nat → Prop} {M0 : Mm} (hT : Tp D M0) (k13 : Nat → Int32 → Int32 → Mm → Option (Int32 × Mm)) (hk13 : ∀ (x0 : Nat) (hx0 : D x0) (x2 : Int32) (x3 : Int32) (M : Mm) (hF : Fr D M0 M), FJ D M0 (k13 x0 x2 x3 M)) (x0 : Nat) (hx0 : D x0) (x2 : Int32) (x3 : Int32) (M : Mm) (hF : Fr D M0 M) : FJ D M0 (Scribe_tokenEnd_B13 k13 x0 x2 x3 M) := by
  unfold Scribe_tokenEnd_B13
  refine FJ_if ?_ ?_
  · exact FJ_leaf hF
  · refine FJ_ck ?_
    refine FJ_bd hT hF (fun gC gT => fj_Scribe_isLetter gC gT _) (fun r13 M14 hFM14 => ?_)
    refine FJ_if ?_ ?_
    · exact FJ_leaf hFM14
    · exact hk13 _ hx0 _ _ _ hFM14
theorem nj_Scribe_tokenEnd_B13 {M0 : Mm} (k13 : Nat → Int32 → Int32 → Mm → Option (Int32 × Mm)) (hk13 : ∀ (x0 : Nat) (x2 : Int32) (x3 : Int32) (M : Mm) (hS : Sm M0 M), NJ M0 (k13 x0 x2 x3 M)) (x0 : Nat) (x2 : Int32) (x3 : Int32) (M : Mm) (hS : Sm M0 M) : NJ M0 (Scribe_tokenEnd_B13 k13 x0 x2 x3 M) := by
  unfold Scribe_tokenEnd_B13
  refine NJ_if ?_ ?_
  · exact NJ_leaf hS
  · refine NJ_ck ?_
    refine NJ_bd hS (nj_Scribe_isLetter _ _) (fun r13 M14 hSM14 => ?_)
    refine NJ_if ?_ ?_
    · exact NJ_leaf hSM14
    · exact hk13 _ _ _ _ hSM14
theorem fj_Scribe_tokenEnd_L13 {D : Nat → Prop} {M0 : Mm} (hT : Tp D M0) : ∀ (n : Nat) (x0 : Nat) (hx0 : D x0) (x2 : Int32) (x3 : Int32) (M : Mm) (hF : Fr D M0 M), FJ D M0 (Scribe_tokenEnd_L13 n x0 x2 x3 M) := by
  intro n
  induction n with
  | zero => intros; exact FJ_none
  | succ n ih => intro x0 hx0 x2 x3 M hF; exact fj_Scribe_tokenEnd_B13 hT _ ih x0 hx0 x2 x3 M hF
theorem nj_Scribe_tokenEnd_L13 {M0 : Mm} : ∀ (n : Nat) (x0 : Nat) (x2 : Int32) (x3 : Int32) (M : Mm) (hS : Sm M0 M), NJ M0 (Scribe_tokenEnd_L13 n x0 x2 x3 M) := by
  intro n
  induction n with
  | zero => intros; exact NJ_none
  | succ n ih => intro x0 x2 x3 M hS; exact nj_Scribe_tokenEnd_B13 _ ih x0 x2 x3 M hS
theorem fj_Scribe_tokenEnd {D : Nat → Prop} {M : Mm} (hC : Cl D M) (hT : Tp D M) (a0 : Nat) (h0 : D a0) (a1 : Int32) (a2 : Int32) : FJ D M (Scribe_tokenEnd M a0 a1 a2) := by
  unfold Scribe_tokenEnd
  refine FJ_ck ?_
  refine FJ_bd hT (Fr.rf hC) (fun gC gT => fj_Scribe_isLetter gC gT _) (fun r3 M4 hFM4 => ?_)
  refine FJ_if ?_ ?_
  · refine FJ_ck ?_
    refine FJ_bd hT hFM4 (fun gC gT => fj_Scribe_isDigit gC gT _) (fun r6 M7 hFM7 => ?_)
    refine FJ_if ?_ ?_
    · exact FJ_leaf hFM7
    · exact fj_Scribe_tokenEnd_L42 hT fu _ h0 _ _ _ hFM7
  · exact fj_Scribe_tokenEnd_L13 hT fu _ h0 _ _ _ hFM4
theorem nj_Scribe_tokenEnd (M : Mm) (a0 : Nat) (a1 : Int32) (a2 : Int32) : NJ M (Scribe_tokenEnd M a0 a1 a2) := by
  unfold Scribe_tokenEnd
  refine NJ_ck ?_
  refine NJ_bd Sm.rf (nj_Scribe_isLetter _ _) (fun r3 M4 hSM4 => ?_)
  refine NJ_if ?_ ?_
  · refine NJ_ck ?_
    refine NJ_bd hSM4 (nj_Scribe_isDigit _ _) (fun r6 M7 hSM7 => ?_)
    refine NJ_if ?_ ?_
    · exact NJ_leaf hSM7
    · exact nj_Scribe_tokenEnd_L42 fu _ _ _ _ hSM7
  · exact nj_Scribe_tokenEnd_L13 fu _ _ _ _ hSM4
theorem fj_Scribe_isSame_B3 {D : Nat → Prop} {M0 : Mm} (hT : Tp D M0) (k3 : Nat → Int32 → Int32 → Int32 → Int32 → Mm → Option (Int32 × Mm)) (hk3 : ∀ (x0 : Nat) (hx0 : D x0) (x1 : Int32) (x2 : Int32) (x3 : Int32) (x4 : Int32) (M : Mm) (hF : Fr D M0 M), FJ D M0 (k3 x0 x1 x2 x3 x4 M)) (x0 : Nat) (hx0 : D x0) (x1 : Int32) (x2 : Int32) (x3 : Int32) (x4 : Int32) (M : Mm) (hF : Fr D M0 M) : FJ D M0 (Scribe_isSame_B3 k3 x0 x1 x2 x3 x4 M) := by
  unfold Scribe_isSame_B3
  refine FJ_if ?_ ?_
  · exact FJ_leaf hF
  · refine FJ_bd hT hF (fun gC gT => fj_Str_chr 0 _ gC gT _) (fun r1 M2 hFM2 => ?_)
    refine FJ_ck ?_
    refine FJ_if ?_ ?_
    · exact hk3 _ hx0 _ _ _ _ _ hFM2
    · exact FJ_leaf hFM2
theorem nj_Scribe_isSame_B3 {M0 : Mm} (k3 : Nat → Int32 → Int32 → Int32 → Int32 → Mm → Option (Int32 × Mm)) (hk3 : ∀ (x0 : Nat) (x1 : Int32) (x2 : Int32) (x3 : Int32) (x4 : Int32) (M : Mm) (hS : Sm M0 M), NJ M0 (k3 x0 x1 x2 x3 x4 M)) (x0 : Nat) (x1 : Int32) (x2 : Int32) (x3 : Int32) (x4 : Int32) (M : Mm) (hS : Sm M0 M) : NJ M0 (Scribe_isSame_B3 k3 x0 x1 x2 x3 x4 M) := by
  unfold Scribe_isSame_B3
  refine NJ_if ?_ ?_
  · exact NJ_leaf hS
  · refine NJ_bd hS (nj_Str_chr 0 _ _) (fun r1 M2 hSM2 => ?_)
    refine NJ_ck ?_
    refine NJ_if ?_ ?_
    · exact hk3 _ _ _ _ _ _ hSM2
    · exact NJ_leaf hSM2
theorem fj_Scribe_isSame_L3 {D : Nat → Prop} {M0 : Mm} (hT : Tp D M0) : ∀ (n : Nat) (x0 : Nat) (hx0 : D x0) (x1 : Int32) (x2 : Int32) (x3 : Int32) (x4 : Int32) (M : Mm) (hF : Fr D M0 M), FJ D M0 (Scribe_isSame_L3 n x0 x1 x2 x3 x4 M) := by
  intro n
  induction n with
  | zero => intros; exact FJ_none
  | succ n ih => intro x0 hx0 x1 x2 x3 x4 M hF; exact fj_Scribe_isSame_B3 hT _ ih x0 hx0 x1 x2 x3 x4 M hF
theorem nj_Scribe_isSame_L3 {M0 : Mm} : ∀ (n : Nat) (x0 : Nat) (x1 : Int32) (x2 : Int32) (x3 : Int32) (x4 : Int32) (M : Mm) (hS : Sm M0 M), NJ M0 (Scribe_isSame_L3 n x0 x1 x2 x3 x4 M) := by
  intro n
  induction n with
  | zero => intros; exact NJ_none
  | succ n ih => intro x0 x1 x2 x3 x4 M hS; exact nj_Scribe_isSame_B3 _ ih x0 x1 x2 x3 x4 M hS
theorem fj_Scribe_isSame {D : Nat → Prop} {M : Mm} (hC : Cl D M) (hT : Tp D M) (a0 : Nat) (h0 : D a0) (a1 : Int32) (a2 : Int32) (a3 : Int32) : FJ D M (Scribe_isSame M a0 a1 a2 a3) := by
  unfold Scribe_isSame
  exact fj_Scribe_isSame_L3 hT fu _ h0 _ _ _ _ _ (Fr.rf hC)
theorem nj_Scribe_isSame (M : Mm) (a0 : Nat) (a1 : Int32) (a2 : Int32) (a3 : Int32) : NJ M (Scribe_isSame M a0 a1 a2 a3) := by
  unfold Scribe_isSame
  exact nj_Scribe_isSame_L3 fu _ _ _ _ _ _ Sm.rf
theorem fj_Scribe_wordOf_J73 {D : Nat → Prop} {M0 : Mm} (hT : Tp D M0) (k8 : Nat → Int32 → Int32 → Int32 → Int32 → Int32 → Mm → Option (Int32 × Mm)) (hk8 : ∀ (x0 : Nat) (hx0 : D x0) (x1 : Int32) (x2 : Int32) (x3 : Int32) (x4 : Int32) (x5 : Int32) (M : Mm) (hF : Fr D M0 M), FJ D M0 (k8 x0 x1 x2 x3 x4 x5 M)) (x0 : Nat) (hx0 : D x0) (x1 : Int32) (x2 : Int32) (x3 : Int32) (x4 : Int32) (x5 : Int32) (M : Mm) (hF : Fr D M0 M) : FJ D M0 (Scribe_wordOf_J73 k8 x0 x1 x2 x3 x4 x5 M) := by
  unfold Scribe_wordOf_J73
  exact hk8 _ hx0 _ _ _ _ _ _ hF
theorem nj_Scribe_wordOf_J73 {M0 : Mm} (k8 : Nat → Int32 → Int32 → Int32 → Int32 → Int32 → Mm → Option (Int32 × Mm)) (hk8 : ∀ (x0 : Nat) (x1 : Int32) (x2 : Int32) (x3 : Int32) (x4 : Int32) (x5 : Int32) (M : Mm) (hS : Sm M0 M), NJ M0 (k8 x0 x1 x2 x3 x4 x5 M)) (x0 : Nat) (x1 : Int32) (x2 : Int32) (x3 : Int32) (x4 : Int32) (x5 : Int32) (M : Mm) (hS : Sm M0 M) : NJ M0 (Scribe_wordOf_J73 k8 x0 x1 x2 x3 x4 x5 M) := by
  unfold Scribe_wordOf_J73
  exact hk8 _ _ _ _ _ _ _ hS
theorem fj_Scribe_wordOf_J64 {D : Nat → Prop} {M0 : Mm} (hT : Tp D M0) (k8 : Nat → Int32 → Int32 → Int32 → Int32 → Int32 → Mm → Option (Int32 × Mm)) (hk8 : ∀ (x0 : Nat) (hx0 : D x0) (x1 : Int32) (x2 : Int32) (x3 : Int32) (x4 : Int32) (x5 : Int32) (M : Mm) (hF : Fr D M0 M), FJ D M0 (k8 x0 x1 x2 x3 x4 x5 M)) (x0 : Nat) (hx0 : D x0) (x1 : Int32) (x2 : Int32) (x3 : Int32) (x5 : Int32) (M : Mm) (hF : Fr D M0 M) : FJ D M0 (Scribe_wordOf_J64 k8 x0 x1 x2 x3 x5 M) := by
  unfold Scribe_wordOf_J64
  exact fj_Scribe_wordOf_J73 hT k8 hk8 _ hx0 _ _ _ _ _ _ hF
theorem nj_Scribe_wordOf_J64 {M0 : Mm} (k8 : Nat → Int32 → Int32 → Int32 → Int32 → Int32 → Mm → Option (Int32 × Mm)) (hk8 : ∀ (x0 : Nat) (x1 : Int32) (x2 : Int32) (x3 : Int32) (x4 : Int32) (x5 : Int32) (M : Mm) (hS : Sm M0 M), NJ M0 (k8 x0 x1 x2 x3 x4 x5 M)) (x0 : Nat) (x1 : Int32) (x2 : Int32) (x3 : Int32) (x5 : Int32) (M : Mm) (hS : Sm M0 M) : NJ M0 (Scribe_wordOf_J64 k8 x0 x1 x2 x3 x5 M) := by
  unfold Scribe_wordOf_J64
  exact nj_Scribe_wordOf_J73 k8 hk8 _ _ _ _ _ _ _ hS
theorem fj_Scribe_wordOf_J40 {D : Nat → Prop} {M0 : Mm} (hT : Tp D M0) (k8 : Nat → Int32 → Int32 → Int32 → Int32 → Int32 → Mm → Option (Int32 × Mm)) (hk8 : ∀ (x0 : Nat) (hx0 : D x0) (x1 : Int32) (x2 : Int32) (x3 : Int32) (x4 : Int32) (x5 : Int32) (M : Mm) (hF : Fr D M0 M), FJ D M0 (k8 x0 x1 x2 x3 x4 x5 M)) (x0 : Nat) (hx0 : D x0) (x1 : Int32) (x2 : Int32) (x3 : Int32) (x4 : Int32) (x5 : Int32) (M : Mm) (hF : Fr D M0 M) : FJ D M0 (Scribe_wordOf_J40 k8 x0 x1 x2 x3 x4 x5 M) := by
  unfold Scribe_wordOf_J40
  refine FJ_if ?_ ?_
  · refine FJ_bd hT hF (fun gC gT => fj_Scribe_isSame gC gT _ hx0 _ _ _) (fun r8 M9 hFM9 => ?_)
    refine FJ_if ?_ ?_
    · exact fj_Scribe_wordOf_J64 hT k8 hk8 _ hx0 _ _ _ _ _ hFM9
    · exact FJ_leaf hFM9
  · exact fj_Scribe_wordOf_J64 hT k8 hk8 _ hx0 _ _ _ _ _ hF
theorem nj_Scribe_wordOf_J40 {M0 : Mm} (k8 : Nat → Int32 → Int32 → Int32 → Int32 → Int32 → Mm → Option (Int32 × Mm)) (hk8 : ∀ (x0 : Nat) (x1 : Int32) (x2 : Int32) (x3 : Int32) (x4 : Int32) (x5 : Int32) (M : Mm) (hS : Sm M0 M), NJ M0 (k8 x0 x1 x2 x3 x4 x5 M)) (x0 : Nat) (x1 : Int32) (x2 : Int32) (x3 : Int32) (x4 : Int32) (x5 : Int32) (M : Mm) (hS : Sm M0 M) : NJ M0 (Scribe_wordOf_J40 k8 x0 x1 x2 x3 x4 x5 M) := by
  unfold Scribe_wordOf_J40
  refine NJ_if ?_ ?_
  · refine NJ_bd hS (nj_Scribe_isSame _ _ _ _ _) (fun r8 M9 hSM9 => ?_)
    refine NJ_if ?_ ?_
    · exact nj_Scribe_wordOf_J64 k8 hk8 _ _ _ _ _ _ hSM9
    · exact NJ_leaf hSM9
  · exact nj_Scribe_wordOf_J64 k8 hk8 _ _ _ _ _ _ hS
theorem fj_Scribe_wordOf_B8 {D : Nat → Prop} {M0 : Mm} (hT : Tp D M0) (k8 : Nat → Int32 → Int32 → Int32 → Int32 → Int32 → Mm → Option (Int32 × Mm)) (hk8 : ∀ (x0 : Nat) (hx0 : D x0) (x1 : Int32) (x2 : Int32) (x3 : Int32) (x4 : Int32) (x5 : Int32) (M : Mm) (hF : Fr D M0 M), FJ D M0 (k8 x0 x1 x2 x3 x4 x5 M)) (x0 : Nat) (hx0 : D x0) (x1 : Int32) (x2 : Int32) (x3 : Int32) (x4 : Int32) (x5 : Int32) (M : Mm) (hF : Fr D M0 M) : FJ D M0 (Scribe_wordOf_B8 k8 x0 x1 x2 x3 x4 x5 M) := by
  unfold Scribe_wordOf_B8
  refine FJ_bd hT hF (fun gC gT => fj_Str_len 0 _ gC gT) (fun r1 M2 hFM2 => ?_)
  refine FJ_if ?_ ?_
  · exact FJ_leaf hFM2
  · refine FJ_bd hT hFM2 (fun gC gT => fj_Str_len 0 _ gC gT) (fun r3 M4 hFM4 => ?_)
    refine FJ_if ?_ ?_
    · exact fj_Scribe_wordOf_J40 hT k8 hk8 _ hx0 _ _ _ _ _ _ hFM4
    · refine FJ_bd hT hFM4 (fun gC gT => fj_Str_chr 0 _ gC gT _) (fun r10 M11 hFM11 => ?_)
      refine FJ_if ?_ ?_
      · exact fj_Scribe_wordOf_J40 hT k8 hk8 _ hx0 _ _ _ _ _ _ hFM11
      · exact fj_Scribe_wordOf_J73 hT k8 hk8 _ hx0 _ _ _ _ _ _ hFM11
theorem nj_Scribe_wordOf_B8 {M0 : Mm} (k8 : Nat → Int32 → Int32 → Int32 → Int32 → Int32 → Mm → Option (Int32 × Mm)) (hk8 : ∀ (x0 : Nat) (x1 : Int32) (x2 : Int32) (x3 : Int32) (x4 : Int32) (x5 : Int32) (M : Mm) (hS : Sm M0 M), NJ M0 (k8 x0 x1 x2 x3 x4 x5 M)) (x0 : Nat) (x1 : Int32) (x2 : Int32) (x3 : Int32) (x4 : Int32) (x5 : Int32) (M : Mm) (hS : Sm M0 M) : NJ M0 (Scribe_wordOf_B8 k8 x0 x1 x2 x3 x4 x5 M) := by
  unfold Scribe_wordOf_B8
  refine NJ_bd hS (nj_Str_len 0 _) (fun r1 M2 hSM2 => ?_)
  refine NJ_if ?_ ?_
  · exact NJ_leaf hSM2
  · refine NJ_bd hSM2 (nj_Str_len 0 _) (fun r3 M4 hSM4 => ?_)
    refine NJ_if ?_ ?_
    · exact nj_Scribe_wordOf_J40 k8 hk8 _ _ _ _ _ _ _ hSM4
    · refine NJ_bd hSM4 (nj_Str_chr 0 _ _) (fun r10 M11 hSM11 => ?_)
      refine NJ_if ?_ ?_
      · exact nj_Scribe_wordOf_J40 k8 hk8 _ _ _ _ _ _ _ hSM11
      · exact nj_Scribe_wordOf_J73 k8 hk8 _ _ _ _ _ _ _ hSM11
theorem fj_Scribe_wordOf_L8 {D : Nat → Prop} {M0 : Mm} (hT : Tp D M0) : ∀ (n : Nat) (x0 : Nat) (hx0 : D x0) (x1 : Int32) (x2 : Int32) (x3 : Int32) (x4 : Int32) (x5 : Int32) (M : Mm) (hF : Fr D M0 M), FJ D M0 (Scribe_wordOf_L8 n x0 x1 x2 x3 x4 x5 M) := by
  intro n
  induction n with
  | zero => intros; exact FJ_none
  | succ n ih => intro x0 hx0 x1 x2 x3 x4 x5 M hF; exact fj_Scribe_wordOf_B8 hT _ ih x0 hx0 x1 x2 x3 x4 x5 M hF
theorem nj_Scribe_wordOf_L8 {M0 : Mm} : ∀ (n : Nat) (x0 : Nat) (x1 : Int32) (x2 : Int32) (x3 : Int32) (x4 : Int32) (x5 : Int32) (M : Mm) (hS : Sm M0 M), NJ M0 (Scribe_wordOf_L8 n x0 x1 x2 x3 x4 x5 M) := by
  intro n
  induction n with
  | zero => intros; exact NJ_none
  | succ n ih => intro x0 x1 x2 x3 x4 x5 M hS; exact nj_Scribe_wordOf_B8 _ ih x0 x1 x2 x3 x4 x5 M hS
theorem fj_Scribe_wordOf {D : Nat → Prop} {M : Mm} (hC : Cl D M) (hT : Tp D M) (a0 : Nat) (h0 : D a0) (a1 : Int32) (a2 : Int32) : FJ D M (Scribe_wordOf M a0 a1 a2) := by
  unfold Scribe_wordOf
  exact fj_Scribe_wordOf_L8 hT fu _ h0 _ _ _ _ _ _ (Fr.rf hC)
theorem nj_Scribe_wordOf (M : Mm) (a0 : Nat) (a1 : Int32) (a2 : Int32) : NJ M (Scribe_wordOf M a0 a1 a2) := by
  unfold Scribe_wordOf
  exact nj_Scribe_wordOf_L8 fu _ _ _ _ _ _ _ Sm.rf
theorem fj_Scribe_kindOf_B41 {D : Nat → Prop} {M0 : Mm} (hT : Tp D M0) (k41 : Nat → Int32 → Int32 → Mm → Option (Int32 × Mm)) (hk41 : ∀ (x0 : Nat) (hx0 : D x0) (x1 : Int32) (x3 : Int32) (M : Mm) (hF : Fr D M0 M), FJ D M0 (k41 x0 x1 x3 M)) (x0 : Nat) (hx0 : D x0) (x1 : Int32) (x3 : Int32) (M : Mm) (hF : Fr D M0 M) : FJ D M0 (Scribe_kindOf_B41 k41 x0 x1 x3 M) := by
  unfold Scribe_kindOf_B41
  refine FJ_bd hT hF (fun gC gT => fj_Str_len 1 _ gC gT) (fun r7 M8 hFM8 => ?_)
  refine FJ_if ?_ ?_
  · exact FJ_leaf hFM8
  · refine FJ_bd hT hFM8 (fun gC gT => fj_Str_chr 1 _ gC gT _) (fun r9 M10 hFM10 => ?_)
    refine FJ_ck ?_
    refine FJ_if ?_ ?_
    · exact FJ_leaf hFM10
    · exact hk41 _ hx0 _ _ _ hFM10
theorem nj_Scribe_kindOf_B41 {M0 : Mm} (k41 : Nat → Int32 → Int32 → Mm → Option (Int32 × Mm)) (hk41 : ∀ (x0 : Nat) (x1 : Int32) (x3 : Int32) (M : Mm) (hS : Sm M0 M), NJ M0 (k41 x0 x1 x3 M)) (x0 : Nat) (x1 : Int32) (x3 : Int32) (M : Mm) (hS : Sm M0 M) : NJ M0 (Scribe_kindOf_B41 k41 x0 x1 x3 M) := by
  unfold Scribe_kindOf_B41
  refine NJ_bd hS (nj_Str_len 1 _) (fun r7 M8 hSM8 => ?_)
  refine NJ_if ?_ ?_
  · exact NJ_leaf hSM8
  · refine NJ_bd hSM8 (nj_Str_chr 1 _ _) (fun r9 M10 hSM10 => ?_)
    refine NJ_ck ?_
    refine NJ_if ?_ ?_
    · exact NJ_leaf hSM10
    · exact hk41 _ _ _ _ hSM10
theorem fj_Scribe_kindOf_L41 {D : Nat → Prop} {M0 : Mm} (hT : Tp D M0) : ∀ (n : Nat) (x0 : Nat) (hx0 : D x0) (x1 : Int32) (x3 : Int32) (M : Mm) (hF : Fr D M0 M), FJ D M0 (Scribe_kindOf_L41 n x0 x1 x3 M) := by
  intro n
  induction n with
  | zero => intros; exact FJ_none
  | succ n ih => intro x0 hx0 x1 x3 M hF; exact fj_Scribe_kindOf_B41 hT _ ih x0 hx0 x1 x3 M hF
theorem nj_Scribe_kindOf_L41 {M0 : Mm} : ∀ (n : Nat) (x0 : Nat) (x1 : Int32) (x3 : Int32) (M : Mm) (hS : Sm M0 M), NJ M0 (Scribe_kindOf_L41 n x0 x1 x3 M) := by
  intro n
  induction n with
  | zero => intros; exact NJ_none
  | succ n ih => intro x0 x1 x3 M hS; exact nj_Scribe_kindOf_B41 _ ih x0 x1 x3 M hS
theorem fj_Scribe_kindOf {D : Nat → Prop} {M : Mm} (hC : Cl D M) (hT : Tp D M) (a0 : Nat) (h0 : D a0) (a1 : Int32) (a2 : Int32) : FJ D M (Scribe_kindOf M a0 a1 a2) := by
  unfold Scribe_kindOf
  refine FJ_ck ?_
  refine FJ_bd hT (Fr.rf hC) (fun gC gT => fj_Scribe_isLetter gC gT _) (fun r2 M3 hFM3 => ?_)
  refine FJ_if ?_ ?_
  · refine FJ_ck ?_
    refine FJ_bd hT hFM3 (fun gC gT => fj_Scribe_isDigit gC gT _) (fun r5 M6 hFM6 => ?_)
    refine FJ_if ?_ ?_
    · exact fj_Scribe_kindOf_L41 hT fu _ h0 _ _ _ hFM6
    · refine FJ_if ?_ ?_
      · exact FJ_leaf hFM6
      · exact FJ_leaf hFM6
  · refine FJ_bd hT hFM3 (fun gC gT => fj_Scribe_wordOf gC gT _ h0 _ _) (fun r13 M14 hFM14 => ?_)
    exact FJ_leaf hFM14
theorem nj_Scribe_kindOf (M : Mm) (a0 : Nat) (a1 : Int32) (a2 : Int32) : NJ M (Scribe_kindOf M a0 a1 a2) := by
  unfold Scribe_kindOf
  refine NJ_ck ?_
  refine NJ_bd Sm.rf (nj_Scribe_isLetter _ _) (fun r2 M3 hSM3 => ?_)
  refine NJ_if ?_ ?_
  · refine NJ_ck ?_
    refine NJ_bd hSM3 (nj_Scribe_isDigit _ _) (fun r5 M6 hSM6 => ?_)
    refine NJ_if ?_ ?_
    · exact nj_Scribe_kindOf_L41 fu _ _ _ _ hSM6
    · refine NJ_if ?_ ?_
      · exact NJ_leaf hSM6
      · exact NJ_leaf hSM6
  · refine NJ_bd hSM3 (nj_Scribe_wordOf _ _ _ _) (fun r13 M14 hSM14 => ?_)
    exact NJ_leaf hSM14
theorem fj_Scribe_numberOf_B5 {D : Nat → Prop} {M0 : Mm} (hT : Tp D M0) (k5 : Nat → Int32 → Int32 → Int32 → Mm → Option (Int32 × Mm)) (hk5 : ∀ (x0 : Nat) (hx0 : D x0) (x2 : Int32) (x3 : Int32) (x4 : Int32) (M : Mm) (hF : Fr D M0 M), FJ D M0 (k5 x0 x2 x3 x4 M)) (x0 : Nat) (hx0 : D x0) (x2 : Int32) (x3 : Int32) (x4 : Int32) (M : Mm) (hF : Fr D M0 M) : FJ D M0 (Scribe_numberOf_B5 k5 x0 x2 x3 x4 M) := by
  unfold Scribe_numberOf_B5
  refine FJ_if ?_ ?_
  · exact FJ_leaf hF
  · refine FJ_ck ?_
    exact hk5 _ hx0 _ _ _ _ hF
theorem nj_Scribe_numberOf_B5 {M0 : Mm} (k5 : Nat → Int32 → Int32 → Int32 → Mm → Option (Int32 × Mm)) (hk5 : ∀ (x0 : Nat) (x2 : Int32) (x3 : Int32) (x4 : Int32) (M : Mm) (hS : Sm M0 M), NJ M0 (k5 x0 x2 x3 x4 M)) (x0 : Nat) (x2 : Int32) (x3 : Int32) (x4 : Int32) (M : Mm) (hS : Sm M0 M) : NJ M0 (Scribe_numberOf_B5 k5 x0 x2 x3 x4 M) := by
  unfold Scribe_numberOf_B5
  refine NJ_if ?_ ?_
  · exact NJ_leaf hS
  · refine NJ_ck ?_
    exact hk5 _ _ _ _ _ hS
theorem fj_Scribe_numberOf_L5 {D : Nat → Prop} {M0 : Mm} (hT : Tp D M0) : ∀ (n : Nat) (x0 : Nat) (hx0 : D x0) (x2 : Int32) (x3 : Int32) (x4 : Int32) (M : Mm) (hF : Fr D M0 M), FJ D M0 (Scribe_numberOf_L5 n x0 x2 x3 x4 M) := by
  intro n
  induction n with
  | zero => intros; exact FJ_none
  | succ n ih => intro x0 hx0 x2 x3 x4 M hF; exact fj_Scribe_numberOf_B5 hT _ ih x0 hx0 x2 x3 x4 M hF
theorem nj_Scribe_numberOf_L5 {M0 : Mm} : ∀ (n : Nat) (x0 : Nat) (x2 : Int32) (x3 : Int32) (x4 : Int32) (M : Mm) (hS : Sm M0 M), NJ M0 (Scribe_numberOf_L5 n x0 x2 x3 x4 M) := by
  intro n
  induction n with
  | zero => intros; exact NJ_none
  | succ n ih => intro x0 x2 x3 x4 M hS; exact nj_Scribe_numberOf_B5 _ ih x0 x2 x3 x4 M hS
theorem fj_Scribe_numberOf {D : Nat → Prop} {M : Mm} (hC : Cl D M) (hT : Tp D M) (a0 : Nat) (h0 : D a0) (a1 : Int32) (a2 : Int32) : FJ D M (Scribe_numberOf M a0 a1 a2) := by
  unfold Scribe_numberOf
  exact fj_Scribe_numberOf_L5 hT fu _ h0 _ _ _ _ (Fr.rf hC)
theorem nj_Scribe_numberOf (M : Mm) (a0 : Nat) (a1 : Int32) (a2 : Int32) : NJ M (Scribe_numberOf M a0 a1 a2) := by
  unfold Scribe_numberOf
  exact nj_Scribe_numberOf_L5 fu _ _ _ _ _ Sm.rf
theorem fj_Scribe_begin_J142 {D : Nat → Prop} {M0 : Mm} (hT : Tp D M0) (k36 : Nat → Nat → Int32 → Int32 → Mm → Option (Unit × Mm)) (hk36 : ∀ (x0 : Nat) (hx0 : D x0) (x1 : Nat) (hx1 : D x1) (x3 : Int32) (x4 : Int32) (M : Mm) (hF : Fr D M0 M), FJ D M0 (k36 x0 x1 x3 x4 M)) (x0 : Nat) (hx0 : D x0) (x1 : Nat) (hx1 : D x1) (x3 : Int32) (x4 : Int32) (x5 : Int32) (M : Mm) (hF : Fr D M0 M) : FJ D M0 (Scribe_begin_J142 k36 x0 x1 x3 x4 x5 M) := by
  unfold Scribe_begin_J142
  refine FJ_bd hT hF (fun gC gT => fj_Math_max_I gC gT _ _) (fun r21 M22 hFM22 => ?_)
  exact hk36 _ hx0 _ hx1 _ _ _ hFM22
theorem nj_Scribe_begin_J142 {M0 : Mm} (k36 : Nat → Nat → Int32 → Int32 → Mm → Option (Unit × Mm)) (hk36 : ∀ (x0 : Nat) (x1 : Nat) (x3 : Int32) (x4 : Int32) (M : Mm) (hS : Sm M0 M), NJ M0 (k36 x0 x1 x3 x4 M)) (x0 : Nat) (x1 : Nat) (x3 : Int32) (x4 : Int32) (x5 : Int32) (M : Mm) (hS : Sm M0 M) : NJ M0 (Scribe_begin_J142 k36 x0 x1 x3 x4 x5 M) := by
  unfold Scribe_begin_J142
  refine NJ_bd hS (nj_Math_max_I _ _ _) (fun r21 M22 hSM22 => ?_)
  exact hk36 _ _ _ _ _ hSM22
theorem fj_Scribe_begin_J131 {D : Nat → Prop} {M0 : Mm} (hT : Tp D M0) (k36 : Nat → Nat → Int32 → Int32 → Mm → Option (Unit × Mm)) (hk36 : ∀ (x0 : Nat) (hx0 : D x0) (x1 : Nat) (hx1 : D x1) (x3 : Int32) (x4 : Int32) (M : Mm) (hF : Fr D M0 M), FJ D M0 (k36 x0 x1 x3 x4 M)) (x0 : Nat) (hx0 : D x0) (x1 : Nat) (hx1 : D x1) (x3 : Int32) (x4 : Int32) (x5 : Int32) (s0 : Int32) (s1 : Int32) (s2 : Nat) (hs2 : D s2) (M : Mm) (hF : Fr D M0 M) : FJ D M0 (Scribe_begin_J131 k36 x0 x1 x3 x4 x5 s0 s1 s2 M) := by
  unfold Scribe_begin_J131
  refine FJ_ck ?_
  refine FJ_ck ?_
  exact fj_Scribe_begin_J142 hT k36 hk36 _ hx0 _ hx1 _ _ _ _ (Fr_sI (Fr_sI hF hs2) hx0)
theorem nj_Scribe_begin_J131 {M0 : Mm} (k36 : Nat → Nat → Int32 → Int32 → Mm → Option (Unit × Mm)) (hk36 : ∀ (x0 : Nat) (x1 : Nat) (x3 : Int32) (x4 : Int32) (M : Mm) (hS : Sm M0 M), NJ M0 (k36 x0 x1 x3 x4 M)) (x0 : Nat) (x1 : Nat) (x3 : Int32) (x4 : Int32) (x5 : Int32) (s0 : Int32) (s1 : Int32) (s2 : Nat) (M : Mm) (hS : Sm M0 M) : NJ M0 (Scribe_begin_J131 k36 x0 x1 x3 x4 x5 s0 s1 s2 M) := by
  unfold Scribe_begin_J131
  refine NJ_ck ?_
  refine NJ_ck ?_
  exact nj_Scribe_begin_J142 k36 hk36 _ _ _ _ _ _ (Sm_sI (Sm_sI hS))
theorem fj_Scribe_begin_B36 {D : Nat → Prop} {M0 : Mm} (hT : Tp D M0) (k36 : Nat → Nat → Int32 → Int32 → Mm → Option (Unit × Mm)) (hk36 : ∀ (x0 : Nat) (hx0 : D x0) (x1 : Nat) (hx1 : D x1) (x3 : Int32) (x4 : Int32) (M : Mm) (hF : Fr D M0 M), FJ D M0 (k36 x0 x1 x3 x4 M)) (x0 : Nat) (hx0 : D x0) (x1 : Nat) (hx1 : D x1) (x3 : Int32) (x4 : Int32) (M : Mm) (hF : Fr D M0 M) : FJ D M0 (Scribe_begin_B36 k36 x0 x1 x3 x4 M) := by
  unfold Scribe_begin_B36
  refine FJ_if ?_ ?_
  · refine FJ_ck ?_
    refine FJ_nn hF hx0 (fun b12 hb12 => ?_)
    refine FJ_ck ?_
    refine FJ_nn (Fr_sI hF hb12) hx0 (fun b15 hb15 => ?_)
    refine FJ_ck ?_
    exact FJ_leaf (Fr_sI (Fr_sI hF hb12) hb15)
  · refine FJ_bd hT hF (fun gC gT => fj_Scribe_tokenEnd gC gT _ hx1 _ _) (fun r18 M19 hFM19 => ?_)
    refine FJ_ck ?_
    refine FJ_if ?_ ?_
    · exact fj_Scribe_begin_J142 hT k36 hk36 _ hx0 _ hx1 _ _ _ _ hFM19
    · refine FJ_if ?_ ?_
      · exact fj_Scribe_begin_J142 hT k36 hk36 _ hx0 _ hx1 _ _ _ _ hFM19
      · refine FJ_ck ?_
        refine FJ_nn hFM19 hx0 (fun b24 hb24 => ?_)
        refine FJ_ck ?_
        refine FJ_nn (Fr_sI hFM19 hb24) hx0 (fun b27 hb27 => ?_)
        refine FJ_bd hT (Fr_sI hFM19 hb24) (fun gC gT => fj_Scribe_kindOf gC gT _ hx1 _ _) (fun r28 M29 hFM29 => ?_)
        refine FJ_ck ?_
        refine FJ_ck ?_
        refine FJ_nn (Fr_sI hFM29 hb27) hx0 (fun b33 hb33 => ?_)
        refine FJ_nn (Fr_sI hFM29 hb27) hx0 (fun b34 hb34 => ?_)
        refine FJ_ck ?_
        refine FJ_if ?_ ?_
        · refine FJ_bd hT (Fr_sI hFM29 hb27) (fun gC gT => fj_Scribe_numberOf gC gT _ hx1 _ _) (fun r40 M41 hFM41 => ?_)
          exact fj_Scribe_begin_J131 hT k36 hk36 _ hx0 _ hx1 _ _ _ _ _ _ hb33 _ hFM41
        · exact fj_Scribe_begin_J131 hT k36 hk36 _ hx0 _ hx1 _ _ _ _ _ _ hb33 _ (Fr_sI hFM29 hb27)
theorem nj_Scribe_begin_B36 {M0 : Mm} (k36 : Nat → Nat → Int32 → Int32 → Mm → Option (Unit × Mm)) (hk36 : ∀ (x0 : Nat) (x1 : Nat) (x3 : Int32) (x4 : Int32) (M : Mm) (hS : Sm M0 M), NJ M0 (k36 x0 x1 x3 x4 M)) (x0 : Nat) (x1 : Nat) (x3 : Int32) (x4 : Int32) (M : Mm) (hS : Sm M0 M) : NJ M0 (Scribe_begin_B36 k36 x0 x1 x3 x4 M) := by
  unfold Scribe_begin_B36
  refine NJ_if ?_ ?_
  · refine NJ_ck ?_
    refine NJ_nn (fun b12 => ?_)
    refine NJ_ck ?_
    refine NJ_nn (fun b15 => ?_)
    refine NJ_ck ?_
    exact NJ_leaf (Sm_sI (Sm_sI hS))
  · refine NJ_bd hS (nj_Scribe_tokenEnd _ _ _ _) (fun r18 M19 hSM19 => ?_)
    refine NJ_ck ?_
    refine NJ_if ?_ ?_
    · exact nj_Scribe_begin_J142 k36 hk36 _ _ _ _ _ _ hSM19
    · refine NJ_if ?_ ?_
      · exact nj_Scribe_begin_J142 k36 hk36 _ _ _ _ _ _ hSM19
      · refine NJ_ck ?_
        refine NJ_nn (fun b24 => ?_)
        refine NJ_ck ?_
        refine NJ_nn (fun b27 => ?_)
        refine NJ_bd (Sm_sI hSM19) (nj_Scribe_kindOf _ _ _ _) (fun r28 M29 hSM29 => ?_)
        refine NJ_ck ?_
        refine NJ_ck ?_
        refine NJ_nn (fun b33 => ?_)
        refine NJ_nn (fun b34 => ?_)
        refine NJ_ck ?_
        refine NJ_if ?_ ?_
        · refine NJ_bd (Sm_sI hSM29) (nj_Scribe_numberOf _ _ _ _) (fun r40 M41 hSM41 => ?_)
          exact nj_Scribe_begin_J131 k36 hk36 _ _ _ _ _ _ _ _ _ hSM41
        · exact nj_Scribe_begin_J131 k36 hk36 _ _ _ _ _ _ _ _ _ (Sm_sI hSM29)
theorem fj_Scribe_begin_L36 {D : Nat → Prop} {M0 : Mm} (hT : Tp D M0) : ∀ (n : Nat) (x0 : Nat) (hx0 : D x0) (x1 : Nat) (hx1 : D x1) (x3 : Int32) (x4 : Int32) (M : Mm) (hF : Fr D M0 M), FJ D M0 (Scribe_begin_L36 n x0 x1 x3 x4 M) := by
  intro n
  induction n with
  | zero => intros; exact FJ_none
  | succ n ih => intro x0 hx0 x1 hx1 x3 x4 M hF; exact fj_Scribe_begin_B36 hT _ ih x0 hx0 x1 hx1 x3 x4 M hF
theorem nj_Scribe_begin_L36 {M0 : Mm} : ∀ (n : Nat) (x0 : Nat) (x1 : Nat) (x3 : Int32) (x4 : Int32) (M : Mm) (hS : Sm M0 M), NJ M0 (Scribe_begin_L36 n x0 x1 x3 x4 M) := by
  intro n
  induction n with
  | zero => intros; exact NJ_none
  | succ n ih => intro x0 x1 x3 x4 M hS; exact nj_Scribe_begin_B36 _ ih x0 x1 x3 x4 M hS
theorem fj_Scribe_begin {D : Nat → Prop} {M : Mm} (hC : Cl D M) (hT : Tp D M) (a0 : Nat) (h0 : D a0) (a1 : Nat) (h1 : D a1) (a2 : Int32) : FJ D M (Scribe_begin M a0 a1 a2) := by
  unfold Scribe_begin
  refine FJ_ck ?_
  refine FJ_ck ?_
  refine FJ_bd hT (Fr_sI (Fr_sI (Fr_sI (Fr_sI (Fr.rf hC) h0) h0) h0) h0) (fun gC gT => fj_Math_min_I gC gT _ _) (fun r7 M8 hFM8 => ?_)
  refine FJ_bd hT hFM8 (fun gC gT => fj_Math_min_I gC gT _ _) (fun r9 M10 hFM10 => ?_)
  exact fj_Scribe_begin_L36 hT fu _ h0 _ h1 _ _ _ hFM10
theorem nj_Scribe_begin (M : Mm) (a0 : Nat) (a1 : Nat) (a2 : Int32) : NJ M (Scribe_begin M a0 a1 a2) := by
  unfold Scribe_begin
  refine NJ_ck ?_
  refine NJ_ck ?_
  refine NJ_bd (Sm_sI (Sm_sI (Sm_sI (Sm_sI Sm.rf)))) (nj_Math_min_I _ _ _) (fun r7 M8 hSM8 => ?_)
  refine NJ_bd hSM8 (nj_Math_min_I _ _ _) (fun r9 M10 hSM10 => ?_)
  exact nj_Scribe_begin_L36 fu _ _ _ _ _ hSM10
theorem fj_Scribe_isAtEnd {D : Nat → Prop} {M : Mm} (hC : Cl D M) (hT : Tp D M) (a0 : Nat) (h0 : D a0) : FJ D M (Scribe_isAtEnd M a0) := by
  unfold Scribe_isAtEnd
  refine FJ_ck ?_
  refine FJ_if ?_ ?_
  · exact FJ_leaf (Fr.rf hC)
  · exact FJ_leaf (Fr.rf hC)
theorem nj_Scribe_isAtEnd (M : Mm) (a0 : Nat) : NJ M (Scribe_isAtEnd M a0) := by
  unfold Scribe_isAtEnd
  refine NJ_ck ?_
  refine NJ_if ?_ ?_
  · exact NJ_leaf Sm.rf
  · exact NJ_leaf Sm.rf
theorem fj_Scribe_readValue_J45 {D : Nat → Prop} {M0 : Mm} (hT : Tp D M0) (s0 : Int32) (s1 : Nat) (hs1 : D s1) (M : Mm) (hF : Fr D M0 M) : FJ D M0 (Scribe_readValue_J45 s0 s1 M) := by
  unfold Scribe_readValue_J45
  refine FJ_ck ?_
  refine FJ_bd hT hF (fun gC gT => fj_Scribe_takeNumber gC gT _ hs1 _) (fun r2 M3 hFM3 => ?_)
  exact FJ_leaf hFM3
theorem nj_Scribe_readValue_J45 {M0 : Mm} (s0 : Int32) (s1 : Nat) (M : Mm) (hS : Sm M0 M) : NJ M0 (Scribe_readValue_J45 s0 s1 M) := by
  unfold Scribe_readValue_J45
  refine NJ_ck ?_
  refine NJ_bd hS (nj_Scribe_takeNumber _ _ _) (fun r2 M3 hSM3 => ?_)
  exact NJ_leaf hSM3
theorem fj_Scribe_readValue_J40 {D : Nat → Prop} {M0 : Mm} (hT : Tp D M0) (s0 : Nat) (hs0 : D s0) (M : Mm) (hF : Fr D M0 M) : FJ D M0 (Scribe_readValue_J40 s0 M) := by
  unfold Scribe_readValue_J40
  exact fj_Scribe_readValue_J45 hT _ _ hs0 _ hF
theorem nj_Scribe_readValue_J40 {M0 : Mm} (s0 : Nat) (M : Mm) (hS : Sm M0 M) : NJ M0 (Scribe_readValue_J40 s0 M) := by
  unfold Scribe_readValue_J40
  exact nj_Scribe_readValue_J45 _ _ _ hS
theorem fj_Scribe_readValue {D : Nat → Prop} {M : Mm} (hC : Cl D M) (hT : Tp D M) (a0 : Nat) (h0 : D a0) (a1 : Int32) : FJ D M (Scribe_readValue M a0 a1) := by
  unfold Scribe_readValue
  refine FJ_if ?_ ?_
  · exact FJ_leaf (Fr.rf hC)
  · refine FJ_if ?_ ?_
    · refine FJ_ck ?_
      refine FJ_bd hT (Fr.rf hC) (fun gC gT => fj_Scribe_takeOf gC gT _ h0 _ _) (fun r5 M6 hFM6 => ?_)
      exact FJ_leaf hFM6
    · refine FJ_if ?_ ?_
      · exact fj_Scribe_readValue_J40 hT _ h0 _ (Fr.rf hC)
      · refine FJ_if ?_ ?_
        · exact fj_Scribe_readValue_J40 hT _ h0 _ (Fr.rf hC)
        · refine FJ_if ?_ ?_
          · exact fj_Scribe_readValue_J40 hT _ h0 _ (Fr.rf hC)
          · exact fj_Scribe_readValue_J45 hT _ _ h0 _ (Fr.rf hC)
theorem nj_Scribe_readValue (M : Mm) (a0 : Nat) (a1 : Int32) : NJ M (Scribe_readValue M a0 a1) := by
  unfold Scribe_readValue
  refine NJ_if ?_ ?_
  · exact NJ_leaf Sm.rf
  · refine NJ_if ?_ ?_
    · refine NJ_ck ?_
      refine NJ_bd Sm.rf (nj_Scribe_takeOf _ _ _ _) (fun r5 M6 hSM6 => ?_)
      exact NJ_leaf hSM6
    · refine NJ_if ?_ ?_
      · exact nj_Scribe_readValue_J40 _ _ Sm.rf
      · refine NJ_if ?_ ?_
        · exact nj_Scribe_readValue_J40 _ _ Sm.rf
        · refine NJ_if ?_ ?_
          · exact nj_Scribe_readValue_J40 _ _ Sm.rf
          · exact nj_Scribe_readValue_J45 _ _ _ Sm.rf
