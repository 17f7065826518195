section X4
/-- the same but for the reference's cell 73 -/
def w3 (M : Mm) : Mm := sI M 39 73 1
def CM {ρ : Type} (o o' : Option (ρ × Mm)) : Prop := o' = o.map (fun q => (q.1, w3 q.2))
variable {ρ σ : Type} {M : Mm} {o o1 o2 o' o1' o2' : Option (ρ × Mm)}
theorem CM_some {r : ρ} : CM (some (r, M)) (some (r, w3 M)) := rfl
theorem CM_ck {b : Bool} (h : CM o o') : CM (ck b o) (ck b o') := by
  cases b
  · rfl
  · exact h
theorem w3_ne {b j : Nat} (h : b ≠ 39) : mI (w3 M) b j = mI M b j := by
  unfold w3
  rw [mI_sI, if_neg (fun w => h w.1)]
theorem w3_39 {j : Nat} (h : j ≠ 73) : mI (w3 M) 39 j = mI M 39 j := by
  unfold w3
  rw [mI_sI, if_neg (fun w => h w.2)]
theorem CM_kA (hM : mK M 39 = (12, 107)) {b t : Nat} {i : Int32} (ht : t ≠ 12) (h : b ≠ 39 → CM o o') : CM (ck (kA M b t i) o) (ck (kA (w3 M) b t i) o') := by
  have e : kA (w3 M) b t i = kA M b t i := rfl
  rw [e]
  cases c : kA M b t i
  · rfl
  · refine h (fun q => ?_)
    rw [q] at c
    unfold kA at c
    rw [hM] at c
    have : decide ((12, 107).1 = t) = false := by
      apply decide_eq_false
      exact fun w => ht w.symm
    rw [this] at c
    cases c
theorem CM_nn {p : Option Nat} {f f' : Nat → Option (ρ × Mm)} (h : ∀ a, CM (f a) (f' a)) : CM (nn p f) (nn p f') := by
  cases p
  · rfl
  · exact h _
theorem CM_if {c : Prop} [Decidable c] (h1 : CM o1 o1') (h2 : CM o2 o2') : CM (if c then o1 else o2) (if c then o1' else o2') := by
  by_cases q : c
  · rw [if_pos q, if_pos q]; exact h1
  · rw [if_neg q, if_neg q]; exact h2
theorem CM_bd {p p' : Option (σ × Mm)} {f f' : σ → Mm → Option (ρ × Mm)} (h : CM p p') (n : NJ M p) (hM : mK M 39 = (12, 107)) (g : ∀ r M', mK M' 39 = (12, 107) → CM (f r M') (f' r (w3 M'))) : CM (bd p f) (bd p' f') := by
  unfold CM at h
  subst h
  cases p with
  | none => rfl
  | some q =>
    obtain ⟨-, n2, -⟩ := n q.1 q.2 rfl
    exact g q.1 q.2 (by rw [n2]; exact hM)
theorem w3_sI {a j : Nat} {v : Int32} (h : a ≠ 39) : sI (w3 M) a j v = w3 (sI M a j v) := by
  unfold w3 sI
  congr 1
  funext b i
  show (if b = a ∧ i = j then v else if b = 39 ∧ i = 73 then 1 else mI M b i) = (if b = 39 ∧ i = 73 then 1 else if b = a ∧ i = j then v else mI M b i)
  by_cases c1 : b = a ∧ i = j
  · rw [if_pos c1, if_neg (fun w => h (c1.1.symm.trans w.1)), if_pos c1]
  · rw [if_neg c1, if_neg c1]
theorem cm_outOf (hM : mK M 39 = (12, 107)) (s : Int32) : CM (Mod_outOf M 39 s) (Mod_outOf (w3 M) 39 s) := by
  unfold Mod_outOf
  refine CM_ck ?_
  refine CM_nn (fun b => ?_)
  refine CM_kA hM (by decide) (fun hb => ?_)
  refine CM_nn (fun b2 => ?_)
  refine CM_kA hM (by decide) (fun hb2 => ?_)
  refine CM_nn (fun b3 => ?_)
  refine CM_kA hM (by decide) (fun hb3 => ?_)
  simp only [w3_ne hb, w3_ne hb2, w3_ne hb3]
  exact CM_some
theorem cm_known5 : ∀ (n : Nat) (x1 x2 x3 : Int32) (M : Mm), mK M 39 = (12, 107) → CM (Mod_known_L79 n 39 x1 x2 x3 M) (Mod_known_L79 n 39 x1 x2 x3 (w3 M))
  | 0, _, _, _, _, _ => rfl
  | n + 1, x1, x2, x3, M, hM => by
    have ih := cm_known5 n
    show CM (Mod_known_B79 _ _ _ _ _ _) (Mod_known_B79 _ _ _ _ _ _)
    unfold Mod_known_B79 Mod_known_J107
    simp only [w3_39 (show 22 ≠ 73 by decide)]
    refine CM_ck (CM_if CM_some (CM_if (CM_nn (fun b => CM_kA hM (by decide) (fun hb => ?_))) (CM_bd (cm_outOf hM _) (nj_Mod_outOf _ _ _) hM (fun r M' h' => ih _ _ _ _ h'))))
    simp only [w3_ne hb]
    exact ih _ _ _ _ hM
theorem cm_known (hM : mK M 39 = (12, 107)) (w : Int32) : CM (Mod_known M 39 w) (Mod_known (w3 M) 39 w) := by
  unfold Mod_known
  simp only [w3_39 (show 0 ≠ 73 by decide), w3_39 (show 1 ≠ 73 by decide), w3_39 (show 71 ≠ 73 by decide)]
  refine CM_if (CM_ck CM_some) (CM_if (CM_ck CM_some) (CM_if (CM_ck CM_some) (CM_if (CM_ck (CM_if CM_some (CM_nn (fun b => CM_kA hM (by decide) (fun hb => ?_))))) (CM_if (CM_ck CM_some) (cm_known5 _ _ _ _ _ hM)))))
  simp only [w3_ne hb]
  exact CM_some
theorem cm_force4 : ∀ (n : Nat) (x1 x2 : Int32) (M : Mm), mK M 39 = (12, 107) → CM (Mod_inForce_L4 n 39 x1 x2 M) (Mod_inForce_L4 n 39 x1 x2 (w3 M))
  | 0, _, _, _, _ => rfl
  | n + 1, x1, x2, M, hM => by
    have ih := cm_force4 n
    show CM (Mod_inForce_B4 _ _ _ _ _) (Mod_inForce_B4 _ _ _ _ _)
    unfold Mod_inForce_B4 Mod_inForce_J44 Mod_inForce_J46
    simp only [w3_39 (show 37 ≠ 73 by decide), w3_39 (show 0 ≠ 73 by decide)]
    refine CM_ck (CM_if CM_some (CM_nn (fun b => CM_kA hM (by decide) (fun hb => ?_))))
    simp only [w3_ne hb]
    refine CM_if (ih _ _ _ hM) (CM_if (ih _ _ _ hM) (CM_nn (fun b => CM_kA hM (by decide) (fun hb => CM_nn (fun b2 => CM_kA hM (by decide) (fun hb2 => ?_))))))
    simp only [w3_ne hb, w3_ne hb2]
    exact CM_if (ih _ _ _ hM) (ih _ _ _ hM)
theorem cm_force (hM : mK M 39 = (12, 107)) : CM (Mod_inForce M 39) (Mod_inForce (w3 M) 39) := cm_force4 _ _ _ _ hM
theorem cm_hst {L : Nat → Int32 → Int32 → Mm → Option (Int32 × Mm)} (ih : ∀ x1 x2 M, mK M 39 = (12, 107) → CM (L 39 x1 x2 M) (L 39 x1 x2 (w3 M))) (hM : mK M 39 = (12, 107)) (x1 x2 s0 s1 : Int32) (s2 : Nat) : CM (Mod_holds_J248 L 39 x1 x2 s0 s1 s2 M) (Mod_holds_J248 L 39 x1 x2 s0 s1 s2 (w3 M)) := by
  unfold Mod_holds_J248 Mod_holds_J249
  refine CM_kA hM (by decide) (fun hb => CM_ck ?_)
  simp only [w3_sI hb]
  exact ih _ _ _ hM
theorem cm_hold18 : ∀ (n : Nat) (x1 x2 : Int32) (M : Mm), mK M 39 = (12, 107) → CM (Mod_holds_L18 n 39 x1 x2 M) (Mod_holds_L18 n 39 x1 x2 (w3 M))
  | 0, _, _, _, _ => rfl
  | n + 1, x1, x2, M, hM => by
    have ih := cm_hold18 n
    have j1 : ∀ (M : Mm) (_ : mK M 39 = (12, 107)) (s0 s1 : Int32) (s2 : Nat), CM (Mod_holds_J248 (Mod_holds_L18 n) 39 x1 x2 s0 s1 s2 M) (Mod_holds_J248 (Mod_holds_L18 n) 39 x1 x2 s0 s1 s2 (w3 M)) := fun M hM s0 s1 s2 => cm_hst ih hM x1 x2 s0 s1 s2
    have j2 : ∀ (M : Mm) (_ : mK M 39 = (12, 107)) (s0 s1 : Int32) (s2 : Nat), CM (Mod_holds_J132 (Mod_holds_L18 n) 39 x1 x2 s0 s1 s2 M) (Mod_holds_J132 (Mod_holds_L18 n) 39 x1 x2 s0 s1 s2 (w3 M)) := j1
    have j3 : ∀ (M : Mm) (_ : mK M 39 = (12, 107)) (s0 s1 : Int32) (s2 : Nat), CM (Mod_holds_J165 (Mod_holds_L18 n) 39 x1 x2 s0 s1 s2 M) (Mod_holds_J165 (Mod_holds_L18 n) 39 x1 x2 s0 s1 s2 (w3 M)) := j1
    show CM (Mod_holds_B18 _ _ _ _ _) (Mod_holds_B18 _ _ _ _ _)
    unfold Mod_holds_B18 Mod_holds_J211 Mod_holds_J243
    refine CM_ck (CM_nn (fun b => CM_kA hM (by decide) (fun hb => ?_)))
    simp only [w3_ne hb]
    refine CM_if (CM_nn (fun b1 => CM_nn (fun b2 => CM_kA hM (by decide) (fun hb2 => ?_)))) (CM_nn (fun b3 => CM_kA hM (by decide) (fun hb3 => ?_)))
    · simp only [w3_ne hb2]
      refine CM_kA hM (by decide) (fun hb1 => ?_)
      simp only [w3_ne hb1]
      exact CM_ck CM_some
    · simp only [w3_ne hb3]
      refine CM_if (CM_nn (fun b4 => CM_kA hM (by decide) (fun hb4 => ?_))) (CM_if (CM_nn (fun b5 => CM_nn (fun b6 => CM_nn (fun b7 => CM_kA hM (by decide) (fun hb7 => ?_))))) (CM_nn (fun b8 => CM_if (CM_nn (fun b9 => CM_nn (fun b10 => CM_kA hM (by decide) (fun hb10 => ?_)))) (CM_nn (fun b9 => CM_nn (fun b10 => CM_kA hM (by decide) (fun hb10 => ?_)))))))
      · simp only [w3_ne hb4]
        refine CM_bd (cm_known hM _) (nj_Mod_known _ _ _) hM (fun r M' h' => CM_ck (CM_nn (fun c1 => CM_nn (fun c2 => CM_kA h' (by decide) (fun hc2 => ?_)))))
        simp only [w3_ne hc2]
        refine CM_if (CM_nn (fun c3 => CM_kA h' (by decide) (fun hc3 => ?_))) (CM_nn (fun c3 => CM_kA h' (by decide) (fun hc3 => ?_)))
        · simp only [w3_ne hc3]
          exact CM_if (j2 _ h' _ _ _) (j2 _ h' _ _ _)
        · simp only [w3_ne hc3]
          refine CM_if (CM_nn (fun c4 => CM_kA h' (by decide) (fun hc4 => ?_))) (CM_nn (fun c4 => CM_kA h' (by decide) (fun hc4 => ?_)))
          · simp only [w3_ne hc4]
            exact CM_if (j2 _ h' _ _ _) (j2 _ h' _ _ _)
          · simp only [w3_ne hc4]
            exact CM_if (j2 _ h' _ _ _) (j2 _ h' _ _ _)
      · simp only [w3_ne hb7]
        refine CM_kA hM (by decide) (fun hb6 => ?_)
        simp only [w3_ne hb6]
        exact CM_if (j3 _ hM _ _ _) (j3 _ hM _ _ _)
      · simp only [w3_ne hb10]
        refine CM_kA hM (by decide) (fun hb9 => ?_)
        simp only [w3_ne hb9]
        refine CM_if (j1 _ hM _ _ _) (CM_nn (fun b11 => CM_nn (fun b12 => CM_kA hM (by decide) (fun hb12 => ?_))))
        simp only [w3_ne hb12]
        refine CM_kA hM (by decide) (fun hb11 => ?_)
        simp only [w3_ne hb11]
        exact CM_if (j1 _ hM _ _ _) (j1 _ hM _ _ _)
      · simp only [w3_ne hb10]
        refine CM_kA hM (by decide) (fun hb9 => ?_)
        simp only [w3_ne hb9]
        refine CM_if (CM_nn (fun b11 => CM_nn (fun b12 => CM_kA hM (by decide) (fun hb12 => ?_)))) (j1 _ hM _ _ _)
        simp only [w3_ne hb12]
        refine CM_kA hM (by decide) (fun hb11 => ?_)
        simp only [w3_ne hb11]
        exact CM_if (j1 _ hM _ _ _) (j1 _ hM _ _ _)
theorem cm_holds (hM : mK M 39 = (12, 107)) (g : Int32) : CM (Mod_holds M 39 g) (Mod_holds (w3 M) 39 g) := by
  unfold Mod_holds
  refine CM_ck (CM_nn (fun b => CM_kA hM (by decide) (fun hb => ?_)))
  simp only [w3_ne hb]
  refine CM_if (CM_nn (fun b => CM_kA hM (by decide) (fun hb => ?_))) CM_some
  simp only [w3_ne hb]
  exact cm_hold18 _ _ _ _ hM
theorem cm_ask24 : ∀ (n : Nat) (x1 x2 x3 x4 : Int32) (M : Mm), mK M 39 = (12, 107) → CM (Mod_asked_L24 n 39 x1 x2 x3 x4 M) (Mod_asked_L24 n 39 x1 x2 x3 x4 (w3 M))
  | 0, _, _, _, _, _, _ => rfl
  | n + 1, x1, x2, x3, x4, M, hM => by
    have ih := cm_ask24 n
    show CM (Mod_asked_B24 _ _ _ _ _ _ _) (Mod_asked_B24 _ _ _ _ _ _ _)
    unfold Mod_asked_B24 Mod_asked_J70
    refine CM_ck (CM_nn (fun b => CM_kA hM (by decide) (fun hb => CM_nn (fun b2 => CM_kA hM (by decide) (fun hb2 => ?_)))))
    simp only [w3_ne hb, w3_ne hb2]
    refine CM_if CM_some (CM_nn (fun b3 => CM_kA hM (by decide) (fun hb3 => ?_)))
    simp only [w3_ne hb3]
    refine CM_if (CM_bd (cm_holds hM _) (nj_Mod_holds _ _ _) hM (fun r M' h' => CM_if (ih _ _ _ _ _ h') (CM_ck (CM_nn (fun c => CM_kA h' (by decide) (fun hc => ?_)))))) (ih _ _ _ _ _ hM)
    simp only [w3_ne hc]
    exact ih _ _ _ _ _ h'
/-- the reference's asking doesn't look at cell 73 -/
theorem cm_asked (hM : mK M 39 = (12, 107)) (w : Int32) : CM (Mod_asked M 39 w) (Mod_asked (w3 M) 39 w) := by
  have eb : CM (Mod_bare M w) (Mod_bare (w3 M) w) := by
    unfold Mod_bare
    exact CM_if CM_some (CM_if CM_some (CM_if CM_some (CM_if CM_some (CM_if CM_some (CM_if CM_some (CM_if CM_some (CM_if CM_some CM_some)))))))
  unfold Mod_asked
  refine CM_bd eb (nj_Mod_bare _ _) hM (fun r M' h' => CM_ck (CM_bd (cm_force h') (nj_Mod_inForce _ _) h' (fun f M2 h2 => CM_if (CM_ck (CM_nn (fun b => CM_kA h2 (by decide) (fun hb => ?_)))) CM_some)))
  simp only [w3_ne hb]
  exact cm_ask24 _ _ _ _ _ _ h2
end X4
