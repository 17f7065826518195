/-! what the reading of a text leaves behind in the reference -/
section ZY
variable {k : Nat} {ad : Nat → Nat → Nat} {C R C' R' R2 : Mm}
def FP (j : Nat) : Prop := (56 ≤ j ∧ j ≤ 63) ∨ j = 65 ∨ j = 69
def FrG (s0 nb : Nat) (R R' : Mm) : Prop := mR R' = mR R ∧ mK R' = mK R ∧ (∀ a, a ≠ 39 → ¬ tR a → ¬ (69 ≤ a ∧ a ≤ 77) → mI R' a = mI R a) ∧ (∀ a, a ≠ 39 → a ≠ 110 → a ≠ 111 → mL R' a = mL R a) ∧ (∀ j, j ≠ 64 → mL R' 39 j = mL R 39 j) ∧ (∀ j, ¬ FP j → mI R' 39 j = mI R 39 j) ∧ (∀ a, 69 ≤ a → a ≤ 73 → ∀ j, j < s0 → mI R' a j = mI R a j) ∧ (∀ a, 74 ≤ a → a ≤ 77 → ∀ j, j < nb → mI R' a j = mI R a j)
theorem cm_fp (c i k : Nat) (h : (cm c i k).1 ≠ 0) : ¬ tR (cm c i k).1 ∧ ¬ (69 ≤ (cm c i k).1 ∧ (cm c i k).1 ≤ 77) ∧ ((cm c i k).1 ≠ 39 ∨ ¬ FP (cm c i k).2) := by
  revert h
  unfold cm
  repeat' split
  all_goals first
    | (intro h; exact absurd rfl h)
    | (intro _; unfold tR FP; omega)
theorem lm_fp (c i k : Nat) (h : (lm c i k).1 ≠ 0) : (lm c i k).1 ≠ 110 ∧ (lm c i k).1 ≠ 111 ∧ ((lm c i k).1 ≠ 39 ∨ (lm c i k).2 ≠ 64) := by
  revert h
  unfold lm
  repeat' split
  all_goals first
    | (intro h; exact absurd rfl h)
    | (intro _; omega)
theorem Eds.loc (h : Eds ad C R) (ie : Ied R) (r37 : mI R' 39 37 = mI R 39 37) (r66 : mI R' 66 = mI R 66) (r67 : mI R' 67 = mI R 67) (rs : ∀ a, 69 ≤ a → a ≤ 73 → ∀ j, j < ix (mI R 39 46) → mI R' a j = mI R a j) (rn : ∀ a, 74 ≤ a → a ≤ 77 → ∀ j, j < ix (mI R 39 52) → mI R' a j = mI R a j) : Eds ad C R' := by
  intro t ht s hs
  rw [r37] at ht
  rw [r67] at hs
  obtain ⟨o1, o2, o3, o4, o5, o6, o7⟩ := h t ht s hs
  obtain ⟨e1, e2, e3, e4, e5, e6⟩ := ie.2.2.1 t ht
  have hg : ix (mI R 66 t) + s < ix (mI R 39 46) := by omega
  have q := ie.2.2.2 _ hg
  have h52 := ie.2.1.1
  rw [r66, rs 69 (by decide) (by decide) _ hg, rs 70 (by decide) (by decide) _ hg, rs 71 (by decide) (by decide) _ hg, rs 72 (by decide) (by decide) _ hg, rs 73 (by decide) (by decide) _ hg]
  refine ⟨o1, o2, o3, o4, o5, o6, ?_⟩
  rcases o7 with x | ⟨x1, S, y1, y2, y3, y4⟩
  · exact Or.inl x
  · have b : ix (mI R 73 (ix (mI R 66 t) + s)) ≤ ix (mI R 39 52) := by
      have a1 := q.2.2.2.1
      have a2 := q.2.2.2.2.1
      have a3 := q.2.2.2.2.2
      clear y2 y1 y3 rs rn
      grind [ix_t]
    refine Or.inr ⟨x1, S, y1, fun j j1 j2 => ?_, y3, y4⟩
    have jj : ix (mI R 72 (ix (mI R 66 t) + s)) + (j - ceL ad C t s) < ix (mI R 39 52) := by omega
    rw [rn 74 (by decide) (by decide) _ jj, rn 75 (by decide) (by decide) _ jj, rn 76 (by decide) (by decide) _ jj, rn 77 (by decide) (by decide) _ jj]
    exact y2 j j1 j2
theorem Rel.frg (h : Rel k ad C R) {s0 nb : Nat} (hs : ix (mI R 39 46) = s0) (hn : ix (mI R 39 52) = nb) (f : FrG s0 nb R R') : Rel k ad C R' := by
  obtain ⟨f1, f2, f3, f4, f5, f6, f7, f8⟩ := f
  subst hs
  subst hn
  have g : ∀ a, (40 ≤ a ∧ a ≤ 43) ∨ (46 ≤ a ∧ a ≤ 68) ∨ a = 79 ∨ (83 ≤ a ∧ a ≤ 112) → mI R' a = mI R a := fun a q => f3 a (by omega) (by unfold tR; omega) (by omega)
  have z : ∀ j, j ≤ 55 ∨ (70 ≤ j) → mI R' 39 j = mI R 39 j := fun j q => f6 j (by unfold FP; omega)
  refine Rel.mk h.sc (h.sr.sm f2 f1) h.hA h.lv ?_ ?_ ?_ ?_ ?_ ?_ ?_ ?_ ?_ ?_ ?_ ?_ ?_ ?_ ?_ ?_ ?_ ?_
  · intro c i j q
    obtain ⟨q1, q2, q3⟩ := cm_fp c i j q
    rw [h.dt c i j q]
    by_cases e : (cm c i j).1 = 39
    · rw [e, f6 _ (q3.resolve_left (fun w => w e))]
    · rw [f3 _ e q1 q2]
  · intro c i j q
    obtain ⟨q1, q2, q3⟩ := lm_fp c i j q
    rw [h.dl c i j q]
    by_cases e : (lm c i j).1 = 39
    · rw [e, f5 _ (q3.resolve_left (fun w => w e))]
    · rw [f4 _ e q1 q2]
  · have w := h.isc
    unfold Isc at w ⊢
    simp only [z 0 (by decide), z 1 (by decide), z 2 (by decide), z 9 (by decide), z 22 (by decide), z 23 (by decide), z 24 (by decide), z 54 (by decide), z 71 (by decide), z 37 (by decide), z 70 (by decide), z 73 (by decide)]
    exact w
  · have w := h.ila
    unfold Ila at w ⊢
    simp only [g 40 (by decide), g 41 (by decide), g 42 (by decide), g 43 (by decide), g 79 (by decide)]
    exact w
  · have w := h.ipe
    unfold Ipe at w ⊢
    simp only [z 2 (by decide), z 0 (by decide), z 71 (by decide), z 21 (by decide), g 46 (by decide), g 47 (by decide), g 49 (by decide), g 91 (by decide), g 112 (by decide), f4 52 (by decide) (by decide) (by decide), f5 18 (by decide)]
    exact w
  · have w := h.shp
    unfold ShP at w ⊢
    simp only [z 9 (by decide)]
    exact w
  · have w := h.shs
    unfold ShS at w ⊢
    simp only [z 22 (by decide)]
    exact w
  · have w := h.ist
    unfold Ist sumP sumW at w ⊢
    simp only [z 9 (by decide), z 0 (by decide), z 22 (by decide), z 23 (by decide), z 24 (by decide), g 53 (by decide), g 54 (by decide), g 55 (by decide), g 56 (by decide), g 57 (by decide), g 59 (by decide), g 62 (by decide), g 63 (by decide), g 64 (by decide), g 65 (by decide)]
    exact w
  · exact h.qs.cg (fun _ _ _ => rfl) (fun _ _ _ _ => rfl) (z 22 (by decide)) (z 23 (by decide)) (z 24 (by decide)) (g 53 (by decide)) (g 59 (by decide)) (g 60 (by decide)) (g 61 (by decide)) (g 62 (by decide)) (g 63 (by decide)) (g 64 (by decide)) (g 65 (by decide))
  · have w := h.she
    unfold ShE at w ⊢
    simp only [z 37 (by decide), g 67 (by decide)]
    exact w
  · have w := h.ied
    unfold Ied at w ⊢
    simp only [z 37 (by decide), z 46 (by decide), z 52 (by decide), g 66 (by decide), g 67 (by decide), g 68 (by decide)]
    refine ⟨w.1, w.2.1, w.2.2.1, fun x hx => ?_⟩
    rw [f7 69 (by decide) (by decide) x hx, f7 70 (by decide) (by decide) x hx, f7 72 (by decide) (by decide) x hx, f7 73 (by decide) (by decide) x hx]
    exact w.2.2.2 x hx
  · exact h.eds.loc h.ied (z 37 (by decide)) (g 66 (by decide)) (g 67 (by decide)) f7 f8
  · have w := h.shn
    unfold ShN Un Al at w ⊢
    simp only [z 9 (by decide), z 22 (by decide), z 37 (by decide), z 70 (by decide), z 73 (by decide), g 87 (by decide), g 88 (by decide)]
    exact w
  · have w := h.ise
    unfold Ise at w ⊢
    simp only [z 0 (by decide), z 9 (by decide), z 70 (by decide), z 73 (by decide), g 84 (by decide), g 85 (by decide), g 86 (by decide), g 87 (by decide), g 88 (by decide), g 89 (by decide), g 90 (by decide), g 92 (by decide), g 93 (by decide), g 94 (by decide), g 95 (by decide), g 97 (by decide), g 98 (by decide), g 99 (by decide), g 100 (by decide), g 101 (by decide), g 102 (by decide), g 103 (by decide), g 104 (by decide), g 105 (by decide), g 107 (by decide), g 108 (by decide)]
    exact w
  · have w := h.ison
    unfold Ison at w ⊢
    simp only [z 70 (by decide), z 72 (by decide), z 73 (by decide), g 87 (by decide), g 88 (by decide), g 109 (by decide)]
    exact w
  · exact h.son.cg (fun _ => rfl) (fun _ => rfl) (z 70 (by decide)) (z 72 (by decide)) (z 73 (by decide)) (g 109 (by decide))
  · exact h.den.cg (fun _ _ _ => rfl) (z 70 (by decide)) (g 88 (by decide)) (g 105 (by decide)) (g 106 (by decide))
  · exact h.evs.cg (fun _ => rfl) (z 70 (by decide)) (z 73 (by decide)) (g 87 (by decide)) (g 90 (by decide)) (g 96 (by decide)) (g 109 (by decide))
/-- the tape is empty; the place of a fault -/
theorem Rel.st_nil (h : Rel k ad C R) : Rel k ad (sI C 8 8 0) (sI R 39 54 0) := by
  obtain ⟨i1, i2, i3, i4, i5, i6, i7, i8, i9⟩ := h.isc
  exact Rel.mk5 h.sc h.sr h.hA h.lv (h.dt.st h.hA 108 0 8 rfl (by decide) (h.lv.st (a := 8) (by decide))) h.dl ⟨i1, i2, i3, i4, i5, i6, i7, ⟨by show (0 : Int32) ≤ 0; decide, by show (0 : Int32) ≤ 500; decide⟩, i9⟩ h.ila h.ipe h.shp h.shs h.ist h.she h.ied h.shn h.ise h.ison (G5.s h.hA h.g5 (by decide))
theorem Rel.st_flt (h : Rel k ad C R) {v : Int32} : Rel k ad (sI C 19 4 v) (sI R 39 55 v) :=
  Rel.mk5 h.sc h.sr h.hA h.lv (h.dt.st h.hA 119 0 4 rfl (by decide) (h.lv.st (a := 19) (by decide))) h.dl h.isc h.ila h.ipe h.shp h.shs h.ist h.she h.ied h.shn h.ise h.ison (G5.s h.hA h.g5 (by decide))
end ZY
/-! the reference's news does not look at the cells 46 and 52 -/
section ZZ
def wj (j : Nat) (v : Int32) (M : Mm) : Mm := sI M 39 j v
def CJ {ρ : Type} (j : Nat) (v : Int32) (o o' : Option (ρ × Mm)) : Prop := o' = o.map (fun q => (q.1, wj j v q.2))
variable {ρ σ : Type} {M : Mm} {j : Nat} {v : Int32} {o o1 o2 o' o1' o2' : Option (ρ × Mm)}
theorem CJ_some {r : ρ} : CJ j v (some (r, M)) (some (r, wj j v M)) := rfl
theorem CJ_ck {b : Bool} (h : CJ j v o o') : CJ j v (ck b o) (ck b o') := by
  cases b
  · rfl
  · exact h
theorem wj_ne {b i : Nat} (h : b ≠ 39) : mI (wj j v M) b i = mI M b i := by
  unfold wj
  rw [mI_sI, if_neg (fun w => h w.1)]
theorem wj_39 {i : Nat} (h : i ≠ j) : mI (wj j v M) 39 i = mI M 39 i := by
  unfold wj
  rw [mI_sI, if_neg (fun w => h w.2)]
theorem CJ_kA (hM : mK M 39 = (12, 107)) {b t : Nat} {i : Int32} (ht : t ≠ 12) (h : b ≠ 39 → CJ j v o o') : CJ j v (ck (kA M b t i) o) (ck (kA (wj j v M) b t i) o') := by
  have e : kA (wj j v M) b t i = kA M b t i := rfl
  rw [e]
  cases c : kA M b t i
  · rfl
  · refine h (fun q => ?_)
    rw [q] at c
    unfold kA at c
    rw [hM] at c
    have : decide ((12, 107).1 = t) = false := by
      apply decide_eq_false
      exact fun w => ht w.symm
    rw [this] at c
    cases c
theorem CJ_nn {p : Option Nat} {f f' : Nat → Option (ρ × Mm)} (h : ∀ a, CJ j v (f a) (f' a)) : CJ j v (nn p f) (nn p f') := by
  cases p
  · rfl
  · exact h _
theorem CJ_if {c : Prop} [Decidable c] (h1 : CJ j v o1 o1') (h2 : CJ j v o2 o2') : CJ j v (if c then o1 else o2) (if c then o1' else o2') := by
  by_cases q : c
  · rw [if_pos q, if_pos q]; exact h1
  · rw [if_neg q, if_neg q]; exact h2
theorem CJ_bd {p p' : Option (σ × Mm)} {f f' : σ → Mm → Option (ρ × Mm)} (h : CJ j v p p') (n : NJ M p) (hM : mK M 39 = (12, 107)) (g : ∀ r M', mK M' 39 = (12, 107) → CJ j v (f r M') (f' r (wj j v M'))) : CJ j v (bd p f) (bd p' f') := by
  unfold CJ at h
  subst h
  cases p with
  | none => rfl
  | some q =>
    obtain ⟨-, n2, -⟩ := n q.1 q.2 rfl
    exact g q.1 q.2 (by rw [n2]; exact hM)
theorem wj_sI {a i : Nat} {x : Int32} (h : a ≠ 39) : sI (wj j v M) a i x = wj j v (sI M a i x) := by
  unfold wj sI
  congr 1
  funext b i'
  show (if b = a ∧ i' = i then x else if b = 39 ∧ i' = j then v else mI M b i') = (if b = 39 ∧ i' = j then v else if b = a ∧ i' = i then x else mI M b i')
  by_cases c1 : b = a ∧ i' = i
  · rw [if_pos c1, if_neg (fun w => h (c1.1.symm.trans w.1)), if_pos c1]
  · rw [if_neg c1, if_neg c1]
theorem cj_fog (hM : mK M 39 = (12, 107)) (a b : Int32) : CJ j v (Mod_hasFog M 39 a b) (Mod_hasFog (wj j v M) 39 a b) := by
  unfold Mod_hasFog
  refine CJ_ck (CJ_nn (fun b1 => CJ_kA hM (by decide) (fun h1 => ?_)))
  simp only [wj_ne h1]
  refine CJ_if (CJ_nn (fun b2 => CJ_kA hM (by decide) (fun h2 => CJ_nn (fun b3 => CJ_kA hM (by decide) (fun h3 => ?_))))) CJ_some
  simp only [wj_ne h2, wj_ne h3]
  refine CJ_if (CJ_nn (fun b4 => CJ_kA hM (by decide) (fun h4 => ?_))) (CJ_nn (fun b4 => CJ_kA hM (by decide) (fun h4 => ?_)))
  · simp only [wj_ne h4]
    refine CJ_if CJ_some (CJ_nn (fun b5 => CJ_kA hM (by decide) (fun h5 => ?_)))
    simp only [wj_ne h5]
    exact CJ_if CJ_some CJ_some
  · simp only [wj_ne h4]
    refine CJ_if CJ_some (CJ_nn (fun b5 => CJ_kA hM (by decide) (fun h5 => ?_)))
    simp only [wj_ne h5]
    exact CJ_if CJ_some CJ_some
theorem cj_goes39 : ∀ (n : Nat) (x1 x2 x3 x4 x5 x6 : Int32) (M : Mm), mK M 39 = (12, 107) → CJ j v (Mod_goes_L39 n 39 x1 x2 x3 x4 x5 x6 M) (Mod_goes_L39 n 39 x1 x2 x3 x4 x5 x6 (wj j v M))
  | 0, _, _, _, _, _, _, _, _ => rfl
  | n + 1, x1, x2, x3, x4, x5, x6, M, hM => by
    have ih := cj_goes39 n
    show CJ j v (Mod_goes_B39 _ _ _ _ _ _ _ _ _) (Mod_goes_B39 _ _ _ _ _ _ _ _ _)
    unfold Mod_goes_B39 Mod_goes_J109
    exact CJ_if CJ_some (CJ_if CJ_some (CJ_if (ih _ _ _ _ _ _ _ hM) (CJ_if (ih _ _ _ _ _ _ _ hM) (CJ_ck (CJ_bd (cj_fog hM _ _) (nj_Mod_hasFog _ _ _ _) hM (fun r M1 h1 => CJ_if (CJ_ck (CJ_bd (cj_fog h1 _ _) (nj_Mod_hasFog _ _ _ _) h1 (fun r2 M2 h2 => CJ_if CJ_some (ih _ _ _ _ _ _ _ h2)))) (ih _ _ _ _ _ _ _ h1)))))))
theorem cj_goes (hM : mK M 39 = (12, 107)) (a b c : Int32) : CJ j v (Mod_goes M 39 a b c) (Mod_goes (wj j v M) 39 a b c) := by
  unfold Mod_goes
  refine CJ_ck (CJ_nn (fun b1 => CJ_kA hM (by decide) (fun h1 => CJ_nn (fun b2 => CJ_kA hM (by decide) (fun h2 => ?_)))))
  simp only [wj_ne h1, wj_ne h2]
  exact CJ_if CJ_some (cj_goes39 _ _ _ _ _ _ _ _ hM)
theorem cj_sp129 (hj : j ≠ 2) {K : Nat → Int32 → Mm → Option (Unit × Mm)} (hK : ∀ x M, mK M 39 = (12, 107) → CJ j v (K 39 x M) (K 39 x (wj j v M))) : ∀ (n : Nat) (x3 x4 x5 : Int32) (M : Mm), mK M 39 = (12, 107) → CJ j v (Mod_spreads_L129 K n 39 x3 x4 x5 M) (Mod_spreads_L129 K n 39 x3 x4 x5 (wj j v M))
  | 0, _, _, _, _, _ => rfl
  | n + 1, x3, x4, x5, M, hM => by
    have ih := cj_sp129 hj hK n
    show CJ j v (Mod_spreads_B129 _ _ _ _ _ _ _) (Mod_spreads_B129 _ _ _ _ _ _ _)
    unfold Mod_spreads_B129 Mod_spreads_J206 Mod_spreads_J215
    simp only [wj_39 (j := j) (show 2 ≠ j from fun e => hj e.symm)]
    refine CJ_ck (CJ_if (hK _ _ hM) (CJ_nn (fun b1 => CJ_kA hM (by decide) (fun h1 => ?_))))
    simp only [wj_ne h1]
    refine CJ_if (ih _ _ _ _ hM) (CJ_nn (fun b2 => CJ_kA hM (by decide) (fun h2 => ?_)))
    simp only [wj_ne h2]
    refine CJ_if (CJ_nn (fun b3 => CJ_kA hM (by decide) (fun h3 => ?_))) (ih _ _ _ _ hM)
    simp only [wj_ne h3]
    refine CJ_bd (cj_goes hM _ _ _) (nj_Mod_goes _ _ _ _ _) hM (fun r M1 m1 => CJ_ck (CJ_nn (fun b4 => CJ_kA m1 (by decide) (fun h4 => ?_))))
    simp only [wj_ne h4]
    have last : CJ j v (ck (kO M1 39 12 107) (nn (mR M1 39 7) (fun b25 => ck (kA M1 b25 20 x5) (Mod_spreads_L129 K n 39 x3 x4 (x5 + 1) (sI M1 b25 (ix x5) r))))) (ck (kO (wj j v M1) 39 12 107) (nn (mR (wj j v M1) 39 7) (fun b25 => ck (kA (wj j v M1) b25 20 x5) (Mod_spreads_L129 K n 39 x3 x4 (x5 + 1) (sI (wj j v M1) b25 (ix x5) r))))) := by
      refine CJ_ck (CJ_nn (fun b5 => CJ_kA m1 (by decide) (fun h5 => ?_)))
      rw [wj_sI h5]
      exact ih _ _ _ _ m1
    refine CJ_if last (CJ_nn (fun b6 => CJ_kA m1 (by decide) (fun h6 => ?_)))
    simp only [wj_ne h6]
    exact CJ_if (ih _ _ _ _ m1) last
theorem cj_sp51 (hj : j ≠ 2) {K : Nat → Int32 → Mm → Option (Unit × Mm)} (hK : ∀ x M, mK M 39 = (12, 107) → CJ j v (K 39 x M) (K 39 x (wj j v M))) : ∀ (n : Nat) (x3 x4 x5 : Int32) (M : Mm), mK M 39 = (12, 107) → CJ j v (Mod_spreads_L51 K n 39 x3 x4 x5 M) (Mod_spreads_L51 K n 39 x3 x4 x5 (wj j v M))
  | 0, _, _, _, _, _ => rfl
  | n + 1, x3, x4, x5, M, hM => by
    have ih := cj_sp51 hj hK n
    show CJ j v (Mod_spreads_B51 _ _ _ _ _ _ _) (Mod_spreads_B51 _ _ _ _ _ _ _)
    unfold Mod_spreads_B51 Mod_spreads_J102 Mod_spreads_J106
    simp only [wj_39 (j := j) (show 2 ≠ j from fun e => hj e.symm)]
    refine CJ_ck (CJ_if (CJ_if (CJ_nn (fun b1 => CJ_kA hM (by decide) (fun h1 => ?_))) CJ_some) (CJ_nn (fun b1 => CJ_kA hM (by decide) (fun h1 => ?_))))
    · simp only [wj_sI h1]
      exact cj_sp129 hj hK _ _ _ _ _ hM
    · simp only [wj_ne h1]
      refine CJ_if (CJ_nn (fun b2 => CJ_kA hM (by decide) (fun h2 => ?_))) (ih _ _ _ _ hM)
      simp only [wj_ne h2]
      refine CJ_if (ih _ _ _ _ hM) (CJ_if (ih _ _ _ _ hM) (CJ_nn (fun b3 => CJ_kA hM (by decide) (fun h3 => CJ_nn (fun b4 => CJ_kA hM (by decide) (fun h4 => ?_))))))
      simp only [wj_ne h3, wj_ne h4]
      exact CJ_if (ih _ _ _ _ hM) (ih _ _ _ _ hM)
theorem cj_sp37 (hj : j ≠ 2) : ∀ (n : Nat) (x3 : Int32) (M : Mm), mK M 39 = (12, 107) → CJ j v (Mod_spreads_L37 n 39 x3 M) (Mod_spreads_L37 n 39 x3 (wj j v M))
  | 0, _, _, _ => rfl
  | n + 1, x3, M, hM => by
    have ih := cj_sp37 hj n
    show CJ j v (Mod_spreads_B37 _ _ _ _) (Mod_spreads_B37 _ _ _ _)
    unfold Mod_spreads_B37
    simp only [wj_39 (j := j) (show 2 ≠ j from fun e => hj e.symm)]
    exact CJ_ck (CJ_if CJ_some (cj_sp51 hj ih _ _ _ _ _ hM))
theorem cj_sp2 (hj : j ≠ 2) : ∀ (n : Nat) (x1 x2 x3 : Int32) (M : Mm), mK M 39 = (12, 107) → CJ j v (Mod_spreads_L2 n 39 x1 x2 x3 M) (Mod_spreads_L2 n 39 x1 x2 x3 (wj j v M))
  | 0, _, _, _, _, _ => rfl
  | n + 1, x1, x2, x3, M, hM => by
    have ih := cj_sp2 hj n
    show CJ j v (Mod_spreads_B2 _ _ _ _ _ _) (Mod_spreads_B2 _ _ _ _ _ _)
    unfold Mod_spreads_B2
    refine CJ_if (CJ_ck (CJ_nn (fun b1 => CJ_kA hM (by decide) (fun h1 => ?_)))) (CJ_ck (CJ_nn (fun b1 => CJ_kA hM (by decide) (fun h1 => ?_))))
    · simp only [wj_sI h1]
      exact cj_sp37 hj _ _ _ hM
    · simp only [wj_sI h1]
      refine CJ_nn (fun b2 => CJ_kA hM (by decide) (fun h2 => ?_))
      simp only [wj_sI h2]
      exact ih _ _ _ _ hM
theorem cj_spreads (hj : j ≠ 2) (hM : mK M 39 = (12, 107)) (a b : Int32) : CJ j v (Mod_spreads M 39 a b) (Mod_spreads (wj j v M) 39 a b) := cj_sp2 hj _ _ _ _ _ hM
end ZZ
