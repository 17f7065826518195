section Y3
variable {k : Nat} {ad : Nat → Nat → Nat} {C R R' : Mm}
/-- the class's memory behind a bargain that is struck -/
def bC (C : Mm) (S10 T S13 c j0 q : Nat) (u w by_ se n pr t v : Int32) : Mm := sI (sR (sI (sI (sI (sI (sI (nw (sI (sI C T c u) T j0 w) 0 14) (mZ C) 0 by_) (mZ C) 1 se) (mZ C) 2 n) (mZ C) 3 pr) (mZ C) 4 t) S13 q (some (mZ C))) S10 5 v
variable {S10 T S13 c j0 q : Nat} {u w by_ se n pr t v : Int32}
theorem bC_I (a j : Nat) : mI (bC C S10 T S13 c j0 q u w by_ se n pr t v) a j = if a = S10 ∧ j = 5 then v else if a = mZ C ∧ j = 4 then t else if a = mZ C ∧ j = 3 then pr else if a = mZ C ∧ j = 2 then n else if a = mZ C ∧ j = 1 then se else if a = mZ C ∧ j = 0 then by_ else if a = mZ C then 0 else if a = T ∧ j = j0 then w else if a = T ∧ j = c then u else mI C a j := by
  unfold bC
  rw [mI_sI, mI_sR, mI_sI, mI_sI, mI_sI, mI_sI, mI_sI, mI_nw, mZ_sI, mZ_sI, mI_sI, mI_sI]
theorem bC_R (a j : Nat) : mR (bC C S10 T S13 c j0 q u w by_ se n pr t v) a j = if a = S13 ∧ j = q then some (mZ C) else if a = mZ C then none else mR C a j := by
  unfold bC
  rw [mR_sI, mR_sR, mR_sI, mR_sI, mR_sI, mR_sI, mR_sI, mR_nw, mZ_sI, mZ_sI, mR_sI, mR_sI]
theorem bC_K (a : Nat) : mK (bC C S10 T S13 c j0 q u w by_ se n pr t v) a = if a = mZ C then (0, 14) else mK C a := by
  unfold bC
  rw [mK_sI, mK_sR, mK_sI, mK_sI, mK_sI, mK_sI, mK_sI, mK_nw, mZ_sI, mZ_sI, mK_sI, mK_sI]
theorem bC_Z : mZ (bC C S10 T S13 c j0 q u w by_ se n pr t v) = mZ C + 1 := by
  unfold bC
  simp only [mZ_sI, mZ_sR, mZ_nw]
theorem bC_S : mS (bC C S10 T S13 c j0 q u w by_ se n pr t v) = mS C + 14 := by
  unfold bC
  simp only [mS_sI, mS_sR, mS_nw]
theorem bC_Dt (hA : Ad ad) (h : Dt ad C R) {s y : Nat} (hy : ad 15 y = mZ C) (hs : ad 10 s < mZ C) (ht : ad 12 s < mZ C) : Dt ad (bC C (ad 10 s) (ad 12 s) S13 c j0 q u w by_ se n pr t v) (sI (sI (sI (sI (sI (sI R 98 y by_) 99 y se) 100 y n) 101 y pr) 102 y t) 88 s v) := by
  unfold bC
  refine Dt.stz hA (Dt.rs (Dt.stz hA (Dt.stz hA (Dt.stz hA (Dt.stz hA (Dt.stz hA (Dt.nw (Dt.stcz hA (Dt.stcz hA h 12 s c rfl (Or.inl (by decide)) rfl ht) 12 s j0 rfl (Or.inl (by decide)) rfl ?_)) 15 y 0 rfl (by decide) hy ?_) 15 y 1 rfl (by decide) hy ?_) 15 y 2 rfl (by decide) hy ?_) 15 y 3 rfl (by decide) hy ?_) 15 y 4 rfl (by decide) hy ?_)) 10 s 5 rfl (by decide) rfl ?_
  all_goals first
    | (simp only [mZ_sI, mZ_sR, mZ_nw]; omega)
    | (show ad 12 s < _; simp only [mZ_sI, mZ_sR, mZ_nw]; omega)
theorem bC_DL (h : DL ad C R) : DL ad (bC C S10 T S13 c j0 q u w by_ se n pr t v) R := by
  unfold bC
  exact DL.is (DL.rs (DL.is (DL.is (DL.is (DL.is (DL.is (DL.nw (DL.is (DL.is h)))))))))
/-- what the reference's memory is behind a bargain that is struck -/
def BR (R R' : Mm) (s c j0 q : Nat) (u w by_ se n pr t : Int32) : Prop := (∀ j, mI R' 98 j = if j = 60 * s + q then by_ else mI R 98 j) ∧ (∀ j, mI R' 99 j = if j = 60 * s + q then se else mI R 99 j) ∧ (∀ j, mI R' 100 j = if j = 60 * s + q then n else mI R 100 j) ∧ (∀ j, mI R' 101 j = if j = 60 * s + q then pr else mI R 101 j) ∧ (∀ j, mI R' 102 j = if j = 60 * s + q then t else mI R 102 j) ∧ (∀ j, mI R' 88 j = if j = s then Int32.ofNat (q + 1) else mI R 88 j) ∧ (∀ j, mI R' 109 j = if j = j0 then w else if j = c then u else mI R 109 j) ∧ (∀ a, a ≠ 98 → a ≠ 99 → a ≠ 100 → a ≠ 101 → a ≠ 102 → a ≠ 88 → a ≠ 109 → mI R' a = mI R a) ∧ mL R' = mL R ∧ mR R' = mR R ∧ mK R' = mK R
theorem barg_R (h : Rel k ad C R) (o : mI R 39 73 = 1) {s : Nat} (t1 : s + 1 = ix (mI R 39 70)) (hc : c < ix (mI R 87 s)) (hj : j0 < c) (hq : ix (mI R 88 s) = q) (c0 : mI R 109 c ≠ 0) (d0 : mI R 109 j0 ≠ 0) (hu : 0 ≤ u ∧ u ≤ 50) (hw : 0 ≤ w ∧ w ≤ 50) (hz : u = 0 ∨ w = 0) (hb : 0 ≤ by_ ∧ by_ < mI R 39 9) (hse : 0 ≤ se ∧ se < mI R 39 9) (hn : 1 ≤ n ∧ n ≤ 50) (hpr : 1 ≤ pr ∧ pr ≤ 9999) (ht : 0 ≤ t ∧ t ≤ mI R 39 0) (hx : ad 15 (60 * s + q) = mZ C) (far : ∀ c' i, ¬ (c' = 15 ∧ i = 60 * s + q) → ad c' i < mZ C ∨ mZ C + 200 ≤ ad c' i) (room : mZ C + 1 ≤ 116 + 100 * k ∧ mS C + 14 ≤ 45818 + 2000 * k) (hR : BR R R' s c j0 q u w by_ se n pr t) : Rel k ad (bC C (ad 10 s) (ad 12 s) (ad 13 s) c j0 q u w by_ se n pr t (Int32.ofNat (q + 1))) R' := by
  have hN := n24 h
  have s24 : s < 24 := by omega
  have hs : s < ix (mI R 39 70) := by omega
  have b60s := n60 h s24
  obtain ⟨q98, q99, q100, q101, q102, q88, q109, qo, qL, qR, qK⟩ := hR
  have lv10 : ad 10 s < mZ C := al_lt h (alN (by decide) hs)
  have lv12 : ad 12 s < mZ C := al_lt h (alN (by decide) hs)
  have lv13 : ad 13 s < mZ C := al_lt h (alN (by decide) hs)
  have ge : ∀ c i, 116 ≤ ad c i := h.hA.1
  have hD : Dt ad (bC C (ad 10 s) (ad 12 s) (ad 13 s) c j0 q u w by_ se n pr t (Int32.ofNat (q + 1))) (sI (sI (sI (sI (sI (sI R 98 (60 * s + q) by_) 99 (60 * s + q) se) 100 (60 * s + q) n) 101 (60 * s + q) pr) 102 (60 * s + q) t) 88 s (Int32.ofNat (q + 1))) := bC_Dt h.hA h.dt hx lv10 lv12
  have hL : DL ad (bC C (ad 10 s) (ad 12 s) (ad 13 s) c j0 q u w by_ se n pr t (Int32.ofNat (q + 1))) R := bC_DL h.dl
  generalize hv : bC C (ad 10 s) (ad 12 s) (ad 13 s) c j0 q u w by_ se n pr t (Int32.ofNat (q + 1)) = C' at *
  have cI : ∀ a j, mI C' a j = if a = ad 10 s ∧ j = 5 then Int32.ofNat (q + 1) else if a = mZ C ∧ j = 4 then t else if a = mZ C ∧ j = 3 then pr else if a = mZ C ∧ j = 2 then n else if a = mZ C ∧ j = 1 then se else if a = mZ C ∧ j = 0 then by_ else if a = mZ C then 0 else if a = ad 12 s ∧ j = j0 then w else if a = ad 12 s ∧ j = c then u else mI C a j := fun a j => by rw [← hv]; exact bC_I a j
  have cR : ∀ a j, mR C' a j = if a = ad 13 s ∧ j = q then some (mZ C) else if a = mZ C then none else mR C a j := fun a j => by rw [← hv]; exact bC_R a j
  have cK : ∀ a, mK C' a = if a = mZ C then (0, 14) else mK C a := fun a => by rw [← hv]; exact bC_K a
  have cZ : mZ C' = mZ C + 1 := by rw [← hv]; exact bC_Z
  have cS : mS C' = mS C + 14 := by rw [← hv]; exact bC_S
  clear hv
  have D2 : Dt ad C' R' := hD.eqR (fun a j z => by
    rw [mI_sI, mI_sI, mI_sI, mI_sI, mI_sI, mI_sI]
    by_cases a1 : a = 88
    · subst a1
      rw [q88]
      by_cases w : j = s
      · rw [if_pos w, if_pos ⟨rfl, w⟩]
      · rw [if_neg w, if_neg (fun z => w z.2), if_neg (by omega), if_neg (by omega), if_neg (by omega), if_neg (by omega), if_neg (by omega)]
    · rw [if_neg (fun z => a1 z.1)]
      by_cases a2 : a = 102
      · subst a2
        rw [q102]
        by_cases w : j = 60 * s + q
        · rw [if_pos w, if_pos ⟨rfl, w⟩]
        · rw [if_neg w, if_neg (fun z => w z.2), if_neg (by omega), if_neg (by omega), if_neg (by omega), if_neg (by omega)]
      · rw [if_neg (fun z => a2 z.1)]
        by_cases a3 : a = 101
        · subst a3
          rw [q101]
          by_cases w : j = 60 * s + q
          · rw [if_pos w, if_pos ⟨rfl, w⟩]
          · rw [if_neg w, if_neg (fun z => w z.2), if_neg (by omega), if_neg (by omega), if_neg (by omega)]
        · rw [if_neg (fun z => a3 z.1)]
          by_cases a4 : a = 100
          · subst a4
            rw [q100]
            by_cases w : j = 60 * s + q
            · rw [if_pos w, if_pos ⟨rfl, w⟩]
            · rw [if_neg w, if_neg (fun z => w z.2), if_neg (by omega), if_neg (by omega)]
          · rw [if_neg (fun z => a4 z.1)]
            by_cases a5 : a = 99
            · subst a5
              rw [q99]
              by_cases w : j = 60 * s + q
              · rw [if_pos w, if_pos ⟨rfl, w⟩]
              · rw [if_neg w, if_neg (fun z => w z.2), if_neg (by omega)]
            · rw [if_neg (fun z => a5 z.1)]
              by_cases a6 : a = 98
              · subst a6
                rw [q98]
                by_cases w : j = 60 * s + q
                · rw [if_pos w, if_pos ⟨rfl, w⟩]
                · rw [if_neg w, if_neg (fun z => w z.2)]
              · rw [if_neg (fun z => a6 z.1)]
                have a9 : a ≠ 109 := fun w => by subst w; exact z rfl
                rw [qo a a6 a5 a4 a3 a2 a1 a9])
  have g : ∀ a, a ≠ 98 ∧ a ≠ 99 ∧ a ≠ 100 ∧ a ≠ 101 ∧ a ≠ 102 ∧ a ≠ 88 ∧ a ≠ 109 → mI R' a = mI R a := fun a w => qo a w.1 w.2.1 w.2.2.1 w.2.2.2.1 w.2.2.2.2.1 w.2.2.2.2.2.1 w.2.2.2.2.2.2
  have so := h.ison o
  rw [← t1, Nat.add_sub_cancel] at so
  obtain ⟨so1, so2, so3, so4, so5⟩ := so
  have e39 := g 39 (by decide)
  have g87 := g 87 (by decide)
  have hm1 : sumTo (fun i => if mI R' 109 i = 0 then (0 : Int) else 1) 60 + 1 ≤ sumTo (fun i => if mI R 109 i = 0 then (0 : Int) else 1) 60 := by
    have s1 := sumTo_one (f := fun i => if (if i = c then u else mI R 109 i) = 0 then (0 : Int) else 1) (g := fun i => if mI R 109 i = 0 then (0 : Int) else 1) (n := 60) (i := c) (by omega) (fun j _ w => by
      show (if (if j = c then u else mI R 109 j) = 0 then (0 : Int) else 1) = _
      rw [if_neg w])
    have s2 := sumTo_one (f := fun i => if mI R' 109 i = 0 then (0 : Int) else 1) (g := fun i => if (if i = c then u else mI R 109 i) = 0 then (0 : Int) else 1) (n := 60) (i := j0) (by omega) (fun j _ w => by
      show (if mI R' 109 j = 0 then (0 : Int) else 1) = (if (if j = c then u else mI R 109 j) = 0 then (0 : Int) else 1)
      rw [q109, if_neg w])
    have v1 : (if (if c = c then u else mI R 109 c) = 0 then (0 : Int) else 1) = if u = 0 then 0 else 1 := by rw [if_pos rfl]
    have v2 : (if mI R 109 c = 0 then (0 : Int) else 1) = 1 := if_neg c0
    have v3 : (if mI R' 109 j0 = 0 then (0 : Int) else 1) = if w = 0 then 0 else 1 := by rw [q109, if_pos rfl]
    have v4 : (if (if j0 = c then u else mI R 109 j0) = 0 then (0 : Int) else 1) = 1 := by rw [if_neg (show ¬ j0 = c by omega), if_neg d0]
    simp only [v1, v2] at s1
    simp only [v3, v4] at s2
    rw [s2, s1]
    simp only [if_true]
    rcases hz with z | z
    · rw [if_pos z]; split <;> omega
    · rw [if_pos z]; split <;> omega
  have sge : 0 ≤ sumTo (fun i => if mI R' 109 i = 0 then (0 : Int) else 1) 60 := sumTo_nn (fun j _ => by show (0 : Int) ≤ if mI R' 109 j = 0 then (0 : Int) else 1; split <;> omega)
  have q60 : q + 1 ≤ ix (mI R 87 s) := by omega
  have xc : ix (Int32.ofNat (q + 1)) = q + 1 := ix_of _ (by omega)
  have c1b : (0 : Int32) ≤ Int32.ofNat (q + 1) := of_nn _ (by omega)
  have n88 : ix (mI R' 88 s) = q + 1 := by rw [q88, if_pos rfl, xc]
  have o88 : ∀ s', s' ≠ s → mI R' 88 s' = mI R 88 s' := fun s' w => by rw [q88, if_neg w]
  have fI : ∀ c' i, c' ≠ 10 → c' ≠ 12 → ¬ (c' = 15 ∧ i = 60 * s + q) → mI C' (ad c' i) = mI C (ad c' i) := fun c' i w w2 q => by
    have := far c' i q
    funext j
    rw [cI, if_neg (fun z => w (h.hA.2 _ _ _ _ z.1).1), if_neg (by omega), if_neg (by omega), if_neg (by omega), if_neg (by omega), if_neg (by omega), if_neg (by omega), if_neg (fun z => w2 (h.hA.2 _ _ _ _ z.1).1), if_neg (fun z => w2 (h.hA.2 _ _ _ _ z.1).1)]
  have fK : ∀ c' i, ¬ (c' = 15 ∧ i = 60 * s + q) → mK C' (ad c' i) = mK C (ad c' i) := fun c' i q => by
    have := far c' i q
    rw [cK, if_neg (by omega)]
  have fR : ∀ c' i, c' ≠ 13 → ¬ (c' = 15 ∧ i = 60 * s + q) → mR C' (ad c' i) = mR C (ad c' i) := fun c' i w q => by
    have := far c' i q
    funext j
    rw [cR, if_neg (fun z => w (h.hA.2 _ _ _ _ z.1).1), if_neg (by omega)]
  have f10 : ∀ i j, j ≠ 5 → mI C' (ad 10 i) j = mI C (ad 10 i) j := fun i j w => by
    have := far 10 i (by omega)
    rw [cI, if_neg (fun z => w z.2), if_neg (by omega), if_neg (by omega), if_neg (by omega), if_neg (by omega), if_neg (by omega), if_neg (by omega), if_neg (fun z => by have := (h.hA.2 _ _ _ _ z.1).1; omega), if_neg (fun z => by have := (h.hA.2 _ _ _ _ z.1).1; omega)]
  obtain ⟨l1, l2, l3, l4, l5⟩ := h.lv
  obtain ⟨z1, z2, z3, z4, z5, z6, z7, z8, z9⟩ := h.ise
  have new9 := z9 s q s24 (by omega) (by omega)
  refine h.ses ⟨by omega, fun a w => ?_, fun a j w => ?_, by omega, by omega⟩ (fun c' i w => fI c' i (by omega) (by omega) (by omega)) (fun c' i w => fK c' i (by omega)) (fun c' i w => fR c' i (by omega) (by omega)) (fun a w => ?_) (fun a w => ?_) D2 ?_ e39 (fun a w => ?_) qL qR qK ⟨fun s' w => ?_, ?_, fun c' i => ?_⟩ ?_ ?_ ?_ ?_ ?_
  · rw [cK, if_neg (by omega)]; exact l2 a (by omega)
  · rw [cR, if_neg (by omega), if_neg (by omega)]; exact l3 a j (by omega)
  · rw [cK, if_neg (by omega)]
  · funext j
    have := ge 13 s
    rw [cR, if_neg (by omega), if_neg (by omega)]
  · intro c' i j q
    rw [qL]
    exact hL c' i j q
  · unfold tS at w
    exact g a (by omega)
  · rw [e39] at w
    obtain ⟨a1, a2, a3, a4, a5, a6, a7, a8, a9, a10⟩ := h.shn.1 s' w
    rw [fR 10 s' (by decide) (by omega), fR 11 s' (by decide) (by omega), fK 10 s' (by omega), fK 11 s' (by omega), fK 12 s' (by omega), fK 13 s' (by omega), g87]
    have s37 : mR C' 37 s' = mR C 37 s' := by
      have := ge 13 s
      rw [cR, if_neg (by omega), if_neg (by omega)]
    rw [s37]
    have b60 := n60 h (show s' < 24 by omega)
    refine ⟨a1, a2, a3, a4, a5, a6, a7, a8, fun b' hb' => ?_, fun c' hc' => ?_⟩
    · rw [fK 14 _ (by omega)]
      exact a9 b' hb'
    · by_cases y : s' = s
      · rw [y, n88] at hc'
        rw [y]
        by_cases y2 : c' = q
        · rw [y2, hx, cR, if_pos ⟨rfl, rfl⟩, cK, if_pos rfl]
          exact ⟨rfl, rfl⟩
        · rw [y] at a10
          obtain ⟨u1, u2⟩ := a10 c' (by omega)
          rw [fK 15 _ (by omega), cR, if_neg (fun z => y2 z.2), if_neg (by omega)]
          exact ⟨u1, u2⟩
      · rw [o88 s' y] at hc'
        obtain ⟨u1, u2⟩ := a10 c' hc'
        have := far 13 s' (by omega)
        rw [fK 15 _ (by omega), cR, if_neg (fun z => y (h.hA.2 _ _ _ _ z.1).2), if_neg (by omega)]
        exact ⟨u1, u2⟩
  · have s8 : mR C' 8 14 = mR C 8 14 := by
      have := ge 13 s
      rw [cR, if_neg (by omega), if_neg (by omega)]
    rw [s8, e39]
    exact h.shn.2.1
  · have old := h.shn.2.2 c' i
    by_cases y : c' = 15 ∧ i = 60 * s + q
    · left
      unfold Al
      obtain ⟨y1, y2⟩ := y
      refine Or.inr (Or.inr (Or.inr (Or.inr (Or.inl ⟨y1, ?_, ?_⟩))))
      · rw [show i / 60 = s by omega, n88]; omega
      · rw [e39]; omega
    · rcases old with z | z
      · left
        unfold Al at z ⊢
        rw [e39, g87]
        rcases z with z | z | z | z | ⟨x1, x2, x3⟩ | z
        · exact Or.inl z
        · exact Or.inr (Or.inl z)
        · exact Or.inr (Or.inr (Or.inl z))
        · exact Or.inr (Or.inr (Or.inr (Or.inl z)))
        · refine Or.inr (Or.inr (Or.inr (Or.inr (Or.inl ⟨x1, ?_, x3⟩))))
          by_cases y3 : i / 60 = s
          · rw [y3, n88]; rw [y3, hq] at x2; omega
          · rw [o88 _ y3]; exact x2
        · exact Or.inr (Or.inr (Or.inr (Or.inr (Or.inr z))))
      · have := far c' i y
        right; omega
  · have c87 : Int32.ofNat (q + 1) ≤ mI R 87 s := by
      rw [← of_ix _ b60s.2.2.1]
      exact (of_le (q + 1) _ (by omega) (by omega)).mpr q60
    unfold Ise
    rw [e39, g87, g 84 (by decide), g 86 (by decide), g 89 (by decide), g 85 (by decide), g 90 (by decide), g 92 (by decide), g 93 (by decide), g 94 (by decide), g 95 (by decide), g 97 (by decide), g 103 (by decide), g 104 (by decide), g 105 (by decide), g 107 (by decide), g 108 (by decide)]
    refine ⟨fun s' w => ?_, fun s' y w => ?_, z3, z4, z5, fun s' c' w y => ?_, z7, z8, fun s' c' w y1 y2 => ?_⟩
    · obtain ⟨a1, a2, a3, a4, a5⟩ := z1 s' w
      refine ⟨a1, ?_, a3, a4, a5⟩
      rw [q88]; split
      · rename_i y; rw [y]; exact ⟨c1b, c87⟩
      · exact a2
    · rw [q88, if_neg (by omega)]
      exact z2 s' y w
    · rw [q98, q99, q100, q101, q102]
      by_cases y2 : s' = s ∧ c' = q
      · rw [if_pos (by omega), if_pos (by omega), if_pos (by omega), if_pos (by omega), if_pos (by omega)]
        exact ⟨hb, hse, hn, hpr, ht⟩
      · have y3 : c' < ix (mI R 88 s') := by
          by_cases y4 : s' = s
          · rw [y4, n88] at y; rw [y4, hq]; omega
          · rw [o88 s' y4] at y; exact y
        have b60 := n60 h w
        rw [if_neg (by omega), if_neg (by omega), if_neg (by omega), if_neg (by omega), if_neg (by omega)]
        exact z6 s' c' w y3
    · refine z9 s' c' w ?_ y2
      by_cases y4 : s' = s
      · rw [y4, n88] at y1; rw [y4, hq]; omega
      · rw [o88 s' y4] at y1; exact y1
  · intro _
    rw [e39, g87, ← t1, Nat.add_sub_cancel, n88]
    refine ⟨so1, so2, fun c' w => ?_, fun c' y w => ?_, by omega⟩
    · rw [q109]
      split
      · exact hw
      · split
        · exact hu
        · exact so3 c' w
    · rw [q109, if_neg (by omega), if_neg (by omega)]
      exact so4 c' y w
  · refine ⟨fun s' w => ?_, fun _ c' w => ?_⟩
    · rw [e39] at w ⊢
      rw [f10 s' 7 (by decide)]
      exact h.son.1 s' w
    · have st := h.son.2 o c' w
      rw [← t1, Nat.add_sub_cancel] at st
      rw [e39, ← t1, Nat.add_sub_cancel, q109, cI, if_neg (fun z => by have := (h.hA.2 _ _ _ _ z.1).1; omega), if_neg (by omega), if_neg (by omega), if_neg (by omega), if_neg (by omega), if_neg (by omega), if_neg (by omega)]
      by_cases y1 : c' = j0
      · rw [if_pos ⟨rfl, y1⟩, if_pos y1]
      · rw [if_neg (fun z => y1 z.2), if_neg y1]
        by_cases y2 : c' = c
        · rw [if_pos ⟨rfl, y2⟩, if_pos y2]
        · rw [if_neg (fun z => y2 z.2), if_neg y2]
          exact st
  · intro s' b' w y
    rw [e39] at w
    rw [g 105 (by decide), g 106 (by decide)]
    by_cases y2 : s' = s ∧ b' = q
    · have i9 : ∀ j, 9 ≤ j → mI C' (ad 15 (60 * s' + b')) j = 0 := fun j hj => by
        rw [y2.1, y2.2, hx, cI, if_neg (by omega), if_neg (by omega), if_neg (by omega), if_neg (by omega), if_neg (by omega), if_neg (by omega), if_pos rfl]
      rw [i9 9 (by decide), i9 10 (by decide), i9 11 (by decide), y2.1, y2.2, new9.2.2.1]
      exact ⟨Or.inl rfl, Or.inl rfl, rfl, fun z => absurd rfl z⟩
    · have b60 := n60 h (show s' < 24 by omega)
      have y3 : b' < ix (mI R 88 s') := by
        by_cases y4 : s' = s
        · rw [y4, n88] at y; rw [y4, hq]; omega
        · rw [o88 s' y4] at y; exact y
      rw [fI 15 _ (by decide) (by decide) (by omega)]
      exact h.den s' b' w y3
  · intro s' w'
    rw [e39] at w'
    obtain ⟨w1, w2, w3, w4, w5⟩ := h.evs s' w'
    rw [e39, g87, g 90 (by decide), g 96 (by decide)]
    have bC : ∀ x, mI C' (ad 14 x) 5 = mI C (ad 14 x) 5 := fun x => congrFun (fI 14 x (by decide) (by decide) (by omega)) 5
    simp only [bC]
    refine ⟨w1, w2, w3, w4, fun o' y c' hc' hb' => ?_⟩
    have w6 := w5 o' y c' hc' hb'
    rw [q109, if_neg (fun z => d0 (by rw [← z]; exact w6)), if_neg (fun z => c0 (by rw [← z]; exact w6))]
    exact w6
end Y3
