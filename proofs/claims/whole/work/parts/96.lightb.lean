section X11
variable {k : Nat} {ad : Nat → Nat → Nat} {C R R' : Mm}
theorem sumTo_n {f : Nat → Int} : ∀ {n : Nat}, (∀ j, j < n → f j = 0) → sumTo f n = 0
  | 0, _ => rfl
  | n + 1, h => by
    show sumTo f n + f n = 0
    rw [sumTo_n (fun j hj => h j (by omega)), h n (by omega)]
    rfl
/-- what the reference's memory is behind light -/
def LR (R R' : Mm) (N : Nat) (n r : Int32) : Prop := (∀ j, mI R' 39 j = if j = 70 then n + 1 else if j = 72 then r else if j = 73 then 1 else mI R 39 j) ∧ (∀ j, mI R' 83 j = if j = N then mI R 39 0 else mI R 83 j) ∧ (∀ j, mI R' 84 j = if j = N then -1 else mI R 84 j) ∧ (∀ j, mI R' 85 j = if j = N then -1 else mI R 85 j) ∧ (∀ j, j < 60 → mI R' 109 j = 0) ∧ (∀ a, a ≠ 39 → a ≠ 83 → a ≠ 84 → a ≠ 85 → a ≠ 109 → mI R' a = mI R a) ∧ mL R' = mL R ∧ mR R' = mR R ∧ mK R' = mK R
theorem light_R (h : Rel k ad C R) (hk : k < 512) {N : Nat} {n r : Int32} (en : mI R 39 70 = n) (hN : ix n = N) (off : mI R 39 73 = 0) (lt : n < 24) (r1 : 1 ≤ r ∧ r ≤ 99999) (h4 : ∀ c, 10 ≤ c → c ≤ 13 → ad c N = mZ C + (c - 10)) (far : ∀ c i, ¬ (10 ≤ c ∧ c ≤ 13 ∧ i = N) → ad c i < mZ C ∨ mZ C + 200 ≤ ad c i) (hR : LR R R' N n r) : Rel (k + 1) ad (lC C N (n + 1) (mI R 39 0) r) R' := by
  have hz := h.lv.1
  have hS := h.isc.sessions
  have hcs := h.isc.cs
  have hcl := h.isc.closes
  rw [en] at hS hcs
  rw [off] at hcs
  have b4 : 0 ≤ n + 1 ∧ n + 1 ≤ 24 := by clear h4 far h hR; grind
  have b5 : mI R 39 71 + 1 ≤ n + 1 := by clear h4 far h hR; grind
  have xn : ix (n + 1) = N + 1 := by rw [ix_s1 _ hS.1 (by clear h4 far h hR; grind), hN]
  have n24 : N < 24 := by rw [← hN]; exact ix_b 24 hS.1 lt (by decide) (by decide)
  obtain ⟨e39, e83, e84, e85, e109, eo, eL, eR, eK⟩ := hR
  have f : ∀ j, j ≠ 70 → j ≠ 72 → j ≠ 73 → mI R' 39 j = mI R 39 j := fun j p q w => by rw [e39, if_neg p, if_neg q, if_neg w]
  have f70 : mI R' 39 70 = n + 1 := e39 70
  have f72 : mI R' 39 72 = r := e39 72
  have f73 : mI R' 39 73 = 1 := e39 73
  have g : ∀ a, a ≠ 39 ∧ a ≠ 83 ∧ a ≠ 84 ∧ a ≠ 85 ∧ a ≠ 109 → mI R' a = mI R a := fun a p => eo a p.1 p.2.1 p.2.2.1 p.2.2.2.1 p.2.2.2.2
  have ge : ∀ c i, 116 ≤ ad c i := h.hA.1
  generalize hv : lC C N (n + 1) (mI R 39 0) r = C'
  have cI : ∀ a j, mI C' a j = if a = 8 ∧ j = 13 then n + 1 else if a = mZ C ∧ j = 9 then -1 else if a = mZ C ∧ j = 8 then -1 else if a = mZ C + 3 then 0 else if a = mZ C + 2 then 0 else if a = mZ C + 1 then 0 else if a = mZ C ∧ j = 7 then r else if a = mZ C ∧ j = 0 then mI R 39 0 else if a = mZ C then 0 else mI C a j := fun a j => by rw [← hv]; exact lC_I _ _ _ _ _ _ _
  have cK : ∀ a, mK C' a = if a = mZ C + 3 then (29, 60) else if a = mZ C + 2 then (20, 60) else if a = mZ C + 1 then (28, 60) else if a = mZ C then (9, 11) else mK C a := fun a => by rw [← hv]; exact lC_K _ _ _ _ _ _
  have cR : ∀ a j, mR C' a j = if a = 37 ∧ j = N then some (mZ C) else if a = 8 ∧ j = 14 then some (mZ C) else if a = mZ C ∧ j = 3 then some (mZ C + 3) else if a = mZ C + 3 then none else if a = mZ C ∧ j = 2 then some (mZ C + 2) else if a = mZ C + 2 then none else if a = mZ C ∧ j = 1 then some (mZ C + 1) else if a = mZ C + 1 then none else if a = mZ C then none else mR C a j := fun a j => by rw [← hv]; exact lC_R _ _ _ _ _ _ _
  have cZ : mZ C' = mZ C + 4 := by rw [← hv]; exact lC_Z _ _ _ _ _
  have cS : mS C' = mS C + 191 := by rw [← hv]; exact lC_S _ _ _ _ _
  have D1 : Dt ad C' (sI (sI (sI (sI R 83 N (mI R 39 0)) 84 N (-1)) 85 N (-1)) 39 70 (n + 1)) := by rw [← hv]; exact lC_Dt h (h4 10 (by decide) (by decide))
  have L1 : DL ad C' R := by rw [← hv]; exact lC_DL h
  clear hv
  have D2 : Dt ad C' R' := D1.eqR (fun a j q => by
    rw [mI_sI, mI_sI, mI_sI, mI_sI]
    by_cases a1 : a = 39
    · subst a1
      have n1 : j ≠ 72 := fun w => by subst w; exact q rfl
      have n2 : j ≠ 73 := fun w => by subst w; exact q rfl
      rw [e39, if_neg n1, if_neg n2]
      by_cases a2 : j = 70
      · rw [if_pos a2, if_pos ⟨rfl, a2⟩]
      · rw [if_neg a2, if_neg (fun w => a2 w.2), if_neg (by omega), if_neg (by omega), if_neg (by omega)]
    · rw [if_neg (fun w => a1 w.1)]
      by_cases a2 : a = 83
      · subst a2
        rw [if_neg (by omega), if_neg (by omega), e83]
        by_cases a3 : j = N
        · rw [if_pos a3, if_pos ⟨rfl, a3⟩]
        · rw [if_neg a3, if_neg (fun w => a3 w.2)]
      · by_cases a3 : a = 84
        · subst a3
          rw [if_neg (by omega), e84]
          by_cases a3 : j = N
          · rw [if_pos a3, if_pos ⟨rfl, a3⟩]
          · rw [if_neg a3, if_neg (fun w => a3 w.2), if_neg (by omega)]
        · by_cases a4 : a = 85
          · subst a4
            rw [e85]
            by_cases a3 : j = N
            · rw [if_pos a3, if_pos ⟨rfl, a3⟩]
            · rw [if_neg a3, if_neg (fun w => a3 w.2), if_neg (by omega), if_neg (by omega)]
          · have a5 : a ≠ 109 := fun w => by subst w; exact q rfl
            rw [if_neg (fun w => a4 w.1), if_neg (fun w => a3 w.1), if_neg (fun w => a2 w.1), eo a a1 a2 a3 a4 a5])
  have rI : ∀ a, a ≠ 8 → a < mZ C ∨ mZ C + 4 ≤ a → mI C' a = mI C a := fun a p q => by
    funext j
    rw [cI, if_neg (fun w => p w.1), if_neg (fun w => by omega), if_neg (fun w => by omega), if_neg (by omega), if_neg (by omega), if_neg (by omega), if_neg (fun w => by omega), if_neg (fun w => by omega), if_neg (by omega)]
  have rK : ∀ a, a < mZ C ∨ mZ C + 4 ≤ a → mK C' a = mK C a := fun a q => by
    rw [cK, if_neg (by omega), if_neg (by omega), if_neg (by omega), if_neg (by omega)]
  have rR : ∀ a, a ≠ 37 → a ≠ 8 → a < mZ C ∨ mZ C + 4 ≤ a → mR C' a = mR C a := fun a p p2 q => by
    funext j
    rw [cR, if_neg (fun w => p w.1), if_neg (fun w => p2 w.1), if_neg (fun w => by omega), if_neg (by omega), if_neg (fun w => by omega), if_neg (by omega), if_neg (fun w => by omega), if_neg (by omega), if_neg (by omega)]
  have fI : ∀ c i, ¬ (10 ≤ c ∧ c ≤ 13 ∧ i = N) → mI C' (ad c i) = mI C (ad c i) := fun c i q => rI _ (by have := ge c i; omega) (by have := far c i q; omega)
  have fK : ∀ c i, ¬ (10 ≤ c ∧ c ≤ 13 ∧ i = N) → mK C' (ad c i) = mK C (ad c i) := fun c i q => rK _ (by have := far c i q; omega)
  have fR : ∀ c i, ¬ (10 ≤ c ∧ c ≤ 13 ∧ i = N) → mR C' (ad c i) = mR C (ad c i) := fun c i q => rR _ (by have := ge c i; omega) (by have := ge c i; omega) (by have := far c i q; omega)
  obtain ⟨i1, i2, i3, i4, i5, i6, i7, i8, i9, i10, i11⟩ := h.isc
  obtain ⟨l1, l2, l3, l4, l5⟩ := h.lv
  obtain ⟨z1, z2, z3, z4, z5, z6, z7, z8, z9⟩ := h.ise
  rw [en, hN] at z2 z4
  have z87 : mI R 87 N = 0 := (z2 N (Nat.le_refl _) n24).1
  have z88 : mI R 88 N = 0 := (z2 N (Nat.le_refl _) n24).2.1
  have z90 : mI R 90 N = 0 := (z2 N (Nat.le_refl _) n24).2.2.1
  have z89 : mI R 89 N = 0 := (z2 N (Nat.le_refl _) n24).2.2.2.1
  have g87 := g 87 (by decide)
  have g88 := g 88 (by decide)
  have g90 := g 90 (by decide)
  have g96 := g 96 (by decide)
  refine Rel.mk ⟨fun a x y => ?_, fun a j b x y => ?_⟩ (h.sr.sm eK eR) h.hA ⟨by omega, fun a x => ?_, fun a j x => ?_, by omega, by omega⟩ D2 ?_ ?_ ?_ ?_ (fun i hi => ?_) (fun s hs => ?_) ?_ ?_ (fun t ht => ?_) ?_ ?_ ⟨fun s hs => ?_, ?_, fun c i => ?_⟩ ?_ ?_ ?_ ?_ ?_
  · rw [rK a (by omega)]; exact h.sc.1 a x y
  · have q1 : a ≠ 37 := fun q => by rw [q] at y; cases y
    by_cases q2 : a = 8
    · subst q2
      have q3 : j ≠ 14 := fun q => by rw [q] at y; cases y
      rw [cR, if_neg (by omega), if_neg (by omega), if_neg (by omega), if_neg (by omega), if_neg (by omega), if_neg (by omega), if_neg (by omega), if_neg (by omega), if_neg (by omega)]
      exact h.sc.2 8 j b x y
    · rw [rR a q1 q2 (by omega)]; exact h.sc.2 a j b x y
  · rw [rK a (by omega)]; exact l2 a (by omega)
  · rw [rR a (by omega) (by omega) (by omega)]; exact l3 a j (by omega)
  · intro c i j q
    rw [eL]
    exact L1 c i j q
  · refine ⟨?_, ?_, ?_, ?_, ?_, ?_, ?_, ?_, ?_, ?_, ?_, ?_, ?_⟩
    · rw [f 0 (by decide) (by decide) (by decide)]; exact i1
    · rw [f 1 (by decide) (by decide) (by decide)]; exact i2
    · rw [f 2 (by decide) (by decide) (by decide)]; exact i3
    · rw [f 9 (by decide) (by decide) (by decide)]; exact i4
    · rw [f 22 (by decide) (by decide) (by decide)]; exact i5
    · rw [f 23 (by decide) (by decide) (by decide)]; exact i6
    · rw [f 24 (by decide) (by decide) (by decide)]; exact i7
    · rw [f 54 (by decide) (by decide) (by decide)]; exact i8
    · rw [f 71 (by decide) (by decide) (by decide)]; exact i9
    · rw [f 37 (by decide) (by decide) (by decide)]; exact i10
    · rw [f70]; exact b4
    · rw [f73]; exact Or.inr rfl
    · rw [f 71 (by decide) (by decide) (by decide), f73, f70]; exact b5
  · have q := h.ila
    unfold Ila at q ⊢
    rw [g 40 (by decide), g 41 (by decide), g 42 (by decide), g 43 (by decide), g 79 (by decide)]
    exact q
  · have q := h.ipe.up hk
    unfold Ipe at q ⊢
    rw [g 46 (by decide), g 47 (by decide), g 49 (by decide), g 91 (by decide), g 112 (by decide), f 2 (by decide) (by decide) (by decide), f 0 (by decide) (by decide) (by decide), f 71 (by decide) (by decide) (by decide), f 21 (by decide) (by decide) (by decide), eL]
    exact q
  · rw [f 9 (by decide) (by decide) (by decide)] at hi
    rw [rR 16 (by decide) (by decide) (by omega), fR 1 i (by omega), fK 1 i (by omega), fK 2 i (by omega), fK 3 i (by omega)]
    exact h.shp i hi
  · rw [f 22 (by decide) (by decide) (by decide)] at hs
    rw [rR 17 (by decide) (by decide) (by omega), fR 4 s (by omega), fK 4 s (by omega), fK 5 s (by omega), fK 6 s (by omega), fK 7 s (by omega), fK 8 s (by omega), fK 9 s (by omega)]
    exact h.shs s hs
  · have q := h.ist
    unfold Ist sumP sumW at q ⊢
    rw [f 0 (by decide) (by decide) (by decide), f 9 (by decide) (by decide) (by decide), f 22 (by decide) (by decide) (by decide), f 23 (by decide) (by decide) (by decide), f 24 (by decide) (by decide) (by decide), g 53 (by decide), g 54 (by decide), g 55 (by decide), g 56 (by decide), g 57 (by decide), g 59 (by decide), g 62 (by decide), g 63 (by decide), g 64 (by decide), g 65 (by decide)]
    exact q
  · exact h.qs.cg (fun s j _ => congrFun (fI 4 s (by omega)) j) (fun c s _ _ => fI c s (by omega)) (f 22 (by decide) (by decide) (by decide)) (f 23 (by decide) (by decide) (by decide)) (f 24 (by decide) (by decide) (by decide)) (g 53 (by decide)) (g 59 (by decide)) (g 60 (by decide)) (g 61 (by decide)) (g 62 (by decide)) (g 63 (by decide)) (g 64 (by decide)) (g 65 (by decide))
  · rw [f 37 (by decide) (by decide) (by decide)] at ht
    rw [rR 28 (by decide) (by decide) (by omega), fR 16 t (by omega), fK 16 t (by omega), fK 17 t (by omega), fK 18 t (by omega), fK 19 t (by omega), fK 20 t (by omega), g 67 (by decide)]
    exact h.she t ht
  · have q := h.ied
    unfold Ied at q ⊢
    rw [f 46 (by decide) (by decide) (by decide), f 37 (by decide) (by decide) (by decide), f 52 (by decide) (by decide) (by decide), g 66 (by decide), g 67 (by decide), g 68 (by decide), g 69 (by decide), g 70 (by decide), g 72 (by decide), g 73 (by decide)]
    exact q
  · exact h.eds.cg2 (fun t => fK 20 t (by omega)) (fun c s _ _ => fI c s (by omega)) (f 37 (by decide) (by decide) (by decide)) (g 66 (by decide)) (g 67 (by decide)) (g 69 (by decide)) (g 70 (by decide)) (g 71 (by decide)) (g 72 (by decide)) (g 73 (by decide)) (g 74 (by decide)) (g 75 (by decide)) (g 76 (by decide)) (g 77 (by decide))
  · rw [f70, xn] at hs
    rw [g87, g88]
    by_cases c : s = N
    · subst c
      rw [h4 10 (by decide) (by decide), h4 11 (by decide) (by decide), h4 12 (by decide) (by decide), h4 13 (by decide) (by decide), z87, z88]
      refine ⟨?_, ?_, ?_, ?_, ?_, ?_, ?_, ?_, fun c hc => absurd hc (Nat.not_lt_zero c), fun c hc => absurd hc (Nat.not_lt_zero c)⟩
      · rw [cR, if_pos ⟨rfl, rfl⟩]; rfl
      · rw [cK, if_neg (by omega), if_neg (by omega), if_neg (by omega), if_pos (by omega)]
      · rw [cR, if_neg (by omega), if_neg (by omega), if_neg (by omega), if_neg (by omega), if_neg (by omega), if_neg (by omega), if_pos (by omega)]
      · rw [cR, if_neg (by omega), if_neg (by omega), if_neg (by omega), if_neg (by omega), if_pos (by omega)]
      · rw [cR, if_neg (by omega), if_neg (by omega), if_pos (by omega)]
      · rw [cK, if_neg (by omega), if_neg (by omega), if_pos (by omega)]
      · rw [cK, if_neg (by omega), if_pos (by omega)]
      · rw [cK, if_pos (by omega)]
    · obtain ⟨a1, a2, a3, a4, a5, a6, a7, a8, a9, a10⟩ := h.shn.1 s (by rw [en, hN]; omega)
      rw [fR 10 s (by omega), fR 11 s (by omega), fR 13 s (by omega), fK 10 s (by omega), fK 11 s (by omega), fK 12 s (by omega), fK 13 s (by omega)]
      refine ⟨?_, a2, a3, a4, a5, a6, a7, a8, fun c hc => ?_, fun b hb => ?_⟩
      · rw [cR, if_neg (fun w => c w.2), if_neg (by omega), if_neg (by omega), if_neg (by omega), if_neg (by omega), if_neg (by omega), if_neg (by omega), if_neg (by omega), if_neg (by omega)]
        exact a1
      · rw [fK 14 _ (by omega)]; exact a9 c hc
      · rw [fK 15 _ (by omega)]; exact a10 b hb
  · rw [f73, f70, xn, if_neg (by decide), cR, if_neg (by omega), if_pos ⟨rfl, rfl⟩, Nat.add_sub_cancel, h4 10 (by decide) (by decide)]
    rfl
  · have old := h.shn.2.2 c i
    unfold Al at old ⊢
    rw [f70, xn, f 9 (by decide) (by decide) (by decide), f 22 (by decide) (by decide) (by decide), f 37 (by decide) (by decide) (by decide), g87, g88, cZ]
    rw [en, hN] at old
    by_cases cc : 10 ≤ c ∧ c ≤ 13 ∧ i = N
    · exact Or.inl (Or.inr (Or.inr (Or.inl ⟨cc.1, cc.2.1, by omega⟩)))
    · rcases old with (q | q | ⟨a, b, d⟩ | ⟨a, b, d⟩ | ⟨a, b, d⟩ | q) | q
      · exact Or.inl (Or.inl q)
      · exact Or.inl (Or.inr (Or.inl q))
      · exact Or.inl (Or.inr (Or.inr (Or.inl ⟨a, b, by omega⟩)))
      · exact Or.inl (Or.inr (Or.inr (Or.inr (Or.inl ⟨a, b, by omega⟩))))
      · exact Or.inl (Or.inr (Or.inr (Or.inr (Or.inr (Or.inl ⟨a, b, by omega⟩)))))
      · exact Or.inl (Or.inr (Or.inr (Or.inr (Or.inr (Or.inr q)))))
      · have := far c i cc
        right; omega
  · unfold Ise
    rw [f70, xn, f73, f 0 (by decide) (by decide) (by decide), f 9 (by decide) (by decide) (by decide), g87, g88, g90, g 86 (by decide), g 89 (by decide), g 92 (by decide), g 93 (by decide), g 94 (by decide), g 95 (by decide), g 97 (by decide), g 98 (by decide), g 99 (by decide), g 100 (by decide), g 101 (by decide), g 102 (by decide), g 103 (by decide), g 104 (by decide), g 105 (by decide), g 107 (by decide), g 108 (by decide), Nat.add_sub_cancel]
    refine ⟨fun s hs => ?_, fun s p q => z2 s (by omega) q, fun _ => ⟨?_, z89, ?_, fun b hb => ?_⟩, fun s hs => ?_, z5, z6, z7, z8, z9⟩
    · obtain ⟨a1, a2, a3, a4, a5⟩ := z1 s hs
      refine ⟨a1, a2, a3, ?_, a5⟩
      rw [e84]
      split
      · exact ⟨by decide, by clear h4 far h; grind⟩
      · exact a4
    · rw [e84, if_pos rfl]
    · rw [e85, if_pos rfl]
    · have y := z9 N b (by omega) (by rw [z88]; exact Nat.zero_le _) hb
      exact ⟨y.1, y.2.1⟩
    · rw [e84]
      by_cases c : s = N
      · rw [if_pos c]
        exact ⟨fun _ => ⟨rfl, by omega⟩, fun _ => rfl⟩
      · rw [if_neg c]
        refine ⟨fun w => ?_, fun w => absurd w.2 (by omega)⟩
        have := (z4 s (by omega)).mp w
        rw [off] at this
        exact absurd this.1 (by decide)
  · intro _
    rw [f72, f70, xn, g87, g88, Nat.add_sub_cancel, z87, z88]
    refine ⟨r1.1, r1.2, fun c hc => ?_, fun c _ hc => e109 c hc, ?_⟩
    · rw [e109 c hc]; decide
    · rw [sumTo_n (fun j hj => by rw [if_pos (e109 j hj)])]
      decide
  · refine ⟨fun s hs => ?_, fun _ c hc => ?_⟩
    · rw [f70, xn] at hs
      rw [f70, f72, f73, xn]
      by_cases c : s = N
      · rw [if_pos ⟨rfl, by omega⟩, c, h4 10 (by decide) (by decide), cI, if_neg (by omega), if_neg (by omega), if_neg (by omega), if_neg (by omega), if_neg (by omega), if_neg (by omega), if_pos (by omega)]
      · rw [if_neg (by omega), fI 10 s (by omega), h.son.1 s (by rw [en, hN]; omega), off, if_neg (fun w => absurd w.1 (by decide))]
    · rw [f70, xn, Nat.add_sub_cancel, h4 12 (by decide) (by decide), e109 c hc, cI, if_neg (by omega), if_neg (by omega), if_neg (by omega), if_neg (by omega), if_pos (by omega)]
  · intro s b hs hb
    rw [f70, xn] at hs
    rw [g88] at hb
    have c : s ≠ N := fun c => by rw [c, z88] at hb; exact absurd hb (Nat.not_lt_zero b)
    rw [fI 15 _ (by omega), g 105 (by decide), g 106 (by decide)]
    exact h.den s b (by rw [en, hN]; omega) hb
  · intro s hs
    rw [f70, xn] at hs
    rw [g87, g90, g96, f73, f70, xn]
    by_cases c : s = N
    · subst c
      rw [z87, z90]
      refine ⟨rfl, fun j hj => absurd hj (Nat.not_lt_zero j), fun c hc => absurd hc (Nat.not_lt_zero c), rfl, fun _ _ c hc => absurd hc (Nat.not_lt_zero c)⟩
    · obtain ⟨w1, w2, w3, w4, w5⟩ := h.evs s (by rw [en, hN]; omega)
      refine ⟨w1, fun j hj => ?_, fun c hc => ?_, ?_, fun _ q => absurd q (by omega)⟩
      · rcases w2 j hj with q | ⟨c, q1, q2, q3⟩
        · exact Or.inl q
        · exact Or.inr ⟨c, q1, q2, by rw [fI 14 _ (by omega)]; exact q3⟩
      · rw [fI 14 _ (by omega)]; exact w3 c hc
      · rw [w4]
        congr 1
        apply sumTo_cg
        intro c hc
        rw [fI 14 _ (by omega)]
end X11
