/-! the class keeps an edict: the relation behind it -/
section ZA2
variable {k : Nat} {ad : Nat → Nat → Nat} {B D R R' : Mm}
/-- what the reference's memory is behind a text that is kept -/
def ER (R R' : Mm) (t s0 nb st c : Nat) (n mn : Int32) : Prop := (∀ j, mI R' 39 j = if j = 37 then n + 1 else if j = 46 then Int32.ofNat (s0 + st) else if j = 52 then Int32.ofNat (nb + c) else mI R 39 j) ∧ (∀ j, mI R' 66 j = if j = t then Int32.ofNat s0 else mI R 66 j) ∧ (∀ j, mI R' 67 j = if j = t then Int32.ofNat st else mI R 67 j) ∧ (∀ j, mI R' 68 j = if j = t then mn else mI R 68 j) ∧ (∀ a, a ≠ 39 → a ≠ 66 → a ≠ 67 → a ≠ 68 → mI R' a = mI R a) ∧ mL R' = mL R ∧ mR R' = mR R ∧ mK R' = mK R
theorem keep_R (h : Rel k ad B R) (hk : k < 512) {t s0 nb st c : Nat} {n mn : Int32} (en : mI R 39 37 = n) (hN : ix n = t) (lt : n < 8) (h46 : ix (mI R 39 46) = s0) (h52 : ix (mI R 39 52) = nb) (hst : st ≤ 24) (hc : c ≤ 250) (hmn : 0 ≤ mn ∧ mn ≤ 57600) (hS : StR nb s0 st c B R) (h5 : ∀ c, 16 ≤ c → c ≤ 20 → ad c t = mZ B + (c - 16)) (far : ∀ c i, ¬ (16 ≤ c ∧ c ≤ 20 ∧ i = t) → ad c i < mZ B ∨ mZ B + 200 ≤ ad c i) (hD : EdN B D mn st c) (hR : ER R R' t s0 nb st c n mn) : Rel (k + 1) ad (sI (sR D 28 t (some (mZ B))) 19 3 (n + 1)) R' := by
  have hz := h.lv.1
  have i10 := h.isc.2.2.2.2.2.2.2.2.2.1
  rw [en] at i10
  have b4 : 0 ≤ n + 1 ∧ n + 1 ≤ 8 := by clear h5 far h hR hD hS; grind
  have xn : ix (n + 1) = t + 1 := by rw [ix_s1 _ i10.1 (by clear h5 far h hR hD hS; grind), hN]
  have t8 : t < 8 := by rw [← hN]; exact ix_b 8 i10.1 lt (by decide) (by decide)
  obtain ⟨e39, e66, e67, e68, eo, eL, eR, eK⟩ := hR
  obtain ⟨dZ, dS, dO, ⟨dk0, dk1, dk2, dk3, dk4⟩, ⟨dr1, dr2, dr3, dr4⟩, d0, dj, dc⟩ := hD
  have f : ∀ j, j ≠ 37 → j ≠ 46 → j ≠ 52 → mI R' 39 j = mI R 39 j := fun j p q w => by rw [e39, if_neg p, if_neg q, if_neg w]
  have f37 : mI R' 39 37 = n + 1 := e39 37
  have f46 : mI R' 39 46 = Int32.ofNat (s0 + st) := e39 46
  have f52 : mI R' 39 52 = Int32.ofNat (nb + c) := e39 52
  have g : ∀ a, a ≠ 39 ∧ a ≠ 66 ∧ a ≠ 67 ∧ a ≠ 68 → mI R' a = mI R a := fun a p => eo a p.1 p.2.1 p.2.2.1 p.2.2.2
  have ge : ∀ c i, 116 ≤ ad c i := h.hA.1
  generalize hv : sI (sR D 28 t (some (mZ B))) 19 3 (n + 1) = C'
  have cI : ∀ a, a ≠ 19 → mI C' a = mI D a := fun a q => by rw [← hv, row_n q]; rfl
  have cI9 : ∀ j, mI C' 19 j = if j = 3 then n + 1 else mI D 19 j := fun j => by
    rw [← hv, mI_sI]
    by_cases q : j = 3
    · rw [if_pos q, if_pos ⟨rfl, q⟩]
    · rw [if_neg q, if_neg (fun w => q w.2)]; rfl
  have cK : mK C' = mK D := by rw [← hv]; rfl
  have cR : ∀ a j, mR C' a j = if a = 28 ∧ j = t then some (mZ B) else mR D a j := fun a j => by rw [← hv]; rfl
  have cL : mL C' = mL D := by rw [← hv]; rfl
  have cZ : mZ C' = mZ B + 5 := by rw [← hv]; exact dZ
  have cS : mS C' = mS B + (5 + 3 * st + c) := by rw [← hv]; exact dS
  clear hv
  have rI' : ∀ a, a ≠ 19 → a < mZ B ∨ mZ B + 5 ≤ a → mI C' a = mI B a := fun a p q => by rw [cI a p, (dO a q).2.1]
  have rK : ∀ a, a < mZ B ∨ mZ B + 5 ≤ a → mK C' a = mK B a := fun a q => by rw [cK, (dO a q).1]
  have rR : ∀ a, a ≠ 28 → a < mZ B ∨ mZ B + 5 ≤ a → mR C' a = mR B a := fun a p q => by
    funext j
    rw [cR, if_neg (fun w => p w.1), (dO a q).2.2.1]
  have fI : ∀ c i, ¬ (16 ≤ c ∧ c ≤ 20 ∧ i = t) → mI C' (ad c i) = mI B (ad c i) := fun c i q => rI' _ (by have := ge c i; omega) (by have := far c i q; omega)
  have fK : ∀ c i, ¬ (16 ≤ c ∧ c ≤ 20 ∧ i = t) → mK C' (ad c i) = mK B (ad c i) := fun c i q => rK _ (by have := far c i q; omega)
  have fR : ∀ c i, ¬ (16 ≤ c ∧ c ≤ 20 ∧ i = t) → mR C' (ad c i) = mR B (ad c i) := fun c i q => rR _ (by have := ge c i; omega) (by have := far c i q; omega)
  obtain ⟨i1, i2, i3, i4, i5, i6, i7, i8, i9, -, i11⟩ := h.isc
  obtain ⟨l1, l2, l3, l4, l5⟩ := h.lv
  have g87 := g 87 (by decide)
  have g88 := g 88 (by decide)
  have ied := h.ied
  have q46 := ied.1
  have q52 := ied.2.1
  rw [en] at q46 q52
  have t46 : s0 ≤ 24 * t := by
    rw [← h46, ← hN]
    clear h5 far h hS ied e39 e66 e67 e68 eo dO dj dc
    grind [ix_t]
  have t52 : nb ≤ 250 * t := by
    rw [← h52, ← hN]
    clear h5 far h hS ied e39 e66 e67 e68 eo dO dj dc
    grind [ix_t]
  have nt : n = Int32.ofNat t := by rw [← hN]; exact (of_ix n i10.1).symm
  have n1t : n + 1 = Int32.ofNat (t + 1) := by rw [nt]; exact of_s1 t (by omega)
  have D2 : Dt ad C' R' := by
    intro c i j q
    have key := h.dt c i j q
    by_cases e1 : c = 16 ∧ i = t
    · obtain ⟨x1, x2⟩ := e1
      subst x1
      subst x2
      cases j with
      | zero =>
        show (if ad 16 i < mZ C' then mI C' (ad 16 i) 0 else 0) = mI R' 68 i
        rw [h5 16 (by decide) (by decide), if_pos (by omega), cI _ (by omega), e68, if_pos rfl]
        exact d0
      | succ j => exact absurd rfl q
    · by_cases e2 : c = 119 ∧ j = 3
      · obtain ⟨x1, x2⟩ := e2
        subst x1
        subst x2
        cases i with
        | zero =>
          show (if 19 < mZ C' then mI C' 19 3 else 0) = mI R' 39 37
          rw [if_pos (by omega), f37]
          exact cI9 3
        | succ i => exact absurd rfl q
      · have ec := cm_ci c i j q
        have c0 : c ≠ 0 := fun w => by subst w; exact q rfl
        have er : mI R' (cm c i j).1 (cm c i j).2 = mI R (cm c i j).1 (cm c i j).2 := by
          generalize (cm c i j).1 = a at *
          generalize (cm c i j).2 = b at *
          by_cases a1 : a = 39
          · subst a1
            refine f b (fun w => ?_) (fun w => ?_) (fun w => ?_)
            · subst w
              exact e2 ⟨(congrArg (·.1) ec).symm, (congrArg (·.2.2) ec).symm⟩
            · subst w
              exact c0 (congrArg (·.1) ec).symm
            · subst w
              exact c0 (congrArg (·.1) ec).symm
          · by_cases a2 : a = 66
            · subst a2
              exact absurd (congrArg (·.1) ec).symm c0
            · by_cases a3 : a = 67
              · subst a3
                exact absurd (congrArg (·.1) ec).symm c0
              · by_cases a4 : a = 68
                · subst a4
                  rw [e68]
                  by_cases a5 : b = t
                  · subst a5
                    exact absurd ⟨(congrArg (·.1) ec).symm, (congrArg (·.2.1) ec).symm⟩ e1
                  · rw [if_neg a5]
                · rw [eo a a1 a2 a3 a4]
        rw [er, ← key]
        unfold rI pl
        by_cases c1 : c < 100
        · rw [if_pos c1]
          have nn : ¬ (16 ≤ c ∧ c ≤ 20 ∧ i = t) := fun w => by
            rcases (show c = 16 ∨ c = 17 ∨ c = 18 ∨ c = 19 ∨ c = 20 by omega) with e | e | e | e | e
            · exact e1 ⟨e, w.2.2⟩
            · subst e; exact q rfl
            · subst e; exact q rfl
            · subst e; exact q rfl
            · subst e; exact q rfl
          rw [fI c i nn, cZ]
          rcases far c i nn with w | w
          · rw [if_pos (by omega), if_pos w]
          · rw [if_neg (by omega), if_neg (by omega)]
        · have rg := cm_rng c i j q
          rw [if_neg c1, cZ, if_pos (by omega), if_pos (by omega)]
          by_cases c2 : c - 100 = 19
          · rw [c2, cI9, if_neg (fun w => e2 ⟨by omega, w⟩), (dO 19 (by omega)).2.1]
          · rw [rI' _ c2 (by omega)]
  have L2 : DL ad C' R' := by
    intro c i j q
    have key := h.dl c i j q
    rw [eL, ← key]
    unfold rL pl
    rw [cZ, cL]
    by_cases c1 : c < 100
    · rw [if_pos c1]
      have nn : ¬ (16 ≤ c ∧ c ≤ 20 ∧ i = t) := fun w => by
        rcases (show c = 16 ∨ c = 17 ∨ c = 18 ∨ c = 19 ∨ c = 20 by omega) with e | e | e | e | e <;> (subst e; exact q rfl)
      rcases far c i nn with w | w
      · rw [if_pos (by omega), if_pos w, (dO _ (Or.inl w)).2.2.2]
      · rw [if_neg (by omega), if_neg (by omega)]
    · have rg : c - 100 < 116 := by
        have e := lm_li c i j q
        by_cases w : c = 130
        · omega
        · exfalso
          revert q
          unfold lm
          repeat' split
          all_goals first
            | (intro q; exact absurd rfl q)
            | (intro q; omega)
      rw [if_neg c1, if_pos (by omega), if_pos (by omega), (dO _ (Or.inl (by omega))).2.2.2]
  refine Rel.mk ⟨fun a x y => ?_, fun a j b x y => ?_⟩ (h.sr.sm eK eR) h.hA ⟨by omega, fun a x => ?_, fun a j x => ?_, by omega, by omega⟩ D2 L2 ?_ ?_ ?_ (fun i hi => ?_) (fun s hs => ?_) ?_ ?_ (fun t' ht => ?_) ?_ ?_ ⟨fun s hs => ?_, ?_, fun c i => ?_⟩ ?_ ?_ ?_ ?_ ?_
  · rw [rK a (by omega)]; exact h.sc.1 a x y
  · have q1 : a ≠ 28 := fun q => by rw [q] at y; cases y
    rw [rR a q1 (by omega)]; exact h.sc.2 a j b x y
  · rw [rK a (by omega)]; exact l2 a (by omega)
  · rw [rR a (by omega) (by omega)]; exact l3 a j (by omega)
  · refine ⟨?_, ?_, ?_, ?_, ?_, ?_, ?_, ?_, ?_, ?_, ?_⟩
    · rw [f 0 (by decide) (by decide) (by decide)]; exact i1
    · rw [f 1 (by decide) (by decide) (by decide)]; exact i2
    · rw [f 2 (by decide) (by decide) (by decide)]; exact i3
    · rw [f 9 (by decide) (by decide) (by decide)]; exact i4
    · rw [f 22 (by decide) (by decide) (by decide)]; exact i5
    · rw [f 23 (by decide) (by decide) (by decide)]; exact i6
    · rw [f 24 (by decide) (by decide) (by decide)]; exact i7
    · rw [f 54 (by decide) (by decide) (by decide)]; exact i8
    · rw [f 71 (by decide) (by decide) (by decide)]; exact i9
    · rw [f37]; exact b4
    · rw [f 71 (by decide) (by decide) (by decide), f 73 (by decide) (by decide) (by decide), f 70 (by decide) (by decide) (by decide)]; exact i11
  · have q := h.ila
    unfold Ila at q ⊢
    rw [g 40 (by decide), g 41 (by decide), g 42 (by decide), g 43 (by decide), g 79 (by decide)]
    exact q
  · have q := h.ipe.up hk
    unfold Ipe at q ⊢
    rw [g 46 (by decide), g 47 (by decide), g 49 (by decide), g 91 (by decide), g 112 (by decide), f 2 (by decide) (by decide) (by decide), f 0 (by decide) (by decide) (by decide), f 71 (by decide) (by decide) (by decide), f 21 (by decide) (by decide) (by decide), eL]
    exact q
  · rw [f 9 (by decide) (by decide) (by decide)] at hi
    rw [rR 16 (by decide) (by omega), fR 1 i (by omega), fK 1 i (by omega), fK 2 i (by omega), fK 3 i (by omega)]
    exact h.shp i hi
  · rw [f 22 (by decide) (by decide) (by decide)] at hs
    rw [rR 17 (by decide) (by omega), fR 4 s (by omega), fK 4 s (by omega), fK 5 s (by omega), fK 6 s (by omega), fK 7 s (by omega), fK 8 s (by omega), fK 9 s (by omega)]
    exact h.shs s hs
  · have q := h.ist
    unfold Ist sumP sumW at q ⊢
    rw [f 0 (by decide) (by decide) (by decide), f 9 (by decide) (by decide) (by decide), f 22 (by decide) (by decide) (by decide), f 23 (by decide) (by decide) (by decide), f 24 (by decide) (by decide) (by decide), g 53 (by decide), g 54 (by decide), g 55 (by decide), g 56 (by decide), g 57 (by decide), g 59 (by decide), g 62 (by decide), g 63 (by decide), g 64 (by decide), g 65 (by decide)]
    exact q
  · exact h.qs.cg (fun s j _ => congrFun (fI 4 s (by omega)) j) (fun c s _ _ => fI c s (by omega)) (f 22 (by decide) (by decide) (by decide)) (f 23 (by decide) (by decide) (by decide)) (f 24 (by decide) (by decide) (by decide)) (g 53 (by decide)) (g 59 (by decide)) (g 60 (by decide)) (g 61 (by decide)) (g 62 (by decide)) (g 63 (by decide)) (g 64 (by decide)) (g 65 (by decide))
  · rw [f37, xn] at ht
    rw [e67]
    by_cases q : t' = t
    · subst q
      rw [if_pos rfl, h5 16 (by decide) (by decide), h5 17 (by decide) (by decide), h5 18 (by decide) (by decide), h5 19 (by decide) (by decide), h5 20 (by decide) (by decide), ix_of st (by omega)]
      rw [cK]
      refine ⟨?_, dk0, ?_, ?_, ?_, ?_, dk1, dk2, dk3, ?_, ?_⟩
      · rw [cR, if_pos ⟨rfl, rfl⟩]; rfl
      · rw [cR, if_neg (by omega)]; exact dr1
      · rw [cR, if_neg (by omega)]; exact dr2
      · rw [cR, if_neg (by omega)]; exact dr3
      · rw [cR, if_neg (by omega)]; exact dr4
      · show (mK D (mZ B + 4)).1 = 20; rw [dk4]
      · show (mK D (mZ B + 4)).2 ≤ 500; rw [dk4]; show c ≤ 500; omega
    · rw [if_neg q, fR 16 t' (by omega), fK 16 t' (by omega), fK 17 t' (by omega), fK 18 t' (by omega), fK 19 t' (by omega), fK 20 t' (by omega), cR, if_neg (fun w => q w.2), (dO 28 (by omega)).2.2.1]
      exact h.she t' (by rw [en, hN]; omega)
  · refine ⟨?_, ?_, fun t' ht => ?_, fun x hx => ?_⟩
    · rw [f46, f37, n1t, show (24 : Int32) = Int32.ofNat 24 from rfl, of_mul]
      exact ⟨of_nn _ (by omega), (of_le _ _ (by omega) (by omega)).mpr (by omega)⟩
    · rw [f52, f37, n1t, show (250 : Int32) = Int32.ofNat 250 from rfl, of_mul]
      exact ⟨of_nn _ (by omega), (of_le _ _ (by omega) (by omega)).mpr (by omega)⟩
    · rw [f37, xn] at ht
      rw [e66, e67, e68, f46, ix_of (s0 + st) (by omega)]
      by_cases q : t' = t
      · rw [if_pos q, if_pos q, if_pos q, ix_of s0 (by omega), ix_of st (by omega)]
        exact ⟨of_nn _ (by omega), of_nn _ (by omega), (of_le st 24 (by omega) (by decide)).mpr hst, Nat.le_refl _, hmn⟩
      · rw [if_neg q, if_neg q, if_neg q]
        obtain ⟨w1, w2, w3, w4, w5⟩ := ied.2.2.1 t' (by rw [en, hN]; omega)
        rw [h46] at w4
        exact ⟨w1, w2, w3, by omega, w5⟩
    · rw [f46, ix_of (s0 + st) (by omega)] at hx
      rw [g 69 (by decide), g 70 (by decide), g 72 (by decide), g 73 (by decide), f52]
      by_cases q : x < s0
      · obtain ⟨w1, w2, w3, w4, w5, w6⟩ := ied.2.2.2 x (by rw [h46]; exact q)
        have w7 : mI R 39 52 = Int32.ofNat nb := by rw [← h52]; exact (of_ix _ q52.1).symm
        rw [w7] at w6
        exact ⟨w1, w2, w3, w4, w5, Int32.le_trans w6 ((of_le nb (nb + c) (by omega) (by omega)).mpr (by omega))⟩
      · obtain ⟨j, rfl⟩ : ∃ j, x = s0 + j := ⟨x - s0, by omega⟩
        obtain ⟨-, o2, o3, o4, o5, o6, o7, o8, -⟩ := hS.2 j (by omega)
        rw [o7, o8]
        exact ⟨o2.1, o2.2, o3, of_nn _ (by omega), (of_le _ _ (by omega) (by omega)).mpr (by omega), (of_le _ _ (by omega) (by omega)).mpr (by omega)⟩
  · intro t' ht s hs
    rw [f37, xn] at ht
    rw [e67] at hs
    by_cases q : t' = t
    · subst q
      rw [if_pos rfl, ix_of st (by omega)] at hs
      obtain ⟨⟨o1, o1'⟩, o2, o3, o4, o5, o6, o7, o8, o9⟩ := hS.2 s hs
      have ce : ceL ad C' t' s = ceB B s := by
        unfold ceL ceB
        by_cases q0 : s = 0
        · rw [if_pos q0, if_pos q0]
        · rw [if_neg q0, if_neg q0, h5 19 (by decide) (by decide), cI _ (by omega)]
          exact congrArg ix (dj (s - 1) (by omega)).2.2
      have c17 : mI C' (ad 17 t') s = mI B 21 s := by rw [h5 17 (by decide) (by decide), cI _ (by omega)]; exact (dj s hs).1
      have c18 : mI C' (ad 18 t') s = mI B 22 s := by rw [h5 18 (by decide) (by decide), cI _ (by omega)]; exact (dj s hs).2.1
      have c19 : mI C' (ad 19 t') s = mI B 23 s := by rw [h5 19 (by decide) (by decide), cI _ (by omega)]; exact (dj s hs).2.2
      have c20 : ∀ j, j < c → mI C' (ad 20 t') j = mI B 24 j := fun j w => by rw [h5 20 (by decide) (by decide), cI _ (by omega)]; exact dc j w
      have k20 : (mK C' (ad 20 t')).2 = c := by
        rw [h5 20 (by decide) (by decide), cK]
        show (mK D (mZ B + 4)).2 = c
        rw [dk4]
      rw [ce, c17, c18, c19, k20, e66, if_pos rfl, ix_of s0 (by omega), g 69 (by decide), g 70 (by decide), g 71 (by decide), g 72 (by decide), g 73 (by decide), o7, o8, ix_of (nb + ceB B s) (by omega), ix_of (nb + ix (mI B 23 s)) (by omega)]
      refine ⟨o1, o1', o4, o5, o6, by omega, ?_⟩
      rcases o9 with x | ⟨x1, gg, x2, x3, S, y1, y2, y3⟩
      · exact Or.inl x
      · refine Or.inr ⟨x1, S, y1, fun j j1 j2 => ?_, ?_, ?_⟩
        · rw [show nb + ceB B s + (j - ceB B s) = nb + j by omega, c20 j (by omega), g 74 (by decide), g 75 (by decide), g 76 (by decide), g 77 (by decide)]
          exact y2 j j1 j2
        · rw [x2, ix_of gg (by omega)]; exact y3
        · rw [x2]; exact of_nn gg (by omega)
    · rw [if_neg q] at hs
      have old := h.eds t' (by rw [en, hN]; omega) s hs
      unfold Pf ceL at old ⊢
      simp only [e66, if_neg q, fI 17 t' (by omega), fI 18 t' (by omega), fI 19 t' (by omega), fI 20 t' (by omega), fK 20 t' (by omega), g 69 (by decide), g 70 (by decide), g 71 (by decide), g 72 (by decide), g 73 (by decide), g 74 (by decide), g 75 (by decide), g 76 (by decide), g 77 (by decide)]
      exact old
  · rw [f 70 (by decide) (by decide) (by decide)] at hs
    obtain ⟨a1, a2, a3, a4, a5, a6, a7, a8, a9, a10⟩ := h.shn.1 s hs
    rw [g87, g88, fR 10 s (by omega), fR 11 s (by omega), fR 13 s (by omega), fK 10 s (by omega), fK 11 s (by omega), fK 12 s (by omega), fK 13 s (by omega), rR 37 (by decide) (by omega)]
    refine ⟨a1, a2, a3, a4, a5, a6, a7, a8, fun c hc => ?_, fun b hb => ?_⟩
    · rw [fK 14 _ (by omega)]; exact a9 c hc
    · rw [fK 15 _ (by omega)]; exact a10 b hb
  · rw [f 73 (by decide) (by decide) (by decide), f 70 (by decide) (by decide) (by decide), rR 8 (by decide) (by omega)]
    exact h.shn.2.1
  · have old := h.shn.2.2 c i
    unfold Al at old ⊢
    rw [f37, xn, f 9 (by decide) (by decide) (by decide), f 22 (by decide) (by decide) (by decide), f 70 (by decide) (by decide) (by decide), g87, g88, cZ]
    rw [en, hN] at old
    by_cases cc : 16 ≤ c ∧ c ≤ 20 ∧ i = t
    · exact Or.inl (Or.inr (Or.inr (Or.inr (Or.inr (Or.inr ⟨cc.1, cc.2.1, by omega⟩)))))
    · rcases old with (q | q | q | q | q | ⟨a, b, d⟩) | q
      · exact Or.inl (Or.inl q)
      · exact Or.inl (Or.inr (Or.inl q))
      · exact Or.inl (Or.inr (Or.inr (Or.inl q)))
      · exact Or.inl (Or.inr (Or.inr (Or.inr (Or.inl q))))
      · exact Or.inl (Or.inr (Or.inr (Or.inr (Or.inr (Or.inl q)))))
      · exact Or.inl (Or.inr (Or.inr (Or.inr (Or.inr (Or.inr ⟨a, b, by omega⟩)))))
      · have := far c i cc
        right; omega
  · have w := h.ise
    unfold Ise at w ⊢
    simp only [f 0 (by decide) (by decide) (by decide), f 9 (by decide) (by decide) (by decide), f 70 (by decide) (by decide) (by decide), f 73 (by decide) (by decide) (by decide), g 84 (by decide), g 85 (by decide), g 86 (by decide), g87, g88, g 89 (by decide), g 90 (by decide), g 92 (by decide), g 93 (by decide), g 94 (by decide), g 95 (by decide), g 97 (by decide), g 98 (by decide), g 99 (by decide), g 100 (by decide), g 101 (by decide), g 102 (by decide), g 103 (by decide), g 104 (by decide), g 105 (by decide), g 107 (by decide), g 108 (by decide)]
    exact w
  · have w := h.ison
    unfold Ison at w ⊢
    simp only [f 70 (by decide) (by decide) (by decide), f 72 (by decide) (by decide) (by decide), f 73 (by decide) (by decide) (by decide), g87, g88, g 109 (by decide)]
    exact w
  · exact h.son.cg (fun s => congrFun (fI 10 s (by omega)) 7) (fun s => fI 12 s (by omega)) (f 70 (by decide) (by decide) (by decide)) (f 72 (by decide) (by decide) (by decide)) (f 73 (by decide) (by decide) (by decide)) (g 109 (by decide))
  · exact h.den.cg (fun s j _ => congrFun (fI 15 s (by omega)) j) (f 70 (by decide) (by decide) (by decide)) g88 (g 105 (by decide)) (g 106 (by decide))
  · exact h.evs.cg (fun s => congrFun (fI 14 s (by omega)) 5) (f 70 (by decide) (by decide) (by decide)) (f 73 (by decide) (by decide) (by decide)) g87 (g 90 (by decide)) (g 96 (by decide)) (g 109 (by decide))
end ZA2
