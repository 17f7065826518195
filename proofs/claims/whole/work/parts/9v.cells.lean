/-! cells of sessions and closes, the clock and the fuse: both sides; a session that ends -/
section ZD
variable {k : Nat} {ad : Nat → Nat → Nat} {C R : Mm}
theorem G5.ss (hA : Ad ad) (h : G5 ad C R) {i j : Nat} {v : Int32} (hj : j ≠ 7) : G5 ad (sI C (ad 10 i) j v) R :=
  ⟨h.1.cg (fun s x _ => congrFun (row_d hA 4 s (by omega)) x) (fun c s _ _ => row_d hA c s (by omega)) rfl rfl rfl rfl rfl rfl rfl rfl rfl rfl rfl,
   h.2.1.cg rfl (fun c s _ _ => row_d hA c s (by omega)) rfl rfl rfl rfl rfl rfl rfl rfl rfl rfl rfl rfl,
   h.2.2.1.cg (fun s => cel_f 10 s 7 (fun q => hj q.symm)) (fun s => row_d hA 12 s (by omega)) rfl rfl rfl rfl,
   h.2.2.2.1.cg (fun s x _ => congrFun (row_d hA 15 s (by omega)) x) rfl rfl rfl rfl,
   h.2.2.2.2.cg (fun s => congrFun (row_d hA 14 s (by omega)) 5) rfl rfl rfl rfl rfl rfl⟩
theorem Rel.slt (h : Rel k ad C R) {s : Nat} (hs : s < ix (mI R 39 70)) : ad 10 s < mZ C := h.lv.in (h.shn.1 s hs).2.1 (by decide)
theorem s24 (h : Rel k ad C R) : ix (mI R 39 70) ≤ 24 := by have := h.isc.sessions; grind [ix_t]
theorem Rel.wScl (h : Rel k ad C R) (off : mI R 39 73 = 0) {s : Nat} (hs : s < ix (mI R 39 70)) {v : Int32} : Rel k ad (sI C (ad 10 s) 9 v) (sI R 85 s v) := by
  obtain ⟨j1, j2, j3, j4, j5, j6, j7, j8, j9⟩ := h.ise
  exact Rel.mk5 h.sc h.sr h.hA h.lv (h.dt.st h.hA 10 s 9 rfl (by decide) (h.slt hs)) h.dl h.isc h.ila h.ipe h.shp h.shs h.ist h.she h.ied h.shn ⟨j1, j2, fun q => absurd (off.symm.trans q) (by decide), j4, j5, j6, j7, j8, j9⟩ h.ison (G5.ss h.hA h.g5 (by decide))
theorem Rel.wGap (h : Rel k ad C R) {s : Nat} (hs : s < ix (mI R 39 70)) {v : Int32} (hv : 0 ≤ v ∧ v ≤ 99999) : Rel k ad (sI C (ad 10 s) 10 v) (sI R 86 s v) := by
  obtain ⟨j1, j2, j3, j4, j5, j6, j7, j8, j9⟩ := h.ise
  refine Rel.mk5 h.sc h.sr h.hA h.lv (h.dt.st h.hA 10 s 10 rfl (by decide) (h.slt hs)) h.dl h.isc h.ila h.ipe h.shp h.shs h.ist h.she h.ied h.shn ⟨fun s' w => ?_, fun s' y w => ?_, j3, j4, j5, j6, j7, j8, j9⟩ h.ison (G5.ss h.hA h.g5 (by decide))
  · obtain ⟨a1, a2, a3, a4, a5⟩ := j1 s' w
    refine ⟨a1, a2, a3, a4, ?_⟩
    rw [mI_sI (b := 86)]
    split
    · exact hv
    · exact a5
  · obtain ⟨a1, a2, a3, a4, a5⟩ := j2 s' y w
    refine ⟨a1, a2, a3, a4, ?_⟩
    have y : ix (mI R 39 70) ≤ s' := y
    rw [mI_sI (b := 86), if_neg (by omega)]
    exact a5
theorem Rel.wSto (h : Rel k ad C R) (off : mI R 39 73 = 0) {s : Nat} (hs : s < ix (mI R 39 70)) {v : Int32} : Rel k ad (sI C (ad 10 s) 6 v) (sI R 89 s v) := by
  obtain ⟨j1, j2, j3, j4, j5, j6, j7, j8, j9⟩ := h.ise
  refine Rel.mk5 h.sc h.sr h.hA h.lv (h.dt.st h.hA 10 s 6 rfl (by decide) (h.slt hs)) h.dl h.isc h.ila h.ipe h.shp h.shs h.ist h.she h.ied h.shn ⟨j1, fun s' y w => ?_, fun q => absurd (off.symm.trans q) (by decide), j4, j5, j6, j7, j8, j9⟩ h.ison (G5.ss h.hA h.g5 (by decide))
  obtain ⟨a1, a2, a3, a4, a5⟩ := j2 s' y w
  refine ⟨a1, a2, a3, ?_, a5⟩
  have y : ix (mI R 39 70) ≤ s' := y
  rw [mI_sI (b := 89), if_neg (by omega)]
  exact a4
theorem Rel.wJud (h : Rel k ad C R) (off : mI R 39 73 = 0) {s b : Nat} (hs : s < ix (mI R 39 70)) (hb : b < ix (mI R 88 s)) {l p : Int32} (hl : 0 ≤ l ∧ l ≤ 99) (hp : 0 ≤ p ∧ p ≤ 9999) (hz : l = 0 → p = 0) : Rel k ad (sI (sI C (ad 15 (60 * s + b)) 12 l) (ad 15 (60 * s + b)) 13 p) (sI (sI R 103 (60 * s + b) l) 104 (60 * s + b) p) := by
  obtain ⟨j1, j2, j3, j4, j5, j6, j7, j8, j9⟩ := h.ise
  have h24 := s24 h
  have b60 : b < 60 := by
    have x := j1 s (by omega)
    have : ix (mI R 88 s) ≤ 60 := by grind [ix_t]
    omega
  refine Rel.mk5 h.sc h.sr h.hA h.lv ((h.dt.st h.hA 15 (60 * s + b) 12 rfl (by decide) (lvB h hs hb)).st h.hA 15 (60 * s + b) 13 rfl (by decide) (lvB h hs hb)) h.dl h.isc h.ila h.ipe h.shp h.shs h.ist h.she h.ied h.shn ⟨j1, j2, fun q => absurd (off.symm.trans q) (by decide), j4, j5, j6, fun x hx => ?_, j8, fun s' b' w1 w2 w3 => ?_⟩ h.ison (G5.b h.hA (G5.b h.hA h.g5 (by decide) (by decide) (by decide)) (by decide) (by decide) (by decide))
  · rw [mI_sI (b := 103), if_neg (by omega), mI_sI (b := 103), mI_sI (b := 104)]
    by_cases e : x = 60 * s + b
    · rw [if_pos ⟨rfl, e⟩, if_pos ⟨rfl, e⟩]
      exact ⟨hl, hp, hz⟩
    · rw [if_neg (fun q => e q.2), if_neg (fun q => e q.2), mI_sI, if_neg (by omega)]
      exact j7 x hx
  · have o := j9 s' b' w1 w2 w3
    have w2 : ix (mI R 88 s') ≤ b' := w2
    have ne : ¬ (60 * s' + b' = 60 * s + b) := fun q => by
      have e1 : s' = s := by omega
      have e2 : b' = b := by omega
      rw [e1, e2] at w2
      omega
    rw [mI_sI (b := 103), if_neg (by omega), mI_sI (b := 103), if_neg (fun q => ne q.2), mI_sI (b := 104), if_neg (fun q => ne q.2), mI_sI (b := 104), if_neg (by omega)]
    exact o
theorem Rel.wClose (h : Rel k ad C R) {n : Nat} (hn : n = ix (mI R 39 71)) {v : Int32} (hv : 0 ≤ v ∧ v ≤ 9999) (off : mI R 39 73 = 0) (lt : mI R 39 71 + 1 ≤ mI R 39 70) : Rel k ad (sI (sI C 31 n v) 30 2 (mI R 39 71 + 1)) (sI (sI R 91 n v) 39 71 (mI R 39 71 + 1)) := by
  obtain ⟨i1, i2, i3, i4, i5, i6, i7, i8, i9, i10, i11, i12, i13⟩ := h.isc
  obtain ⟨p1, p2, p3, p4, p5, p6⟩ := h.ipe
  have one : (mI R 39 71 + 1).toInt = (mI R 39 71).toInt + 1 := by
    have := i9
    rw [I_le, I_le, i0T, show (24 : Int32).toInt = 24 from rfl] at this
    rw [I_add _ _ (by omega) (by omega) (by decide) (by decide)]; rfl
  refine Rel.mk5 h.sc h.sr h.hA h.lv ((h.dt.st h.hA 131 0 n rfl (by decide) (h.lv.st (a := 31) (by decide))).st h.hA 130 0 2 rfl (by decide) (h.lv.st (a := 30) (by decide))) h.dl ⟨i1, i2, i3, i4, i5, i6, i7, i8, ?_, i10, i11, i12, ?_⟩ h.ila ⟨fun i hi => ?_, p2, ?_, ?_, fun i hi => ?_, p6⟩ h.shp h.shs h.ist h.she h.ied h.shn h.ise h.ison (G5.s h.hA (G5.s h.hA h.g5 (by decide)) (by decide))
  · show 0 ≤ mI R 39 71 + 1 ∧ mI R 39 71 + 1 ≤ 24
    clear p1 h; grind
  · show mI R 39 71 + 1 + mI R 39 73 ≤ mI R 39 70
    rw [off]; clear p1 h; grind
  · obtain ⟨a, b, c, d⟩ := p1 i hi
    refine ⟨a, b, ?_, ?_⟩
    · show -(5940 * (mI R 39 71 + 1).toInt) ≤ (mI R 47 i).toInt ∧ (mI R 47 i).toInt ≤ 5940 * (mI R 39 71 + 1).toInt
      rw [one]; omega
    · show -(2000000000 * (mI R 39 71 + 1).toInt + 100000 * (k : Int)) ≤ (mL R 52 i).toInt ∧ (mL R 52 i).toInt ≤ 2000000000 * (mI R 39 71 + 1).toInt + 100000 * (k : Int)
      rw [one]; omega
  · show -(2300000 * (mI R 39 71 + 1).toInt) ≤ (mI R 39 21).toInt ∧ (mI R 39 21).toInt ≤ 2300000 * (mI R 39 71 + 1).toInt
    rw [one]; omega
  · show -(2000000000000 * (mI R 39 71 + 1).toInt) ≤ (mL R 39 18).toInt ∧ (mL R 39 18).toInt ≤ 2000000000000 * (mI R 39 71 + 1).toInt
    rw [one]; omega
  · rw [mI_sI (b := 91), if_neg (by omega), mI_sI (b := 91)]
    split
    · exact hv
    · exact p5 i hi
theorem Rel.wFuse (h : Rel k ad C R) (on : mI R 39 73 = 1) {s : Nat} (hs : s + 1 = ix (mI R 39 70)) {v : Int32} (hv : 1 ≤ v ∧ v ≤ 99999) : Rel k ad (sI C (ad 10 s) 7 v) (sI R 39 72 v) := by
  have a := h.ison on
  refine Rel.mk h.sc h.sr h.hA h.lv ((h.dt.str 39 72 rfl).stc h.hA 10 s 7 rfl (Or.inl (by decide)) (h.slt (by omega))) h.dl h.isc h.ila h.ipe h.shp h.shs h.ist (h.qs.cg (fun s x _ => congrFun (row_d h.hA 4 s (by omega)) x) (fun c s _ _ => row_d h.hA c s (by omega)) rfl rfl rfl rfl rfl rfl rfl rfl rfl rfl rfl) h.she h.ied (h.eds.cg rfl (fun c s _ _ => row_d h.hA c s (by omega)) rfl rfl rfl rfl rfl rfl rfl rfl rfl rfl rfl rfl) h.shn h.ise (fun _ => ⟨hv.1, hv.2, a.2.2⟩) ⟨fun s' w => ?_, fun _ c hc => ?_⟩ (h.den.cg (fun s x _ => congrFun (row_d h.hA 15 s (by omega)) x) rfl rfl rfl rfl) (h.evs.cg (fun s => congrFun (row_d h.hA 14 s (by omega)) 5) rfl rfl rfl rfl rfl rfl)
  · have w : s' < ix (mI R 39 70) := w
    show mI (sI C (ad 10 s) 7 v) (ad 10 s') 7 = if mI R 39 73 = 1 ∧ s' + 1 = ix (mI R 39 70) then v else 0
    by_cases e : s' = s
    · rw [e, mI_sI, if_pos ⟨rfl, rfl⟩, if_pos ⟨on, hs⟩]
    · rw [mI_sI, if_neg (fun q => e (h.hA.2 _ _ _ _ q.1).2), if_neg (fun q => e (by omega)), h.son.1 s' w, if_neg (fun q => e (by omega))]
  · have o := h.son.2 on c hc
    show mI (sI C (ad 10 s) 7 v) (ad 12 (ix (mI R 39 70) - 1)) c = mI R 109 c
    rw [row_d h.hA 12 _ (by omega)]
    exact o
theorem Rel.wNow (h : Rel k ad C R) {t : Int32} (ht : mI R 39 0 ≤ t ∧ t ≤ 57600) : Rel k ad (sI C 8 16 t) (sI R 39 0 t) := by
  obtain ⟨i1, i2⟩ := h.isc
  obtain ⟨p1, p2, p3, p4, p5, p6⟩ := h.ipe
  obtain ⟨j1, j2, j3, j4, j5, j6, j7, j8, j9⟩ := h.ise
  obtain ⟨t1, t2, t3, t4, t5⟩ := h.ist
  have tr : ∀ {x : Int32}, x ≤ mI R 39 0 → x ≤ t := fun q => Int32.le_trans q ht.1
  refine Rel.mk5 h.sc h.sr h.hA h.lv (h.dt.st h.hA 108 0 16 rfl (by decide) (h.lv.st (a := 8) (by decide))) h.dl ⟨⟨Int32.le_trans i1.1 ht.1, ht.2⟩, i2⟩ h.ila ⟨fun i hi => ?_, p2, p3, p4, p5, p6⟩ h.shp h.shs ⟨t1, t2, fun w hw => ?_, t4, t5⟩ h.she h.ied h.shn ⟨fun s' w => ?_, j2, j3, j4, fun s' c w y => ?_, fun s' c w y => ?_, j7, j8, j9⟩ h.ison (G5.s h.hA h.g5 (by decide))
  · obtain ⟨a, b, c, d⟩ := p1 i hi
    exact ⟨a, ⟨b.1, tr b.2⟩, c, d⟩
  · obtain ⟨a, b, c, d⟩ := t3 w hw
    exact ⟨a, b, c, d.1, tr d.2⟩
  · obtain ⟨a1, a2, a3, a4, a5⟩ := j1 s' w
    exact ⟨a1, a2, a3, ⟨a4.1, tr a4.2⟩, a5⟩
  · obtain ⟨a1, a2, a3, a4, a5⟩ := j5 s' c w y
    exact ⟨a1, a2, a3, a4, a5.1, tr a5.2⟩
  · obtain ⟨a1, a2, a3, a4, a5⟩ := j6 s' c w y
    exact ⟨a1, a2, a3, a4, a5.1, tr a5.2⟩
theorem Rel.endS (h : Rel k ad C R) (on : mI R 39 73 = 1) {s : Nat} (hs : s + 1 = ix (mI R 39 70)) : Rel k ad (sI (sI (sR C 8 14 none) (ad 10 s) 8 (mI R 39 0)) (ad 10 s) 7 0) (sI (sI (sI R 39 73 0) 39 72 0) 84 s (mI R 39 0)) := by
  obtain ⟨i1, i2, i3, i4, i5, i6, i7, i8, i9, i10, i11, i12, i13⟩ := h.isc
  obtain ⟨j1, j2, j3, j4, j5, j6, j7, j8, j9⟩ := h.ise
  obtain ⟨l1, l2, l3, l4, l5⟩ := h.lv
  have eR : ∀ a, a ≠ 8 → mR (sI (sI (sR C 8 14 none) (ad 10 s) 8 (mI R 39 0)) (ad 10 s) 7 0) a = mR C a := fun a q => by
    funext j
    rw [mR_sI, mR_sI, mR_sR, if_neg (fun w => q w.1)]
  have ne8 : ∀ c i, ad c i ≠ 8 := fun c i => by have := h.hA.1 c i; omega
  have eI : ∀ c i, c ≠ 10 → mI (sI (sI (sR C 8 14 none) (ad 10 s) 8 (mI R 39 0)) (ad 10 s) 7 0) (ad c i) = mI C (ad c i) := fun c i q => by
    rw [row_d h.hA c i q, row_d h.hA c i q, mI_sR]
  have e73 : mI (sI (sI (sI R 39 73 0) 39 72 0) 84 s (mI R 39 0)) 39 73 = 0 := rfl
  have n01 : ¬ mI (sI (sI (sI R 39 73 0) 39 72 0) 84 s (mI R 39 0)) 39 73 = 1 := fun q => absurd (e73.symm.trans q) (by decide)
  have h24 := s24 h
  refine Rel.mk ⟨h.sc.1, fun a j b x y => ?_⟩ h.sr h.hA ⟨l1, l2, fun a j x => ?_, l4, l5⟩ ((((h.dt.str 39 73 rfl).str 39 72 rfl).st h.hA 10 s 8 rfl (by decide) (h.slt (by omega))).stc h.hA 10 s 7 rfl (Or.inl (by decide)) (h.slt (by omega))) h.dl ⟨i1, i2, i3, i4, i5, i6, i7, i8, i9, i10, i11, Or.inl rfl, ?_⟩ h.ila h.ipe (fun i hi => ?_) (fun s hs => ?_) h.ist (h.qs.cg (fun s x _ => congrFun (eI 4 s (by decide)) x) (fun c s _ _ => eI c s (by omega)) rfl rfl rfl rfl rfl rfl rfl rfl rfl rfl rfl) (fun t ht => ?_) h.ied (h.eds.cg rfl (fun c s _ _ => eI c s (by omega)) rfl rfl rfl rfl rfl rfl rfl rfl rfl rfl rfl rfl) ⟨fun s' w => ?_, ?_, h.shn.2.2⟩ ⟨fun s' w => ?_, j2, fun q => absurd q n01, fun s' w => ?_, j5, j6, j7, j8, j9⟩ (fun q => absurd q n01) ⟨fun s' w => ?_, fun q => absurd q n01⟩ (h.den.cg (fun s x _ => congrFun (eI 15 s (by decide)) x) rfl rfl rfl rfl) (fun s' w => ?_)
  · have q : ¬ (a = 8 ∧ j = 14) := fun w => by rw [w.1, w.2] at y; cases y
    rw [mR_sI, mR_sI, mR_sR, if_neg q]
    exact h.sc.2 a j b x y
  · have x : mZ C ≤ a := x
    rw [mR_sI, mR_sI, mR_sR, if_neg (by omega)]
    exact l3 a j x
  · show mI R 39 71 + 0 ≤ mI R 39 70
    rw [on] at i13
    clear h
    grind
  · have := h.shp i hi
    rw [eR 16 (by decide), eR _ (ne8 1 i)]
    exact this
  · have := h.shs s hs
    rw [eR 17 (by decide), eR _ (ne8 4 s)]
    exact this
  · have := h.she t ht
    rw [eR 28 (by decide), eR _ (ne8 16 t)]
    exact this
  · have := h.shn.1 s' w
    rw [eR 37 (by decide), eR _ (ne8 10 s'), eR _ (ne8 11 s'), eR _ (ne8 13 s')]
    exact this
  · show mR (sI (sI (sR C 8 14 none) (ad 10 s) 8 (mI R 39 0)) (ad 10 s) 7 0) 8 14 = none
    rw [mR_sI, mR_sI, mR_sR, if_pos ⟨rfl, rfl⟩]
  · obtain ⟨a1, a2, a3, a4, a5⟩ := j1 s' w
    refine ⟨a1, a2, a3, ?_, a5⟩
    rw [mI_sI (b := 84)]
    split
    · exact ⟨by show (-1 : Int32) ≤ mI R 39 0; clear h; grind, Int32.le_refl _⟩
    · exact a4
  · have w : s' < ix (mI R 39 70) := w
    refine ⟨fun q => ?_, fun q => absurd q.1 n01⟩
    exfalso
    rw [mI_sI (b := 84)] at q
    by_cases e : s' = s
    · rw [if_pos ⟨rfl, e⟩] at q
      have := i1.1
      rw [q] at this
      exact absurd this (by decide)
    · rw [if_neg (fun z => e z.2)] at q
      have := (j4 s' w).mp q
      omega
  · have w : s' < ix (mI R 39 70) := w
    rw [if_neg (fun q => absurd q.1 n01)]
    by_cases e : s' = s
    · rw [e, mI_sI, if_pos ⟨rfl, rfl⟩]
    · rw [mI_sI, if_neg (fun q => e (h.hA.2 _ _ _ _ q.1).2), mI_sI, if_neg (fun q => e (h.hA.2 _ _ _ _ q.1).2), mI_sR, h.son.1 s' w, if_neg (fun q => e (by omega))]
  · obtain ⟨a1, a2, a3, a4, a5⟩ := h.evs s' w
    refine ⟨a1, ?_, ?_, ?_, fun q => absurd q n01⟩
    · simp only [eI 14 _ (show 14 ≠ 10 by decide)]; exact a2
    · simp only [eI 14 _ (show 14 ≠ 10 by decide)]; exact a3
    · simp only [eI 14 _ (show 14 ≠ 10 by decide)]; exact a4
end ZD
