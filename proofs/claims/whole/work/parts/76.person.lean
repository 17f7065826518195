section A2
variable {k : Nat} {ad : Nat → Nat → Nat} {C R C' R' : Mm}
theorem Dt.nw (h : Dt ad C R) {c n : Nat} : Dt ad (nw C c n) R := fun c i j q => by rw [rI_nw]; exact h c i j q
theorem DL.nw (h : DL ad C R) {c n : Nat} : DL ad (nw C c n) R := fun c i j q => by rw [rL_nw]; exact h c i j q
theorem Eds.cg2 (h : Eds ad C R) (hK : ∀ t, mK C' (ad 20 t) = mK C (ad 20 t)) (e2 : ∀ c s, 17 ≤ c → c ≤ 20 → mI C' (ad c s) = mI C (ad c s)) (r37 : mI R' 39 37 = mI R 39 37) (r66 : mI R' 66 = mI R 66) (r67 : mI R' 67 = mI R 67) (r69 : mI R' 69 = mI R 69) (r70 : mI R' 70 = mI R 70) (r71 : mI R' 71 = mI R 71) (r72 : mI R' 72 = mI R 72) (r73 : mI R' 73 = mI R 73) (r74 : mI R' 74 = mI R 74) (r75 : mI R' 75 = mI R 75) (r76 : mI R' 76 = mI R 76) (r77 : mI R' 77 = mI R 77) : Eds ad C' R' := by
  intro t ht s hs
  have q := h t (by rw [← r37]; exact ht) s (by rw [← r67]; exact hs)
  unfold ceL Pf at q ⊢
  rw [hK t, r66, r69, r70, r71, r72, r73, r74, r75, r76, r77, e2 17 t (by decide) (by decide), e2 18 t (by decide) (by decide), e2 19 t (by decide) (by decide), e2 20 t (by decide) (by decide)]
  exact q
/-- the groups that read the class's rows, when the roles from c0 on are as they were -/
theorem grow5 (h : G5 ad C R) (rI : ∀ c i, 4 ≤ c → mI C' (ad c i) = mI C (ad c i)) (rK : ∀ c i, 4 ≤ c → mK C' (ad c i) = mK C (ad c i)) : G5 ad C' R :=
  ⟨h.1.cg (fun s j _ => congrFun (rI 4 s (by omega)) j) (fun c s _ _ => rI c s (by omega)) rfl rfl rfl rfl rfl rfl rfl rfl rfl rfl rfl,
   h.2.1.cg2 (fun t => rK 20 t (by omega)) (fun c s _ _ => rI c s (by omega)) rfl rfl rfl rfl rfl rfl rfl rfl rfl rfl rfl rfl,
   h.2.2.1.cg (fun s => congrFun (rI 10 s (by omega)) 7) (fun s => rI 12 s (by omega)) rfl rfl rfl rfl,
   h.2.2.2.1.cg (fun s j _ => congrFun (rI 15 s (by omega)) j) rfl rfl rfl rfl,
   h.2.2.2.2.cg (fun s => congrFun (rI 14 s (by omega)) 5) rfl rfl rfl rfl rfl rfl⟩
def pC (C : Mm) (n t v : Int32) : Mm := sI (sR (sI (sR (nw (sR (nw (sI (nw C 6 9) (mZ C) 0 t) 20 4) (mZ C) 1 (some (mZ C + 1))) 20 16) (mZ C) 2 (some (mZ C + 2))) (mZ C) 6 (-1)) 16 (ix n) (some (mZ C))) 8 2 v
theorem pC_K (C : Mm) (n t v : Int32) (a : Nat) : mK (pC C n t v) a = if a = mZ C + 2 then (20, 16) else if a = mZ C + 1 then (20, 4) else if a = mZ C then (6, 9) else mK C a := rfl
theorem pC_R (C : Mm) (n t v : Int32) (a j : Nat) : mR (pC C n t v) a j = if a = 16 ∧ j = ix n then some (mZ C) else if a = mZ C ∧ j = 2 then some (mZ C + 2) else if a = mZ C + 2 then none else if a = mZ C ∧ j = 1 then some (mZ C + 1) else if a = mZ C + 1 then none else if a = mZ C then none else mR C a j := rfl
theorem pC_I (C : Mm) (n t v : Int32) (a j : Nat) : mI (pC C n t v) a j = if a = 8 ∧ j = 2 then v else if a = mZ C ∧ j = 6 then -1 else if a = mZ C + 2 then 0 else if a = mZ C + 1 then 0 else if a = mZ C ∧ j = 0 then t else if a = mZ C then 0 else mI C a j := rfl
theorem person_R (h : Rel k ad C R) (hk : k < 512) {t : Int32} (ht : 0 ≤ t ∧ t < mI R 39 2) (hn : mI R 39 9 < 16) (h1 : ad 1 (ix (mI R 39 9)) = mZ C) (h2 : ad 2 (ix (mI R 39 9)) = mZ C + 1) (h3 : ad 3 (ix (mI R 39 9)) = mZ C + 2) (far : ∀ c i, 4 ≤ c → ad c i < mZ C ∨ mZ C + 200 ≤ ad c i) (farP : ∀ c i, 1 ≤ c → c ≤ 3 → i ≠ ix (mI R 39 9) → ad c i < mZ C ∨ mZ C + 200 ≤ ad c i) (far0 : ∀ i, mZ C + 200 ≤ ad 0 i) : Rel (k + 1) ad (pC C (mI R 39 9) t (mI R 39 9 + 1)) (sI (sI (sI R 46 (ix (mI R 39 9)) t) 49 (ix (mI R 39 9)) (-1)) 39 9 (mI R 39 9 + 1)) := by
  have hz := h.lv.1
  have hP := h.isc.persons
  have b16 : 0 ≤ mI R 39 9 + 1 ∧ mI R 39 9 + 1 ≤ 16 := by clear h1 h2 h3 far farP far0 h; grind
  have lt1 : ∀ x : Int32, x < mI R 39 9 → x < mI R 39 9 + 1 := fun x hx => by clear h1 h2 h3 far farP far0 h; grind
  have now1 : (-1 : Int32) ≤ mI R 39 0 := by
    have := h.isc.now
    clear h1 h2 h3 far farP far0 h
    grind
  have h16 := p16 h
  have n16 : ix (mI R 39 9) < 16 := ix_b 16 hP.1 hn (by decide) (by decide)
  have xn : ix (mI R 39 9 + 1) = ix (mI R 39 9) + 1 := ix_s1 _ hP.1 (by clear h1 h2 h3 far farP far0 h; grind)
  have rI : ∀ a, a ≠ 8 → a < mZ C ∨ mZ C + 3 ≤ a → mI (pC C (mI R 39 9) t (mI R 39 9 + 1)) a = mI C a := fun a p q => by
    funext j
    rw [pC_I, if_neg (fun w => p w.1), if_neg (fun w => by omega), if_neg (by omega), if_neg (by omega), if_neg (fun w => by omega), if_neg (by omega)]
  have rK : ∀ a, a < mZ C ∨ mZ C + 3 ≤ a → mK (pC C (mI R 39 9) t (mI R 39 9 + 1)) a = mK C a := fun a q => by
    rw [pC_K, if_neg (by omega), if_neg (by omega), if_neg (by omega)]
  have rR : ∀ a, a ≠ 16 → a < mZ C ∨ mZ C + 3 ≤ a → mR (pC C (mI R 39 9) t (mI R 39 9 + 1)) a = mR C a := fun a p q => by
    funext j
    rw [pC_R, if_neg (fun w => p w.1), if_neg (fun w => by omega), if_neg (by omega), if_neg (fun w => by omega), if_neg (by omega), if_neg (by omega)]
  have ge : ∀ c i, 116 ≤ ad c i := h.hA.1
  have rAI : ∀ c i, 4 ≤ c → mI (pC C (mI R 39 9) t (mI R 39 9 + 1)) (ad c i) = mI C (ad c i) := fun c i hc => rI _ (by have := ge c i; omega) (by have := far c i hc; omega)
  have rAK : ∀ c i, 4 ≤ c → mK (pC C (mI R 39 9) t (mI R 39 9 + 1)) (ad c i) = mK C (ad c i) := fun c i hc => rK _ (by have := far c i hc; omega)
  have rAR : ∀ c i, 4 ≤ c → mR (pC C (mI R 39 9) t (mI R 39 9 + 1)) (ad c i) = mR C (ad c i) := fun c i hc => rR _ (by have := ge c i; omega) (by have := far c i hc; omega)
  -- the data, step by step
  have e1 : mZ C < mZ (nw C 6 9) := Nat.lt_succ_self _
  have D1 := (h.dt.nw (c := 6) (n := 9)).st h.hA 1 (ix (mI R 39 9)) 0 (v := t) rfl (by decide) (by show ad 1 _ < _; rw [h1]; exact e1)
  have D2 := (D1.nw (c := 20) (n := 4))
  have D3 := (D2.nw (c := 20) (n := 16)).st h.hA 1 (ix (mI R 39 9)) 6 (v := -1) rfl (by decide) (by show ad 1 _ < mZ C + 1 + 1 + 1; rw [h1]; omega)
  have D4 := D3.st h.hA 108 0 2 (v := mI R 39 9 + 1) rfl (by decide) (by show 8 < mZ C + 1 + 1 + 1; omega)
  have pl1 : pl ad 1 (ix (mI R 39 9)) = mZ C := h1
  have D5 : Dt ad (pC C (mI R 39 9) t (mI R 39 9 + 1)) (sI (sI (sI R 46 (ix (mI R 39 9)) t) 49 (ix (mI R 39 9)) (-1)) 39 9 (mI R 39 9 + 1)) := by
    rw [pl1] at D4
    exact D4
  have L1 : DL ad (pC C (mI R 39 9) t (mI R 39 9 + 1)) R := ((h.dl.nw (c := 6) (n := 9)).nw (c := 20) (n := 4)).nw (c := 20) (n := 16)
  obtain ⟨i1, i2, i3, i4, i5⟩ := h.isc
  obtain ⟨p1, p2, p3, p4, p5, p6⟩ := h.ipe.up hk
  obtain ⟨l1, l2, l3, l4, l5⟩ := h.lv
  have i0 := h.ist
  obtain ⟨j1, j2, j3, j4, j5, j6, j7, j8, j9⟩ := h.ise
  have g := grow5 (R := R) h.g5 rAI rAK
  refine Rel.mk5 ⟨fun a x y => ?_, fun a j b x y => ?_⟩ h.sr h.hA ⟨by show 116 ≤ mZ C + 1 + 1 + 1; omega, fun a x => ?_, fun a j x => ?_, by show mZ C + 1 + 1 + 1 ≤ _; omega, by show mS C + 9 + 4 + 16 ≤ _; omega⟩ D5 L1 ⟨i1, i2, i3, ?_, i5⟩ h.ila ⟨fun i hi => ?_, p2, p3, p4, p5, p6⟩ (fun i hi => ?_) (fun s hs => ?_) ⟨i0.1, i0.2.1, fun w hw => ?_, i0.2.2.2⟩ (fun t ht => ?_) h.ied ⟨fun s hs => ?_, ?_, fun c i => ?_⟩ ⟨j1, j2, j3, j4, fun s c x y => ?_, fun s b x y => ?_, j7, j8, j9⟩ h.ison g
  · rw [rK a (by omega)]; exact h.sc.1 a x y
  · have : a ≠ 16 := fun q => by rw [q] at y; cases y
    rw [rR a this (by omega)]; exact h.sc.2 a j b x y
  · have x : mZ C + 1 + 1 + 1 ≤ a := x
    rw [rK a (by omega)]; exact l2 a (by omega)
  · have x : mZ C + 1 + 1 + 1 ≤ a := x
    rw [rR a (by omega) (by omega)]; exact l3 a j (by omega)
  · exact b16
  · obtain ⟨a, b, c⟩ := p1 i hi
    refine ⟨?_, ?_, c⟩
    · show 0 ≤ mI (sI R 46 (ix (mI R 39 9)) t) 46 i ∧ mI (sI R 46 (ix (mI R 39 9)) t) 46 i < mI R 39 2
      rw [mI_sI]
      split
      · exact ht
      · exact a
    · show -1 ≤ mI (sI (sI R 46 (ix (mI R 39 9)) t) 49 (ix (mI R 39 9)) (-1)) 49 i ∧ mI (sI (sI R 46 (ix (mI R 39 9)) t) 49 (ix (mI R 39 9)) (-1)) 49 i ≤ mI R 39 0
      rw [mI_sI]
      split
      · exact ⟨by decide, now1⟩
      · exact b
  · have hi : i < ix (mI R 39 9 + 1) := hi
    rw [xn] at hi
    by_cases c : i = ix (mI R 39 9)
    · rw [c, h1, h2, h3, pC_R, if_pos ⟨rfl, rfl⟩, pC_K, if_neg (by omega), if_neg (by omega), if_pos rfl, pC_R, if_neg (fun w => by omega), if_neg (fun w => by omega), if_neg (by omega), if_pos ⟨rfl, rfl⟩, pC_R, if_neg (fun w => by omega), if_pos ⟨rfl, rfl⟩, pC_K, if_neg (by omega), if_pos rfl, pC_K, if_pos rfl]
      exact ⟨rfl, rfl, rfl, rfl, rfl, rfl⟩
    · have hi' : i < ix (mI R 39 9) := by omega
      have q1 := farP 1 i (by decide) (by decide) c
      have q2 := farP 2 i (by decide) (by decide) c
      have q3 := farP 3 i (by decide) (by decide) c
      rw [rR (ad 1 i) (by have := ge 1 i; omega) (by omega), rK (ad 1 i) (by omega), rK (ad 2 i) (by omega), rK (ad 3 i) (by omega)]
      obtain ⟨a1, a2⟩ := h.shp i hi'
      refine ⟨?_, a2⟩
      rw [pC_R, if_neg (fun w => c w.2), if_neg (fun w => by omega), if_neg (by omega), if_neg (fun w => by omega), if_neg (by omega), if_neg (by omega)]
      exact a1
  · have hs : s < ix (mI R 39 22) := hs
    rw [rR 17 (by decide) (by omega), rAR 4 s (by decide), rAK 4 s (by decide), rAK 5 s (by decide), rAK 6 s (by decide), rAK 7 s (by decide), rAK 8 s (by decide), rAK 9 s (by decide)]
    exact h.shs s hs
  · obtain ⟨a, b, c⟩ := i0.2.2.1 w hw
    refine ⟨a, ⟨b.1, ?_⟩, c⟩
    exact lt1 _ b.2
  · have ht : t < ix (mI R 39 37) := ht
    rw [rR 28 (by decide) (by omega), rAR 16 t (by decide), rAK 16 t (by decide), rAK 17 t (by decide), rAK 18 t (by decide), rAK 19 t (by decide), rAK 20 t (by decide)]
    exact h.she t ht
  · have hs : s < ix (mI R 39 70) := hs
    obtain ⟨a1, a2, a3, a4, a5, a6, a7, a8, a9, a10⟩ := h.shn.1 s hs
    rw [rR 37 (by decide) (by omega), rAR 10 s (by decide), rAR 11 s (by decide), rAR 13 s (by decide), rAK 10 s (by decide), rAK 11 s (by decide), rAK 12 s (by decide), rAK 13 s (by decide)]
    refine ⟨a1, a2, a3, a4, a5, a6, a7, a8, fun c hc => ?_, fun b hb => ?_⟩
    · rw [rAK 14 _ (by decide)]; exact a9 c hc
    · rw [rAK 15 _ (by decide)]; exact a10 b hb
  · rw [rR 8 (by decide) (by omega)]; exact h.shn.2.1
  · show Al (sI (sI (sI R 46 (ix (mI R 39 9)) t) 49 (ix (mI R 39 9)) (-1)) 39 9 (mI R 39 9 + 1)) c i ∨ mZ C + 1 + 1 + 1 ≤ ad c i
    have old := h.shn.2.2 c i
    unfold Al at old ⊢
    have e9 : ix (mI (sI (sI (sI R 46 (ix (mI R 39 9)) t) 49 (ix (mI R 39 9)) (-1)) 39 9 (mI R 39 9 + 1)) 39 9) = ix (mI R 39 9) + 1 := xn
    rw [e9]
    by_cases c3 : 1 ≤ c ∧ c ≤ 3
    · by_cases ci : i = ix (mI R 39 9)
      · exact Or.inl (Or.inl ⟨c3.1, c3.2, by omega⟩)
      · rcases old with (⟨a, b, d⟩ | q) | q
        · exact Or.inl (Or.inl ⟨a, b, by omega⟩)
        · exact Or.inl (Or.inr q)
        · have := farP c i c3.1 c3.2 ci
          right; omega
    · rcases old with (⟨a, b, d⟩ | q) | q
      · exact absurd ⟨a, b⟩ c3
      · exact Or.inl (Or.inr q)
      · right
        by_cases c0 : c = 0
        · rw [c0]; have := far0 i; omega
        · have := far c i (by omega); omega
  · obtain ⟨a, b⟩ := j5 s c x y
    refine ⟨⟨a.1, ?_⟩, b⟩
    exact lt1 _ a.2
  · obtain ⟨a, b, d⟩ := j6 s b x y
    refine ⟨⟨a.1, ?_⟩, ⟨b.1, ?_⟩, d⟩
    · exact lt1 _ a.2
    · exact lt1 _ b.2
end A2
