section A4
variable {k : Nat} {ad : Nat → Nat → Nat} {C R : Mm}
def sC0 (C : Mm) : Mm := sR (nw (sR (nw (sR (nw (sR (nw (sR (nw (nw C 10 14) 20 60) (mZ C) 0 (some (mZ C + 1))) 20 60) (mZ C) 1 (some (mZ C + 2))) 20 60) (mZ C) 3 (some (mZ C + 3))) 20 60) (mZ C) 4 (some (mZ C + 4))) 20 60) (mZ C) 5 (some (mZ C + 5))
def sC (C : Mm) (n : Nat) (v : Int32) : Mm := sI (sR (sC0 C) 17 n (some (mZ C))) 8 4 v
theorem sC_K (C : Mm) (n : Nat) (v : Int32) (a : Nat) : mK (sC C n v) a = if a = mZ C + 5 then (20, 60) else if a = mZ C + 4 then (20, 60) else if a = mZ C + 3 then (20, 60) else if a = mZ C + 2 then (20, 60) else if a = mZ C + 1 then (20, 60) else if a = mZ C then (10, 14) else mK C a := rfl
theorem sC_I (C : Mm) (n : Nat) (v : Int32) (a j : Nat) : mI (sC C n v) a j = if a = 8 ∧ j = 4 then v else if a = mZ C + 5 then 0 else if a = mZ C + 4 then 0 else if a = mZ C + 3 then 0 else if a = mZ C + 2 then 0 else if a = mZ C + 1 then 0 else if a = mZ C then 0 else mI C a j := rfl
theorem sC_R (C : Mm) (n : Nat) (v : Int32) (a j : Nat) : mR (sC C n v) a j = if a = 17 ∧ j = n then some (mZ C) else if a = mZ C ∧ j = 5 then some (mZ C + 5) else if a = mZ C + 5 then none else if a = mZ C ∧ j = 4 then some (mZ C + 4) else if a = mZ C + 4 then none else if a = mZ C ∧ j = 3 then some (mZ C + 3) else if a = mZ C + 3 then none else if a = mZ C ∧ j = 1 then some (mZ C + 2) else if a = mZ C + 2 then none else if a = mZ C ∧ j = 0 then some (mZ C + 1) else if a = mZ C + 1 then none else if a = mZ C then none else mR C a j := rfl
theorem cnt_0 {f : Nat → Int32} {s : Int32} : ∀ {n : Nat}, (∀ j, j < n → f j ≠ s) → cnt f s n = 0
  | 0, _ => rfl
  | n + 1, h => by rw [cnt_s, cnt_0 (fun j hj => h j (by omega)), if_neg (h n (by omega))]
theorem store_R (h : Rel k ad C R) (hk : k < 512) (hn : mI R 39 22 < 4) (h4 : ∀ c, 4 ≤ c → c ≤ 9 → ad c (ix (mI R 39 22)) = mZ C + (c - 4)) (far : ∀ c i, ¬ (4 ≤ c ∧ c ≤ 9 ∧ i = ix (mI R 39 22)) → ad c i < mZ C ∨ mZ C + 200 ≤ ad c i) : Rel (k + 1) ad (sC C (ix (mI R 39 22)) (mI R 39 22 + 1)) (sI R 39 22 (mI R 39 22 + 1)) := by
  have hz := h.lv.1
  have hS := h.isc.stores
  have b4 : 0 ≤ mI R 39 22 + 1 ∧ mI R 39 22 + 1 ≤ 4 := by clear h4 far h; grind
  have lt1 : ∀ x : Int32, x < mI R 39 22 → x < mI R 39 22 + 1 := fun x hx => by clear h4 far h; grind
  have xn : ix (mI R 39 22 + 1) = ix (mI R 39 22) + 1 := ix_s1 _ hS.1 (by clear h4 far h; grind)
  have n4 : ix (mI R 39 22) < 4 := ix_b 4 hS.1 hn (by decide) (by decide)
  generalize hN : ix (mI R 39 22) = N at *
  have eN : mI R 39 22 = Int32.ofNat N := by rw [← hN]; exact (of_ix _ hS.1).symm
  have ge : ∀ c i, 116 ≤ ad c i := h.hA.1
  have rI : ∀ a, a ≠ 8 → a < mZ C ∨ mZ C + 6 ≤ a → mI (sC C N (mI R 39 22 + 1)) a = mI C a := fun a p q => by
    funext j
    rw [sC_I, if_neg (fun w => p w.1), if_neg (by omega), if_neg (by omega), if_neg (by omega), if_neg (by omega), if_neg (by omega), if_neg (by omega)]
  have rK : ∀ a, a < mZ C ∨ mZ C + 6 ≤ a → mK (sC C N (mI R 39 22 + 1)) a = mK C a := fun a q => by
    rw [sC_K, if_neg (by omega), if_neg (by omega), if_neg (by omega), if_neg (by omega), if_neg (by omega), if_neg (by omega)]
  have rR : ∀ a, a ≠ 17 → a < mZ C ∨ mZ C + 6 ≤ a → mR (sC C N (mI R 39 22 + 1)) a = mR C a := fun a p q => by
    funext j
    rw [sC_R, if_neg (fun w => p w.1), if_neg (fun w => by omega), if_neg (by omega), if_neg (fun w => by omega), if_neg (by omega), if_neg (fun w => by omega), if_neg (by omega), if_neg (fun w => by omega), if_neg (by omega), if_neg (fun w => by omega), if_neg (by omega), if_neg (by omega)]
  have zI : ∀ c j, 4 ≤ c → c ≤ 9 → mI (sC C N (mI R 39 22 + 1)) (ad c N) j = 0 := fun c j p q => by
    rw [h4 c p q, sC_I, if_neg (fun w => by omega)]
    repeat' split
    all_goals first
      | rfl
      | (exfalso; omega)
  have fI : ∀ c i, ¬ (4 ≤ c ∧ c ≤ 9 ∧ i = N) → mI (sC C N (mI R 39 22 + 1)) (ad c i) = mI C (ad c i) := fun c i q => rI _ (by have := ge c i; omega) (by have := far c i q; omega)
  have fK : ∀ c i, ¬ (4 ≤ c ∧ c ≤ 9 ∧ i = N) → mK (sC C N (mI R 39 22 + 1)) (ad c i) = mK C (ad c i) := fun c i q => rK _ (by have := far c i q; omega)
  have fR : ∀ c i, ¬ (4 ≤ c ∧ c ≤ 9 ∧ i = N) → mR (sC C N (mI R 39 22 + 1)) (ad c i) = mR C (ad c i) := fun c i q => rR _ (by have := ge c i; omega) (by have := far c i q; omega)
  have D1 : Dt ad (sC C N (mI R 39 22 + 1)) (sI R 39 22 (mI R 39 22 + 1)) := (((((((h.dt.nw (c := 10) (n := 14)).nw (c := 20) (n := 60)).nw (c := 20) (n := 60)).nw (c := 20) (n := 60)).nw (c := 20) (n := 60)).nw (c := 20) (n := 60)) : Dt ad (sR (sC0 C) 17 N (some (mZ C))) R).st h.hA 108 0 4 rfl (by decide) (by show 8 < mZ C + 1 + 1 + 1 + 1 + 1 + 1; omega)
  have L1 : DL ad (sC C N (mI R 39 22 + 1)) R := (((((h.dl.nw (c := 10) (n := 14)).nw (c := 20) (n := 60)).nw (c := 20) (n := 60)).nw (c := 20) (n := 60)).nw (c := 20) (n := 60)).nw (c := 20) (n := 60)
  obtain ⟨i1, i2, i3, i3', i4, i5⟩ := h.isc
  obtain ⟨l1, l2, l3, l4, l5⟩ := h.lv
  have i0 := h.ist
  have z55 := i0.2.2.2.2 N (by omega) n4
  have stb := h.st_b n4
  have z0 : (mI R 55 N).toInt = 0 := by rw [z55]; rfl
  refine Rel.mk ⟨fun a x y => ?_, fun a j b x y => ?_⟩ h.sr h.hA ⟨by show 116 ≤ mZ C + 1 + 1 + 1 + 1 + 1 + 1; omega, fun a x => ?_, fun a j x => ?_, by show mZ C + 1 + 1 + 1 + 1 + 1 + 1 ≤ _; omega, by show mS C + 14 + 60 + 60 + 60 + 60 + 60 ≤ _; omega⟩ D1 L1 ⟨i1, i2, i3, i3', b4, i5⟩ h.ila (h.ipe.up hk) (fun i hi => ?_) (fun s hs => ?_) ⟨i0.1, i0.2.1, fun w hw => ?_, fun u hu => ?_, fun s x y => ?_⟩ (fun s hs => ?_) (fun t ht => ?_) h.ied ?_ ⟨fun s hs => ?_, ?_, fun c i => ?_⟩ h.ise h.ison ?_ ?_ ?_
  · rw [rK a (by omega)]; exact h.sc.1 a x y
  · have : a ≠ 17 := fun q => by rw [q] at y; cases y
    rw [rR a this (by omega)]; exact h.sc.2 a j b x y
  · have x : mZ C + 1 + 1 + 1 + 1 + 1 + 1 ≤ a := x
    rw [rK a (by omega)]; exact l2 a (by omega)
  · have x : mZ C + 1 + 1 + 1 + 1 + 1 + 1 ≤ a := x
    rw [rR a (by omega) (by omega)]; exact l3 a j (by omega)
  · have hi : i < ix (mI R 39 9) := hi
    rw [rR 16 (by decide) (by omega), fR 1 i (by omega), fK 1 i (by omega), fK 2 i (by omega), fK 3 i (by omega)]
    exact h.shp i hi
  · have hs : s < ix (mI R 39 22 + 1) := hs
    rw [xn] at hs
    by_cases c : s = N
    · rw [c, h4 4 (by decide) (by decide), h4 5 (by decide) (by decide), h4 6 (by decide) (by decide), h4 7 (by decide) (by decide), h4 8 (by decide) (by decide), h4 9 (by decide) (by decide)]
      simp only [sC_R, sC_K, Nat.sub_self, Nat.add_zero, show 5 - 4 = 1 by decide, show 6 - 4 = 2 by decide, show 7 - 4 = 3 by decide, show 8 - 4 = 4 by decide, show 9 - 4 = 5 by decide]
      have e1 : ∀ m, 1 ≤ m → ¬ mZ C = mZ C + m := fun m hm => by omega
      have e2 : ¬ mZ C = 17 := by omega
      simp [e2]
    · rw [fR 4 s (by omega), fK 4 s (by omega), fK 5 s (by omega), fK 6 s (by omega), fK 7 s (by omega), fK 8 s (by omega), fK 9 s (by omega)]
      obtain ⟨a1, a2⟩ := h.shs s (by rw [hN]; omega)
      refine ⟨?_, a2⟩
      rw [sC_R, if_neg (fun w => c w.2), if_neg (fun w => by omega), if_neg (by omega), if_neg (fun w => by omega), if_neg (by omega), if_neg (fun w => by omega), if_neg (by omega), if_neg (fun w => by omega), if_neg (by omega), if_neg (fun w => by omega), if_neg (by omega), if_neg (by omega)]
      exact a1
  · obtain ⟨a, b⟩ := i0.2.2.1 w hw
    exact ⟨⟨a.1, lt1 _ a.2⟩, b⟩
  · obtain ⟨a, b⟩ := i0.2.2.2.1 u hu
    exact ⟨a, lt1 _ b⟩
  · have x : ix (mI R 39 22 + 1) ≤ s := x
    exact i0.2.2.2.2 s (by omega) y
  · have hs : s < ix (mI R 39 22 + 1) := hs
    rw [xn] at hs
    by_cases c : s = N
    · have c59 : ∀ n, n ≤ ix (mI R 39 23) → cnt (mI R 59) (Int32.ofNat N) n = 0 := fun n hn => cnt_0 (fun u hu e => by
        have := (i0.2.2.2.1 u (by omega)).2
        rw [e, eN] at this
        have := (of_lt N N (by omega) (by omega)).mp this
        omega)
      have n62 : ∀ w, w < ix (mI R 39 24) → mI R 62 w ≠ Int32.ofNat N := fun w hw e => by
        have := (i0.2.2.1 w hw).1.2
        rw [e, eN] at this
        have := (of_lt N N (by omega) (by omega)).mp this
        omega
      have c62 : cnt (mI R 62) (Int32.ofNat N) (ix (mI R 39 24)) = 0 := cnt_0 (fun u hu => n62 u hu)
      rw [c, zI 4 2 (by decide) (by decide), zI 4 7 (by decide) (by decide), zI 4 6 (by decide) (by decide), zI 4 9 (by decide) (by decide), zI 4 10 (by decide) (by decide)]
      refine ⟨?_, fun u hu e => ?_, ?_, fun w hw e => absurd e (n62 w hw), ⟨by decide, by decide⟩, fun w hw e => absurd e (n62 w hw), ?_, ?_⟩
      · show (0 : Int32) = Int32.ofNat (cnt (mI R 59) (Int32.ofNat N) (ix (mI R 39 23)))
        rw [c59 _ (Nat.le_refl _)]; rfl
      · have hu : u < ix (mI R 39 23) := hu
        have e : mI R 59 u = Int32.ofNat N := e
        have := (i0.2.2.2.1 u hu).2
        rw [e, eN] at this
        have := (of_lt N N (by omega) (by omega)).mp this
        omega
      · show (0 : Int32) = Int32.ofNat (cnt (mI R 62) (Int32.ofNat N) (ix (mI R 39 24)))
        rw [c62]; rfl
      · show (0 : Int32).toInt = sumP R N
        rw [i0T]; omega
      · show (0 : Int32).toInt = sumW R N
        rw [i0T]; omega
    · rw [fI 4 s (by omega), fI 5 s (by omega), fI 6 s (by omega), fI 7 s (by omega), fI 8 s (by omega), fI 9 s (by omega)]
      exact h.qs s (by rw [hN]; omega)
  · have ht : t < ix (mI R 39 37) := ht
    rw [rR 28 (by decide) (by omega), fR 16 t (by omega), fK 16 t (by omega), fK 17 t (by omega), fK 18 t (by omega), fK 19 t (by omega), fK 20 t (by omega)]
    exact h.she t ht
  · exact h.eds.cg2 (fun t => fK 20 t (by omega)) (fun c s _ _ => fI c s (by omega)) rfl rfl rfl rfl rfl rfl rfl rfl rfl rfl rfl rfl
  · have hs : s < ix (mI R 39 70) := hs
    obtain ⟨a1, a2, a3, a4, a5, a6, a7, a8, a9, a10⟩ := h.shn.1 s hs
    rw [rR 37 (by decide) (by omega), fR 10 s (by omega), fR 11 s (by omega), fR 13 s (by omega), fK 10 s (by omega), fK 11 s (by omega), fK 12 s (by omega), fK 13 s (by omega)]
    refine ⟨a1, a2, a3, a4, a5, a6, a7, a8, fun c hc => ?_, fun b hb => ?_⟩
    · rw [fK 14 _ (by omega)]; exact a9 c hc
    · rw [fK 15 _ (by omega)]; exact a10 b hb
  · rw [rR 8 (by decide) (by omega)]; exact h.shn.2.1
  · show Al (sI R 39 22 (mI R 39 22 + 1)) c i ∨ mZ C + 1 + 1 + 1 + 1 + 1 + 1 ≤ ad c i
    have old := h.shn.2.2 c i
    have e22 : ix (mI (sI R 39 22 (mI R 39 22 + 1)) 39 22) = N + 1 := xn
    unfold Al at old ⊢
    rw [e22]
    rw [hN] at old
    by_cases cc : 4 ≤ c ∧ c ≤ 9 ∧ i = N
    · exact Or.inl (Or.inr (Or.inl ⟨cc.1, cc.2.1, by omega⟩))
    · rcases old with (q | ⟨a, b, d⟩ | q) | q
      · exact Or.inl (Or.inl q)
      · exact Or.inl (Or.inr (Or.inl ⟨a, b, by omega⟩))
      · exact Or.inl (Or.inr (Or.inr q))
      · have := far c i cc
        right; omega
  · exact h.son.cg (fun s => congrFun (fI 10 s (by omega)) 7) (fun s => fI 12 s (by omega)) rfl rfl rfl rfl
  · exact h.den.cg (fun s j _ => congrFun (fI 15 s (by omega)) j) rfl rfl rfl rfl
  · exact h.evs.cg (fun s => congrFun (fI 14 s (by omega)) 5) rfl rfl rfl rfl rfl rfl
end A4
