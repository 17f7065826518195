section X10
variable {k : Nat} {ad : Nat → Nat → Nat} {C R R' : Mm}
theorem lC_K (C : Mm) (N : Nat) (v t r : Int32) (a : Nat) : mK (lC C N v t r) a = if a = mZ C + 3 then (29, 60) else if a = mZ C + 2 then (20, 60) else if a = mZ C + 1 then (28, 60) else if a = mZ C then (9, 11) else mK C a := by
  unfold lC
  rw [mK_sI, mK_sR, mK_sR, lC0_K _ _ _ _ (mZ_nw C 9 11), mK_nw]
theorem lC_I (C : Mm) (N : Nat) (v t r : Int32) (a j : Nat) : mI (lC C N v t r) a j = if a = 8 ∧ j = 13 then v else if a = mZ C ∧ j = 9 then -1 else if a = mZ C ∧ j = 8 then -1 else if a = mZ C + 3 then 0 else if a = mZ C + 2 then 0 else if a = mZ C + 1 then 0 else if a = mZ C ∧ j = 7 then r else if a = mZ C ∧ j = 0 then t else if a = mZ C then 0 else mI C a j := by
  unfold lC
  rw [mI_sI, mI_sR, mI_sR, lC0_I _ _ _ _ (mZ_nw C 9 11), mI_nw]
theorem lC_R (C : Mm) (N : Nat) (v t r : Int32) (a j : Nat) : mR (lC C N v t r) a j = if a = 37 ∧ j = N then some (mZ C) else if a = 8 ∧ j = 14 then some (mZ C) else if a = mZ C ∧ j = 3 then some (mZ C + 3) else if a = mZ C + 3 then none else if a = mZ C ∧ j = 2 then some (mZ C + 2) else if a = mZ C + 2 then none else if a = mZ C ∧ j = 1 then some (mZ C + 1) else if a = mZ C + 1 then none else if a = mZ C then none else mR C a j := by
  unfold lC
  rw [mR_sI, mR_sR, mR_sR, lC0_R _ _ _ _ (mZ_nw C 9 11), mR_nw]
theorem lC_Z (C : Mm) (N : Nat) (v t r : Int32) : mZ (lC C N v t r) = mZ C + 4 := by
  unfold lC lC0
  simp only [mZ_sI, mZ_sR, mZ_nw]
theorem lC_S (C : Mm) (N : Nat) (v t r : Int32) : mS (lC C N v t r) = mS C + 191 := by
  unfold lC lC0
  simp only [mS_sI, mS_sR, mS_nw]
theorem Dt.rs (h : Dt ad C R) {a j : Nat} {v : Option Nat} : Dt ad (sR C a j v) R := h
theorem DL.rs (h : DL ad C R) {a j : Nat} {v : Option Nat} : DL ad (sR C a j v) R := h
theorem DL.is (h : DL ad C R) {a j : Nat} {v : Int32} : DL ad (sI C a j v) R := h
theorem Dt.stz (hA : Ad ad) (h : Dt ad C R) {z : Nat} (c i k : Nat) {a j : Nat} {v : Int32} (e : cm c i k = (a, j)) (ha : a ≠ 0) (ez : pl ad c i = z) (hz : z < mZ C) : Dt ad (sI C z k v) (sI R a j v) := by
  subst ez
  exact h.st hA c i k e ha hz
theorem Dt.stcz (hA : Ad ad) (h : Dt ad C R) {z : Nat} (c i k : Nat) {v : Int32} (e : cm c i k = (0, 0)) (hr : c < 100 ∨ (c < 139 ∧ i = 0)) (ez : pl ad c i = z) (hz : z < mZ C) : Dt ad (sI C z k v) R := by
  subst ez
  exact h.stc hA c i k e hr hz
theorem lC0_Dt (hA : Ad ad) (h : Dt ad C R) {z N : Nat} {t r : Int32} (hN : ad 10 N = z) (hz : mZ C = z + 1) : Dt ad (lC0 C z t r) (sI (sI (sI R 83 N t) 84 N (-1)) 85 N (-1)) := by
  unfold lC0
  refine Dt.stz hA (Dt.stz hA (Dt.rs (Dt.nw (Dt.rs (Dt.nw (Dt.rs (Dt.nw (Dt.stcz hA (Dt.stz hA h 10 N 0 rfl (by decide) hN (by omega)) 10 N 7 rfl (Or.inl (by decide)) hN (by rw [mZ_sI]; omega)))))))) 10 N 8 rfl (by decide) hN ?_) 10 N 9 rfl (by decide) hN ?_
  · simp only [mZ_sI, mZ_sR, mZ_nw]; omega
  · simp only [mZ_sI, mZ_sR, mZ_nw]; omega
theorem lC_Dt (h : Rel k ad C R) {N : Nat} {v t r : Int32} (hN : ad 10 N = mZ C) : Dt ad (lC C N v t r) (sI (sI (sI (sI R 83 N t) 84 N (-1)) 85 N (-1)) 39 70 v) := by
  have hz := h.lv.1
  unfold lC
  refine Dt.stz h.hA (Dt.rs (Dt.rs (lC0_Dt h.hA (Dt.nw h.dt) hN (mZ_nw C 9 11)))) 108 0 13 rfl (by decide) rfl ?_
  unfold lC0
  simp only [mZ_sI, mZ_sR, mZ_nw]; omega
theorem lC_DL (h : Rel k ad C R) {N : Nat} {v t r : Int32} : DL ad (lC C N v t r) R := by
  unfold lC lC0
  exact DL.is (DL.rs (DL.rs (DL.is (DL.is (DL.rs (DL.nw (DL.rs (DL.nw (DL.rs (DL.nw (DL.is (DL.is (DL.nw h.dl)))))))))))))
/-- another second memory, alike in the cells that correspond -/
theorem Dt.eqR (h : Dt ad C R) (e : ∀ a j, (ci a j).1 ≠ 0 → mI R' a j = mI R a j) : Dt ad C R' := fun c i j q => by
  rw [e, h c i j q]
  rw [cm_ci c i j q]
  intro w
  have w : c = 0 := w
  subst w
  exact q rfl
end X10
