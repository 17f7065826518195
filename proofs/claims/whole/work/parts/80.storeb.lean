section A5
variable {k : Nat} {ad : Nat → Nat → Nat} {C R : Mm}
theorem sC0_K (C : Mm) {a : Nat} (ha : a < mZ C) : mK (sC0 C) a = mK C a := by
  unfold sC0
  rw [mK_sR, mK_nw, if_neg (by simp only [mZ_sR, mZ_nw]; omega), mK_sR, mK_nw, if_neg (by simp only [mZ_sR, mZ_nw]; omega), mK_sR, mK_nw, if_neg (by simp only [mZ_sR, mZ_nw]; omega), mK_sR, mK_nw, if_neg (by simp only [mZ_sR, mZ_nw]; omega), mK_sR, mK_nw, if_neg (by simp only [mZ_sR, mZ_nw]; omega), mK_nw, if_neg (by omega)]
theorem sC0_Kz (C : Mm) : mK (sC0 C) (mZ C) = (10, 14) := by
  unfold sC0
  rw [mK_sR, mK_nw, if_neg (by simp only [mZ_sR, mZ_nw]; omega), mK_sR, mK_nw, if_neg (by simp only [mZ_sR, mZ_nw]; omega), mK_sR, mK_nw, if_neg (by simp only [mZ_sR, mZ_nw]; omega), mK_sR, mK_nw, if_neg (by simp only [mZ_sR, mZ_nw]; omega), mK_sR, mK_nw, if_neg (by simp only [mZ_sR, mZ_nw]; omega), mK_nw, if_pos rfl]
theorem sC0_I (C : Mm) (hz : 116 ≤ mZ C) : mI (sC0 C) 8 4 = mI C 8 4 := by
  unfold sC0
  rw [mI_sR, mI_nw, if_neg (by simp only [mZ_sR, mZ_nw]; omega), mI_sR, mI_nw, if_neg (by simp only [mZ_sR, mZ_nw]; omega), mI_sR, mI_nw, if_neg (by simp only [mZ_sR, mZ_nw]; omega), mI_sR, mI_nw, if_neg (by simp only [mZ_sR, mZ_nw]; omega), mI_sR, mI_nw, if_neg (by simp only [mZ_sR, mZ_nw]; omega), mI_nw, if_neg (by omega)]
theorem ev_snew (C : Mm) : Store_new (nw C 10 14) (mZ C) = some ((), sC0 C) := by
  have k1 : kO (nw (nw C 10 14) 20 60) (mZ C) 10 14 = true := kO_t (by
    rw [mK_nw, if_neg (by simp only [mZ_sR, mZ_nw]; omega), mK_nw, if_pos rfl])
  have k2 : kO (nw (sR (nw (nw C 10 14) 20 60) (mZ C) 0 (some (mZ C + 1))) 20 60) (mZ C) 10 14 = true := kO_t (by
    rw [mK_nw, if_neg (by simp only [mZ_sR, mZ_nw]; omega), mK_sR, mK_nw, if_neg (by simp only [mZ_sR, mZ_nw]; omega), mK_nw, if_pos rfl])
  have k3 : kO (nw (sR (nw (sR (nw (nw C 10 14) 20 60) (mZ C) 0 (some (mZ C + 1))) 20 60) (mZ C) 1 (some (mZ C + 2))) 20 60) (mZ C) 10 14 = true := kO_t (by
    rw [mK_nw, if_neg (by simp only [mZ_sR, mZ_nw]; omega), mK_sR, mK_nw, if_neg (by simp only [mZ_sR, mZ_nw]; omega), mK_sR, mK_nw, if_neg (by simp only [mZ_sR, mZ_nw]; omega), mK_nw, if_pos rfl])
  have k4 : kO (nw (sR (nw (sR (nw (sR (nw (nw C 10 14) 20 60) (mZ C) 0 (some (mZ C + 1))) 20 60) (mZ C) 1 (some (mZ C + 2))) 20 60) (mZ C) 3 (some (mZ C + 3))) 20 60) (mZ C) 10 14 = true := kO_t (by
    rw [mK_nw, if_neg (by simp only [mZ_sR, mZ_nw]; omega), mK_sR, mK_nw, if_neg (by simp only [mZ_sR, mZ_nw]; omega), mK_sR, mK_nw, if_neg (by simp only [mZ_sR, mZ_nw]; omega), mK_sR, mK_nw, if_neg (by simp only [mZ_sR, mZ_nw]; omega), mK_nw, if_pos rfl])
  have k5 : kO (nw (sR (nw (sR (nw (sR (nw (sR (nw (nw C 10 14) 20 60) (mZ C) 0 (some (mZ C + 1))) 20 60) (mZ C) 1 (some (mZ C + 2))) 20 60) (mZ C) 3 (some (mZ C + 3))) 20 60) (mZ C) 4 (some (mZ C + 4))) 20 60) (mZ C) 10 14 = true := kO_t (by
    rw [mK_nw, if_neg (by simp only [mZ_sR, mZ_nw]; omega), mK_sR, mK_nw, if_neg (by simp only [mZ_sR, mZ_nw]; omega), mK_sR, mK_nw, if_neg (by simp only [mZ_sR, mZ_nw]; omega), mK_sR, mK_nw, if_neg (by simp only [mZ_sR, mZ_nw]; omega), mK_sR, mK_nw, if_neg (by simp only [mZ_sR, mZ_nw]; omega), mK_nw, if_pos rfl])
  unfold Store_new
  have z1 : mZ (nw C 10 14) = mZ C + 1 := rfl
  have z2 : mZ (sR (nw (nw C 10 14) 20 60) (mZ C) 0 (some (mZ C + 1))) = mZ C + 2 := by rw [mZ_sR, mZ_nw, z1]
  have z3 : mZ (sR (nw (sR (nw (nw C 10 14) 20 60) (mZ C) 0 (some (mZ C + 1))) 20 60) (mZ C) 1 (some (mZ C + 2))) = mZ C + 3 := by rw [mZ_sR, mZ_nw, z2]
  have z4 : mZ (sR (nw (sR (nw (sR (nw (nw C 10 14) 20 60) (mZ C) 0 (some (mZ C + 1))) 20 60) (mZ C) 1 (some (mZ C + 2))) 20 60) (mZ C) 3 (some (mZ C + 3))) = mZ C + 4 := by rw [mZ_sR, mZ_nw, z3]
  have z5 : mZ (sR (nw (sR (nw (sR (nw (sR (nw (nw C 10 14) 20 60) (mZ C) 0 (some (mZ C + 1))) 20 60) (mZ C) 1 (some (mZ C + 2))) 20 60) (mZ C) 3 (some (mZ C + 3))) 20 60) (mZ C) 4 (some (mZ C + 4))) = mZ C + 5 := by rw [mZ_sR, mZ_nw, z4]
  simp only [z1, k1, ck_t]
  simp only [z2, k2, ck_t]
  simp only [z3, k3, ck_t]
  simp only [z4, k4, ck_t]
  simp only [z5, k5, ck_t]
  rfl
theorem sim_store (h : Rel k ad C R) (hk : k < 512) : Sim k (Hall_store C 8) (Mod_store R 39) := by
  have s1 : ∀ r : Int32, Sim k (some (r, C)) (some (r, R)) := fun r => ⟨_, _, _, ad, rfl, rfl, h.up hk⟩
  have hS := h.isc.stores
  have hz := h.lv.1
  unfold Hall_store Mod_store
  simp only [h.o8, h.o39, ck_t, h.l8_4]
  by_cases h2 : mI R 39 22 = 4
  · rw [if_neg (show ¬ mI R 39 22 < 4 by rw [h2]; decide), if_pos h2]
    exact s1 _
  · have lt : mI R 39 22 < 4 := by grind
    rw [if_pos lt, if_neg h2]
    have n4 : ix (mI R 39 22) < 4 := ix_b 4 hS.1 lt (by decide) (by decide)
    have sub1 : mI R 39 22 + 1 - 1 = mI R 39 22 := by grind
    have a17 : kA (sC0 C) 17 25 (mI R 39 22) = true := kA_t (n := 4) (by
      rw [sC0_K C (by omega)]
      exact h.sc.k17) hS.1 n4
    have kz : kO (sC0 C) (mZ C) 10 14 = true := kO_t (sC0_Kz C)
    have k8 : kO (sR (sC0 C) 17 (ix (mI R 39 22)) (some (mZ C))) 8 11 18 = true := kO_t (by
      rw [mK_sR, sC0_K C (by omega)]
      exact h.sc.k8)
    have r4 : mI (sR (sC0 C) 17 (ix (mI R 39 22)) (some (mZ C))) 8 4 = mI R 39 22 := by
      rw [mI_sR, sC0_I C hz]
      exact h.l8_4
    simp only [h.sc.r8_3, nn_s, ev_snew, bd_s, a17, kz, k8, ck_t, r4]
    have r4' : mI (sI (sR (sC0 C) 17 (ix (mI R 39 22)) (some (mZ C))) 8 4 (mI R 39 22 + 1)) 8 4 = mI R 39 22 + 1 := by rw [mI_sI, if_pos ⟨rfl, rfl⟩]
    have g3 : mI (sI R 39 22 (mI R 39 22 + 1)) 39 22 = mI R 39 22 + 1 := by rw [mI_sI, if_pos ⟨rfl, rfl⟩]
    rw [r4', g3, sub1]
    clear a17 kz k8 r4 r4' g3
    have nz : ∀ c i, (if i = ix (mI R 39 22) ∧ 4 ≤ c ∧ c ≤ 9 then mZ C + (c - 4) else 0) ≠ 0 → i = ix (mI R 39 22) ∧ 4 ≤ c ∧ c ≤ 9 := fun c i q => by
      apply Classical.byContradiction
      intro w
      rw [if_neg w] at q
      exact q rfl
    obtain ⟨ad', y1, y2, y3, y4⟩ := h.re (fun c i => if i = ix (mI R 39 22) ∧ 4 ≤ c ∧ c ≤ 9 then mZ C + (c - 4) else 0) (fun c i q => by
      have w := nz c i q
      show mZ C ≤ (if i = ix (mI R 39 22) ∧ 4 ≤ c ∧ c ≤ 9 then mZ C + (c - 4) else 0) ∧ (if i = ix (mI R 39 22) ∧ 4 ≤ c ∧ c ≤ 9 then mZ C + (c - 4) else 0) < mZ C + 200 ∧ ¬ Al R c i
      rw [if_pos w]
      refine ⟨by omega, by omega, ?_⟩
      unfold Al
      omega) (fun c i c' i' q e => by
      have w := nz c i q
      have e : (if i = ix (mI R 39 22) ∧ 4 ≤ c ∧ c ≤ 9 then mZ C + (c - 4) else 0) = (if i' = ix (mI R 39 22) ∧ 4 ≤ c' ∧ c' ≤ 9 then mZ C + (c' - 4) else 0) := e
      rw [if_pos w] at e
      by_cases w' : i' = ix (mI R 39 22) ∧ 4 ≤ c' ∧ c' ≤ 9
      · rw [if_pos w'] at e; omega
      · rw [if_neg w'] at e; omega)
    show Sim k (some (mI R 39 22, sC C (ix (mI R 39 22)) (mI R 39 22 + 1))) (some (mI R 39 22, sI R 39 22 (mI R 39 22 + 1)))
    refine ⟨_, _, _, ad', rfl, rfl, store_R y1 hk lt (fun c p q => ?_) (fun c i q => ?_)⟩
    · have e : (if ix (mI R 39 22) = ix (mI R 39 22) ∧ 4 ≤ c ∧ c ≤ 9 then mZ C + (c - 4) else 0) = mZ C + (c - 4) := if_pos ⟨rfl, p, q⟩
      have := y2 c (ix (mI R 39 22)) (by show (if ix (mI R 39 22) = ix (mI R 39 22) ∧ 4 ≤ c ∧ c ≤ 9 then mZ C + (c - 4) else 0) ≠ 0; rw [e]; omega)
      exact this.trans e
    · by_cases a : Al R c i
      · left; exact al_lt y1 a
      · right
        refine y4 c i a ?_
        show (if i = ix (mI R 39 22) ∧ 4 ≤ c ∧ c ≤ 9 then mZ C + (c - 4) else 0) = 0
        rw [if_neg (fun w => q ⟨w.2.1, w.2.2, w.1⟩)]
end A5
