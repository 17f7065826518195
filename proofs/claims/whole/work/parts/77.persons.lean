section A3
variable {k : Nat} {ad : Nat → Nat → Nat} {C R : Mm}
theorem sim_person (h : Rel k ad C R) (hk : k < 512) (t : Int32) : Sim k (Hall_person C 8 t) (Mod_person R 39 t) := by
  have s1 : ∀ r : Int32, Sim k (some (r, C)) (some (r, R)) := fun r => ⟨_, _, _, ad, rfl, rfl, h.up hk⟩
  have hP := h.isc.persons
  have h16 := p16 h
  have hz := h.lv.1
  unfold Hall_person Mod_person
  simp only [h.o8, h.o9, h.o39, ck_t, h.sc.r8_0, nn_s, ev_has h, ev_isT h, bd_s]
  by_cases h1 : 0 ≤ t ∧ t < mI R 39 2
  · simp only [if_pos h1, i10, if_false, h.o8, h.o39, ck_t, h.l8_2]
    by_cases h2 : mI R 39 9 = 16
    · rw [if_neg (show ¬ mI R 39 9 < 16 by rw [h2]; decide), if_pos h2]
      exact s1 _
    · have lt : mI R 39 9 < 16 := by grind
      rw [if_pos lt, if_neg h2]
      have n16 : ix (mI R 39 9) < 16 := ix_b 16 hP.1 lt (by decide) (by decide)
      have sub1 : mI R 39 9 + 1 - 1 = mI R 39 9 := by grind
      -- the class makes its objects
      have k1 : kO (nw C 6 9) (mZ C) 6 9 = true := kO_t (by rw [mK_nw, if_pos rfl])
      have k2 : kO (nw (sI (nw C 6 9) (mZ C) 0 t) 20 4) (mZ C) 6 9 = true := kO_t (by
        show (if mZ C = mZ C + 1 then (20, 4) else if mZ C = mZ C then (6, 9) else mK C (mZ C)) = _
        rw [if_neg (by omega), if_pos rfl])
      have k3 : kO (nw (sR (nw (sI (nw C 6 9) (mZ C) 0 t) 20 4) (mZ C) 1 (some (mZ C + 1))) 20 16) (mZ C) 6 9 = true := kO_t (by
        show (if mZ C = mZ C + 2 then (20, 16) else if mZ C = mZ C + 1 then (20, 4) else if mZ C = mZ C then (6, 9) else mK C (mZ C)) = _
        rw [if_neg (by omega), if_neg (by omega), if_pos rfl])
      have eN : Person_new (nw C 6 9) (mZ C) t = some ((), sI (sR (nw (sR (nw (sI (nw C 6 9) (mZ C) 0 t) 20 4) (mZ C) 1 (some (mZ C + 1))) 20 16) (mZ C) 2 (some (mZ C + 2))) (mZ C) 6 (-1)) := by
        unfold Person_new
        rw [k1, ck_t]
        show ck (kO (nw (sI (nw C 6 9) (mZ C) 0 t) 20 4) (mZ C) 6 9) (ck (kO (nw (sR (nw (sI (nw C 6 9) (mZ C) 0 t) 20 4) (mZ C) 1 (some (mZ C + 1))) 20 16) (mZ C) 6 9) _) = _
        rw [k2, k3, ck_t, ck_t]
        rfl
      have a16 : kA (sI (sR (nw (sR (nw (sI (nw C 6 9) (mZ C) 0 t) 20 4) (mZ C) 1 (some (mZ C + 1))) 20 16) (mZ C) 2 (some (mZ C + 2))) (mZ C) 6 (-1)) 16 24 (mI R 39 9) = true := kA_t (n := 16) (by
        show (if 16 = mZ C + 2 then (20, 16) else if 16 = mZ C + 1 then (20, 4) else if 16 = mZ C then (6, 9) else mK C 16) = _
        rw [if_neg (by omega), if_neg (by omega), if_neg (by omega)]
        exact h.sc.k16) hP.1 n16
      have k4 : kO (sI (sR (nw (sR (nw (sI (nw C 6 9) (mZ C) 0 t) 20 4) (mZ C) 1 (some (mZ C + 1))) 20 16) (mZ C) 2 (some (mZ C + 2))) (mZ C) 6 (-1)) (mZ C) 6 9 = true := k3
      have k5 : kO (sR (sI (sR (nw (sR (nw (sI (nw C 6 9) (mZ C) 0 t) 20 4) (mZ C) 1 (some (mZ C + 1))) 20 16) (mZ C) 2 (some (mZ C + 2))) (mZ C) 6 (-1)) 16 (ix (mI R 39 9)) (some (mZ C))) 8 11 18 = true := kO_t (by
        show (if 8 = mZ C + 2 then (20, 16) else if 8 = mZ C + 1 then (20, 4) else if 8 = mZ C then (6, 9) else mK C 8) = _
        rw [if_neg (by omega), if_neg (by omega), if_neg (by omega)]
        exact h.sc.k8)
      have r2 : mI (sR (sI (sR (nw (sR (nw (sI (nw C 6 9) (mZ C) 0 t) 20 4) (mZ C) 1 (some (mZ C + 1))) 20 16) (mZ C) 2 (some (mZ C + 2))) (mZ C) 6 (-1)) 16 (ix (mI R 39 9)) (some (mZ C))) 8 2 = mI R 39 9 := by
        show (if 8 = mZ C ∧ 2 = 6 then (-1 : Int32) else if 8 = mZ C + 2 then 0 else if 8 = mZ C + 1 then 0 else if 8 = mZ C ∧ 2 = 0 then t else if 8 = mZ C then 0 else mI C 8 2) = _
        rw [if_neg (fun q => by omega), if_neg (by omega), if_neg (by omega), if_neg (fun q => by omega), if_neg (by omega)]
        exact h.l8_2
      simp only [h.sc.r8_1, nn_s, eN, bd_s, a16, k4, k5, ck_t, r2]
      have r2' : mI (sI (sR (sI (sR (nw (sR (nw (sI (nw C 6 9) (mZ C) 0 t) 20 4) (mZ C) 1 (some (mZ C + 1))) 20 16) (mZ C) 2 (some (mZ C + 2))) (mZ C) 6 (-1)) 16 (ix (mI R 39 9)) (some (mZ C))) 8 2 (mI R 39 9 + 1)) 8 2 = mI R 39 9 + 1 := by rw [mI_sI, if_pos ⟨rfl, rfl⟩]
      rw [r2', sub1]
      -- the reference
      have g1 : mI (sI R 46 (ix (mI R 39 9)) t) 39 9 = mI R 39 9 := rfl
      have g2 : mI (sI (sI R 46 (ix (mI R 39 9)) t) 49 (ix (mI R 39 9)) (-1)) 39 9 = mI R 39 9 := rfl
      simp only [h.sr.r39_10, h.sr.r39_13, mR_sI, kA_sI, nn_s, kA_t h.sr.k46 hP.1 n16, kA_t h.sr.k49 hP.1 n16, ck_t, g1, g2]
      have g3 : mI (sI (sI (sI R 46 (ix (mI R 39 9)) t) 49 (ix (mI R 39 9)) (-1)) 39 9 (mI R 39 9 + 1)) 39 9 = mI R 39 9 + 1 := by rw [mI_sI, if_pos ⟨rfl, rfl⟩]
      rw [g3, sub1]
      obtain ⟨ad', y1, y2, y3, y4⟩ := h.re (fun c i => if i = ix (mI R 39 9) then (if c = 1 then mZ C else if c = 2 then mZ C + 1 else if c = 3 then mZ C + 2 else 0) else 0) (fun c i q => by
        have q : (if i = ix (mI R 39 9) then (if c = 1 then mZ C else if c = 2 then mZ C + 1 else if c = 3 then mZ C + 2 else 0) else 0) ≠ 0 := q
        show mZ C ≤ (if i = ix (mI R 39 9) then (if c = 1 then mZ C else if c = 2 then mZ C + 1 else if c = 3 then mZ C + 2 else 0) else 0) ∧ (if i = ix (mI R 39 9) then (if c = 1 then mZ C else if c = 2 then mZ C + 1 else if c = 3 then mZ C + 2 else 0) else 0) < mZ C + 200 ∧ ¬ Al R c i
        by_cases ci : i = ix (mI R 39 9)
        · rw [if_pos ci] at q ⊢
          have c3 : 1 ≤ c ∧ c ≤ 3 := by
            apply Classical.byContradiction
            intro w
            rw [if_neg (by omega), if_neg (by omega), if_neg (by omega)] at q
            exact q rfl
          refine ⟨?_, ?_, ?_⟩
          · repeat' split
            all_goals omega
          · repeat' split
            all_goals omega
          · unfold Al
            omega
        · rw [if_neg ci] at q
          exact absurd rfl q) (fun c i c' i' q e => by
        have q : (if i = ix (mI R 39 9) then (if c = 1 then mZ C else if c = 2 then mZ C + 1 else if c = 3 then mZ C + 2 else 0) else 0) ≠ 0 := q
        have e : (if i = ix (mI R 39 9) then (if c = 1 then mZ C else if c = 2 then mZ C + 1 else if c = 3 then mZ C + 2 else 0) else 0) = (if i' = ix (mI R 39 9) then (if c' = 1 then mZ C else if c' = 2 then mZ C + 1 else if c' = 3 then mZ C + 2 else 0) else 0) := e
        clear s1 k1 k2 k3 eN a16 k4 k5 r2 r2' g1 g2 g3
        repeat' split at e
        all_goals first
          | omega
          | (rw [e] at q; repeat' split at q
             all_goals omega))
      have z0 : mZ C ≠ 0 := by omega
      refine ⟨_, _, _, ad', rfl, rfl, person_R y1 hk h1 lt ?_ ?_ ?_ (fun c i hc => ?_) (fun c i c1 c3 ci => ?_) (fun i => ?_)⟩
      · have := y2 1 (ix (mI R 39 9)) (by simp; omega)
        simpa using this
      · have := y2 2 (ix (mI R 39 9)) (by simp)
        simpa using this
      · have := y2 3 (ix (mI R 39 9)) (by simp)
        simpa using this
      · by_cases a : Al R c i
        · left; exact al_lt y1 a
        · right
          refine y4 c i a ?_
          show (if i = ix (mI R 39 9) then (if c = 1 then mZ C else if c = 2 then mZ C + 1 else if c = 3 then mZ C + 2 else 0) else 0) = 0
          rw [if_neg (show ¬ c = 1 by omega), if_neg (show ¬ c = 2 by omega), if_neg (show ¬ c = 3 by omega)]
          split <;> rfl
      · by_cases a : Al R c i
        · left; exact al_lt y1 a
        · right
          refine y4 c i a ?_
          show (if i = ix (mI R 39 9) then (if c = 1 then mZ C else if c = 2 then mZ C + 1 else if c = 3 then mZ C + 2 else 0) else 0) = 0
          rw [if_neg ci]
      · refine y4 0 i (by unfold Al; omega) ?_
        show (if i = ix (mI R 39 9) then (if 0 = 1 then mZ C else if 0 = 2 then mZ C + 1 else if 0 = 3 then mZ C + 2 else 0) else 0) = 0
        by_cases ci : i = ix (mI R 39 9)
        · rw [if_pos ci]; rfl
        · rw [if_neg ci]
  · simp only [if_neg h1, if_true]
    exact s1 _
end A3
