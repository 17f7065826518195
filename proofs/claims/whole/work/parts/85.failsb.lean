section W5
variable {k : Nat} {ad : Nat → Nat → Nat} {C R : Mm}
theorem sim_fails (h : Rel k ad C R) (hk : k < 512) (a b : Int32) : Sim k (Hall_fails C 8 a b) (Mod_fails R 39 a b) := by
  have s1 : ∀ r : Int32, Sim k (some (r, C)) (some (r, R)) := fun r => ⟨_, _, _, ad, rfl, rfl, h.up hk⟩
  have h16 := p16 h
  have hP := h.isc.persons
  unfold Hall_fails Mod_fails
  simp only [h.o8, h.o39, ck_t, ev_isP h, ev_mP h, ev_within, ev_in, bd_s]
  by_cases h1 : 0 ≤ a ∧ a < mI R 39 9
  · by_cases h2 : 0 ≤ b ∧ b ≤ 3
    · have xc : ExC C (sI (sI C 33 3 0) 33 4 0) := (ExC.rf.s tC33.1).s tC33.1
      have h0 := h.tmp xc ExR.rf
      obtain ⟨C1, y1, y2, y3, y4⟩ := lp_cin (k := k) (ad := ad) (R := R) (ix (mI R 39 9)) fu 0 _ h0 (fun j hj => absurd hj (by omega)) ⟨by rw [mI_sI, if_neg (fun q => absurd q.2 (by decide)), mI_sI, if_pos ⟨rfl, rfl⟩], by rw [mI_sI, if_pos ⟨rfl, rfl⟩]⟩ (by omega) (fu_g (by omega))
      obtain ⟨R1, z1, z2, z3⟩ := lp_rin (k := k) (ad := ad) (C := C) a b (ix (mI R 39 9)) fu 0 R h (fun j hj => absurd hj (by omega)) (by omega) (fu_g (by omega))
      have hh := h.tmp (xc.tr y1) z1
      have e39 : mI R1 39 = mI R 39 := z1.1 39 (by unfold tR; omega)
      have hN : mI R1 39 9 = mI R 39 9 := by rw [e39]
      have fs : FS C1 R1 := by
        refine ⟨fun i hi => ?_, fun i hi => ?_, fun i hi => ?_⟩
        · rw [hN] at hi
          obtain ⟨a1, a2, -⟩ := y2 i hi
          obtain ⟨b1, b2⟩ := z2 i hi
          rw [a1, a2, b1, b2]
          exact ⟨rfl, rfl⟩
        · rw [hN] at hi
          obtain ⟨b1, b2⟩ := z2 i hi
          rw [b1, b2]
          decide
        · rw [hN] at hi
          rw [own_ex z1]
          exact (y2 i hi).2.2
      have nf0 : nfI R1 = 0 := by
        unfold nfI
        apply sumTo_0
        intro j hj
        rw [hN] at hj
        show (if mI R1 113 j = 0 then (0 : Int) else 1) = 0
        rw [if_pos (z2 j hj).1]
      obtain ⟨C', R', all', rds', w1, w2, w3, w4, w5, w6, w7⟩ := lp_rounds (k := k) (ad := ad) a b (mI R 39 9) h1 (ix (mI R 39 9)) fu fu 1 C1 R1 0 0 hh hN fs (by rw [nf0]; rfl) y3.1 y3.2 (by omega) (by omega) (by rw [nf0]; omega) (fu_g (by omega)) (by unfold fu; omega)
      have w1' : Ruin_reckon_L117 fu 33 16 (mI R 39 9) 1 C1 = some ((), C') := w1
      have w2' : Mod_fails_L61 fu 39 a b 0 0 1 1 R1 = finF a b all' rds' R' := w2
      have y4' : Ruin_reckon_L13 fu 33 16 (mI R 39 9) 17 (mI R 39 22) (lcl R) 0 (sI (sI C 33 3 0) 33 4 0) = Ruin_reckon_L117 fu 33 16 (mI R 39 9) 1 C1 := y4
      have z3' : Mod_fails_L21 fu 39 a b 0 R = Mod_fails_L61 fu 39 a b 0 0 1 1 R1 := z3
      have rk : Ruin_reckon C 33 16 (mI R 39 9) 17 (mI R 39 22) (lcl R) = some ((), C') := by
        unfold Ruin_reckon
        rw [h.o33, ck_t]
        exact y4'.trans w1'
      have xC : ExC C C' := (xc.tr y1).tr w3
      have xR : ExR R R' := z1.tr w4
      have hf := h.tmp xC xR
      have e39' : mI R' 39 = mI R 39 := xR.1 39 (by unfold tR; omega)
      have hi := ix_mo h1.1 h1.2
      obtain ⟨t1, t2⟩ := w5 (ix a) (by rw [e39']; exact hi)
      have a16 : ix a < 16 := by omega
      simp only [if_pos h1, if_pos h2, i10, if_false, h.o8, ck_t, h.sc.r8_11, h.sc.r8_1, h.sc.r8_3, h.sc.r8_10, nn_s, h.o30, ev_lcl h, bd_s, h.o33, h.l8_2, h.l8_4, rk, hf.o8, hf.o33, hf.sc.r8_11, hf.sc.r33_0, hf.sc.r33_1, kA_t hf.sc.k34 h1.1 a16, kA_t hf.sc.k35 h1.1 a16, t1, t2, w6, w7, z3', w2']
      unfold finF
      have s2 : ∀ r : Int32, Sim k (some (r, C')) (some (r, R')) := fun r => ⟨_, _, _, ad, rfl, rfl, hf.up hk⟩
      refine Sim.ite (fun _ => s2 _) (fun _ => ?_)
      refine Sim.ite (fun _ => s2 _) (fun _ => ?_)
      exact Sim.ite (fun _ => s2 _) (fun _ => s2 _)
    · simp only [if_pos h1, if_neg h2, i10, if_false, if_true]
      exact s1 _
  · simp only [if_neg h1, if_true]
    exact s1 _
end W5
