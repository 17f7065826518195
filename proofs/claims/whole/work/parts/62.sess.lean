section Q2
variable {k : Nat} {ad : Nat → Nat → Nat} {C R : Mm}
theorem n24 (h : Rel k ad C R) : ix (mI R 39 70) ≤ 24 := by have := h.isc.sessions; grind [ix_t]
theorem n60 (h : Rel k ad C R) {s : Nat} (hs : s < 24) : ix (mI R 87 s) ≤ 60 ∧ ix (mI R 88 s) ≤ 60 ∧ 0 ≤ mI R 87 s ∧ 0 ≤ mI R 88 s := by
  have := h.ise.1 s hs
  grind [ix_t]
theorem ev_hasB (h : Rel k ad C R) {s : Nat} (hs : s < ix (mI R 39 70)) (b : Int32) : Session_hasBargain C (ad 10 s) b = some (if 0 ≤ b ∧ b < mI R 88 s then 1 else 0, C) := by
  unfold Session_hasBargain
  rw [kO_t (h.shn.1 s hs).2.1, ck_t, h.ln5 hs]
  by_cases h1 : b < 0
  · rw [if_pos h1, if_neg (by grind)]
  · by_cases h2 : mI R 88 s ≤ b
    · rw [if_neg h1, if_pos h2, if_neg (by grind)]
    · rw [if_neg h1, if_neg h2, if_pos (by grind)]
theorem sim_session (h : Rel k ad C R) (hk : k < 512) (a b : Int32) : Sim k (Hall_session C 8 a b) (Mod_session R 39 a b) := by
  unfold Hall_session Mod_session Mod_session_J35 Mod_session_J36
  have hN := n24 h
  have hs := h.isc.sessions
  have s1 : ∀ r : Int32, Sim k (some (r, C)) (some (r, R)) := fun r => ⟨_, _, _, ad, rfl, rfl, h.up hk⟩
  simp only [h.o8, h.o39, ck_t, nn_s, ev_isN h, bd_s]
  by_cases h0 : a < 0
  · rw [if_neg (show ¬ (0 ≤ a ∧ a < mI R 39 70) by grind), if_pos rfl, if_pos h0]
    exact s1 _
  · by_cases h1 : a < mI R 39 70
    · have a0 : 0 ≤ a := by grind
      have hi := ix_mo a0 h1
      have sh := h.shn.1 (ix a) hi
      have a24 : ix a < 24 := by omega
      have fz := h.son.1 (ix a) hi
      rw [if_pos (show 0 ≤ a ∧ a < mI R 39 70 from ⟨a0, h1⟩), if_neg (by decide), if_neg h0, if_pos h1]
      simp only [h.o8, h.o39, ck_t, h.sc.r8_12, nn_s, kA_t h.sc.k37 a0 a24, sh.1, kO_t sh.2.1, h.ln0 hi, h.ln4 hi, h.ln5 hi, h.ln6 hi, h.ln8 hi, h.ln9 hi, h.sr.r39_74, h.sr.r39_75, h.sr.r39_76, h.sr.r39_78, h.sr.r39_79, h.sr.r39_80, kA_t h.sr.k83 a0 a24, kA_t h.sr.k84 a0 a24, kA_t h.sr.k85 a0 a24, kA_t h.sr.k87 a0 a24, kA_t h.sr.k88 a0 a24, kA_t h.sr.k89 a0 a24, fz]
      rcases h.isc.on with o | o
      · rw [o]
        simp only [show ((0 : Int32) = 1) = False from eq_false (by decide), false_and, if_false, if_true]
        repeat (refine Sim.ite (fun _ => s1 _) (fun _ => ?_))
        exact s1 _
      · rw [o]
        simp only [i10, if_false, true_and]
        by_cases c : a = mI R 39 70 - 1
        · rw [if_pos c, if_pos (show ix a + 1 = ix (mI R 39 70) by grind [ix_t])]
          (try simp only [i10, if_false])
          repeat (refine Sim.ite (fun _ => s1 _) (fun _ => ?_))
          exact s1 _
        · rw [if_neg c, if_neg (show ¬ ix a + 1 = ix (mI R 39 70) by grind [ix_t])]
          (try simp only [if_true])
          repeat (refine Sim.ite (fun _ => s1 _) (fun _ => ?_))
          exact s1 _
    · rw [if_neg (show ¬ (0 ≤ a ∧ a < mI R 39 70) by grind), if_pos rfl, if_neg h0, if_neg h1]
      exact s1 _
theorem ev_isD (h : Rel k ad C R) {s b : Nat} (hs : s < ix (mI R 39 70)) (hb : b < ix (mI R 88 s)) : Bargain_isDenied C (ad 15 (60 * s + b)) = some (if mI R 105 (60 * s + b) = 0 then 0 else 1, C) ∧ 0 ≤ mI R 105 (60 * s + b) := by
  have sh := ((h.shn.1 s hs).2.2.2.2.2.2.2.2.2 b hb).2
  obtain ⟨d1, d2, d3, -⟩ := h.den s b hs hb
  unfold Bargain_isDenied
  rw [kO_t sh, ck_t]
  rcases d1 with d1 | d1 <;> rcases d2 with d2 | d2 <;> rw [d1, d2] at d3 <;> rw [d1, d2, d3] <;> exact ⟨rfl, by decide⟩
theorem sim_bargain (h : Rel k ad C R) (hk : k < 512) (a b c : Int32) : Sim k (Hall_bargain C 8 a b c) (Mod_bargain R 39 a b c) := by
  unfold Hall_bargain Mod_bargain
  have hN := n24 h
  have hs := h.isc.sessions
  have s1 : ∀ r : Int32, Sim k (some (r, C)) (some (r, R)) := fun r => ⟨_, _, _, ad, rfl, rfl, h.up hk⟩
  simp only [h.o8, h.o39, ck_t, nn_s, ev_isN h, bd_s]
  by_cases h0 : a < 0
  · rw [if_neg (show ¬ (0 ≤ a ∧ a < mI R 39 70) by grind), if_pos rfl, if_pos h0]
    exact s1 _
  · by_cases h1 : mI R 39 70 ≤ a
    · rw [if_neg (show ¬ (0 ≤ a ∧ a < mI R 39 70) by grind), if_pos rfl, if_neg h0, if_pos h1]
      exact s1 _
    · have a0 : 0 ≤ a := by grind
      have hi : ix a < ix (mI R 39 70) := ix_mo a0 (by grind)
      have sh := h.shn.1 (ix a) hi
      have a24 : ix a < 24 := by omega
      have hb60 := n60 h a24
      rw [if_pos (show 0 ≤ a ∧ a < mI R 39 70 by grind), if_neg (by decide), if_neg h0, if_neg h1]
      simp only [h.o8, ck_t, h.sc.r8_12, nn_s, kA_t h.sc.k37 a0 a24, sh.1, kO_t sh.2.1, ev_hasB h hi, bd_s, h.sr.r39_79, kA_t h.sr.k88 a0 a24]
      by_cases h2 : b < 0
      · rw [if_neg (show ¬ (0 ≤ b ∧ b < mI R 88 (ix a)) by grind), if_pos rfl, if_pos h2]
        exact s1 _
      · by_cases h3 : b < mI R 88 (ix a)
        · have b0 : 0 ≤ b := by grind
          have hb := ix_mo b0 h3
          have sb := sh.2.2.2.2.2.2.2.2.2 (ix b) hb
          have bb := h.ise.1 (ix a) a24
          obtain ⟨e1, e2⟩ := ix_m60 a b a0 (by grind) b0 (by grind)
          have e3 : ix (60 * a + b) < 1440 := by rw [e1]; omega
          obtain ⟨d1, d2⟩ := ev_isD h hi hb
          have hst := h.ise.2.2.2.2.2.2.1 (60 * ix a + ix b) (by omega)
          rw [if_pos (show 0 ≤ b ∧ b < mI R 88 (ix a) from ⟨b0, h3⟩), if_neg (by decide), if_neg h2, if_pos h3]
          simp only [h.o8, ck_t, nn_s, sh.2.2.2.2.1, kA_t sh.2.2.2.2.2.2.2.1 b0 (show ix b < 60 by omega), sb.1, kO_t sb.2, h.lb0 hi hb, h.lb1 hi hb, h.lb2 hi hb, h.lb3 hi hb, h.lb4 hi hb, h.lb12 hi hb, h.lb13 hi hb, d1, bd_s, h.sr.r39_89, h.sr.r39_90, h.sr.r39_91, h.sr.r39_92, h.sr.r39_93, h.sr.r39_94, h.sr.r39_95, h.sr.r39_96, kA_t h.sr.k98 e2 e3, kA_t h.sr.k99 e2 e3, kA_t h.sr.k100 e2 e3, kA_t h.sr.k101 e2 e3, kA_t h.sr.k102 e2 e3, kA_t h.sr.k103 e2 e3, kA_t h.sr.k104 e2 e3, kA_t h.sr.k105 e2 e3, e1]
          iterate 6 refine Sim.ite (fun _ => s1 _) (fun _ => ?_)
          refine Sim.ite (fun _ => ?_) (fun _ => ?_)
          · by_cases c6 : mI R 103 (60 * ix a + ix b) ≤ 0
            · rw [if_pos c6, hst.2.2 (by grind)]
              exact s1 _
            · rw [if_neg c6]
              exact s1 _
          · refine Sim.ite (fun _ => ?_) (fun _ => s1 _)
            by_cases c7 : mI R 105 (60 * ix a + ix b) = 0
            · rw [if_pos c7, if_pos rfl, if_pos (by grind)]
              exact s1 _
            · rw [if_neg c7, if_neg (by decide), if_neg (by grind)]
              exact s1 _
        · rw [if_neg (show ¬ (0 ≤ b ∧ b < mI R 88 (ix a)) by grind), if_pos rfl, if_neg h2, if_neg h3]
          exact s1 _
end Q2
