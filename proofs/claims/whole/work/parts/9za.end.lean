/-! a session ends: both sides alike -/
section ZI
variable {k : Nat} {ad : Nat → Nat → Nat} {C R M : Mm}
theorem fct_sI {z j : Nat} {v : Int32} (n29 : z ≠ 29) : fct (sI M z j v) R = sI (fct M R) z j v := by
  unfold fct mkt clk
  rw [sI_cm n29, sI_cm n29, sI_cm n29, sI_cm n29, sI_cm n29, sI_cm n29, sI_cm n29]
theorem sI_end {z : Nat} {x t g : Int32} : sI (sI (sI (sI M z 7 x) z 8 t) z 10 g) z 7 0 = sI (sI (sI M z 8 t) z 7 0) z 10 g := by
  unfold sI
  congr 1
  funext c y
  show (if c = z ∧ y = 7 then (0 : Int32) else if c = z ∧ y = 10 then g else if c = z ∧ y = 8 then t else if c = z ∧ y = 7 then x else mI M c y) = (if c = z ∧ y = 10 then g else if c = z ∧ y = 7 then 0 else if c = z ∧ y = 8 then t else mI M c y)
  by_cases c7 : c = z ∧ y = 7
  · have n10 : ¬ (c = z ∧ y = 10) := by omega
    simp only [if_pos c7, if_neg n10]
  · simp only [if_neg c7]
theorem end_sim (h : Rel k ad C R) (on : mI R 39 73 = 1) {s : Nat} (hs : s + 1 = ix (mI R 39 70)) (x : Int32) : ∃ C' R', Hall_endSession (sI C (ad 10 s) 7 x) 8 = some ((), C') ∧ Mod_closesSession R 39 (mI R 39 70 - 1) = some ((), R') ∧ Rel k ad C' R' ∧ mI R' 39 0 = mI R 39 0 ∧ mI R' 39 73 = 0 := by
  have h24 := s24 h
  have hs1 : s < ix (mI R 39 70) := by omega
  have eS : mI R 39 70 - 1 = Int32.ofNat s := by
    have : mI R 39 70 = Int32.ofNat (s + 1) := by rw [hs]; exact (of_ix _ h.isc.sessions.1).symm
    rw [this, ← of_s1 s (by omega)]; clear h; grind
  have S0 : (0 : Int32) ≤ Int32.ofNat s := of_nn _ (by omega)
  have S1 : ix (Int32.ofNat s) = s := ix_of _ (by omega)
  have Slt : ix (Int32.ofNat s) < 24 := by omega
  have sn := h.shn.1 s hs1
  have zB := h.hA.1 10 s
  have h1 := h.endS on hs
  have a9 : A9 (sI (sI (sR C 8 14 none) (ad 10 s) 8 (mI R 39 0)) (ad 10 s) 7 0) (sR (sI C (ad 10 s) 7 x) 8 14 none) := by
    refine ⟨rfl, rfl, fun a ha => ?_⟩
    have ne : a ≠ ad 10 s := fun e => by
      rw [e] at ha
      have ha : (mK C (ad 10 s)).1 ≠ 9 := ha
      rw [sn.2.1] at ha
      exact ha rfl
    rw [mI_sR, row_n ne, row_n ne, row_n ne, mI_sR]
  obtain ⟨g, g1, g2, g3⟩ := ask9 h1 a9 6 (by decide) (by decide)
  obtain ⟨R2, x2, m2⟩ := g3 _ ExR.rf
  have h2 := h1.tmp (ex_fct (sI (sI (sR C 8 14 none) (ad 10 s) 8 (mI R 39 0)) (ad 10 s) 7 0) (sI (sI (sI R 39 73 0) 39 72 0) 84 s (mI R 39 0))) x2
  have r2 : ∀ a, ¬ tR a → mI R2 a = mI (sI (sI (sI R 39 73 0) 39 72 0) 84 s (mI R 39 0)) a := x2.1
  have f2 : ∀ j, j ≠ 72 → j ≠ 73 → mI R2 39 j = mI R 39 j := fun j q1 q2 => by
    rw [r2 39 (by unfold tR; omega), row_n (show 39 ≠ 84 by decide), mI_sI, if_neg (fun w => q1 w.2), mI_sI, if_neg (fun w => q2 w.2)]
  have o2 : mI R2 39 73 = 0 := by rw [r2 39 (by unfold tR; omega)]; rfl
  have h3 := h2.wGap (s := s) (v := g) (by rw [f2 70 (by decide) (by decide)]; exact hs1) ⟨g2.1, g2.2.1⟩
  obtain ⟨R3, c1, h4, c2, c3⟩ := lp_clos (s := Int32.ofNat s) 60 fu 0 (sI R2 86 s g) (by omega) (fu_g (by decide)) h3 o2
  have e3 : ∀ a, a ≠ 109 → a ≠ 86 → a ≠ 39 → a ≠ 84 → ¬ tR a → mI R3 a = mI R a := fun a q1 q2 q3 q4 q5 => by
    rw [c2 a q1, row_n q2, r2 a q5, row_n q4, row_n q3, row_n q3]
  have e39 : ∀ j, j ≠ 72 → j ≠ 73 → mI R3 39 j = mI R 39 j := fun j q1 q2 => by
    rw [c2 39 (by decide), row_n (show 39 ≠ 86 by decide)]; exact f2 j q1 q2
  have off : mI R3 39 73 = 0 := by
    rw [c2 39 (by decide), row_n (show 39 ≠ 86 by decide)]; exact o2
  have fin : sI (sI (sI (fct (sR (sI C (ad 10 s) 7 x) 8 14 none) (sI (sI (sI R 39 73 0) 39 72 0) 84 s (mI R 39 0))) (ad 10 s) 8 (mI R 39 0)) (ad 10 s) 10 g) (ad 10 s) 7 0 = sI (fct (sI (sI (sR C 8 14 none) (ad 10 s) 8 (mI R 39 0)) (ad 10 s) 7 0) (sI (sI (sI R 39 73 0) 39 72 0) 84 s (mI R 39 0))) (ad 10 s) 10 g := by
    have : sR (sI C (ad 10 s) 7 x) 8 14 none = sI (sR C 8 14 none) (ad 10 s) 7 x := rfl
    rw [this, fct_sI (by omega), fct_sI (by omega), fct_sI (by omega), sI_end]
  have i16 : mI (sR (sI C (ad 10 s) 7 x) 8 14 none) 8 16 = mI R 39 0 := by
    rw [mI_sR, row_n (by omega)]; exact h.l8_16
  have r14 : mR C 8 14 = some (ad 10 s) := by
    rw [h.shn.2.1, if_neg (by rw [on]; decide), show ix (mI R 39 70) - 1 = s by omega]
  have kM5 : kO (fct (sR (sI C (ad 10 s) 7 x) 8 14 none) (sI (sI (sI R 39 73 0) 39 72 0) 84 s (mI R 39 0))) (ad 10 s) 9 11 = true := kO_t sn.2.1
  generalize hF : fct (sR (sI C (ad 10 s) 7 x) 8 14 none) (sI (sI (sI R 39 73 0) 39 72 0) 84 s (mI R 39 0)) = F at *
  generalize hC2 : sI (fct (sI (sI (sR C 8 14 none) (ad 10 s) 8 (mI R 39 0)) (ad 10 s) 7 0) (sI (sI (sI R 39 73 0) 39 72 0) 84 s (mI R 39 0))) (ad 10 s) 10 g = C2 at *
  have E1 : Hall_endSession (sI C (ad 10 s) 7 x) 8 = bd (Session_end F (ad 10 s) (mI R 39 0) g) (fun _ M8 => eT (ad 10 s) M8) := by
    unfold Hall_endSession
    simp only [kO_sI, h.o8, ck_t, mR_sI, r14, nn_s, g1, bd_s, kM5, i16]
    rfl
  have E2 : Mod_closesSession R 39 (mI R 39 70 - 1) = Mod_closesSession_B34 (fun _ _ _ _ => none) 39 (Int32.ofNat s) 60 R3 := by
    rw [← c1, eS]
    have now1 : mI (sI (sI R 39 73 0) 39 72 0) 39 0 = mI R 39 0 := rfl
    have k86 : kA R2 86 20 (Int32.ofNat s) = true := kA_t h2.sr.k86 S0 Slt
    unfold Mod_closesSession
    simp only [h.o39, ck_t, mR_sI, h.sr.r39_75, nn_s, kA_sI, kA_t h.sr.k84 S0 Slt, S1, now1, h.sr.r39_77, m2, bd_s, k86]
    rfl
  have hs3 : s < ix (mI R3 39 70) := by rw [e39 70 (by decide) (by decide)]; exact hs1
  have sn4 := h4.shn.1 s hs3
  have kz : kO C2 (ad 10 s) 9 11 = true := kO_t sn4.2.1
  have i5 := h4.ln5 hs3
  have i9 := h4.ln9 hs3
  have i10 := h4.ln10 hs3
  have old := h.ise.2.2.1 on
  rw [show ix (mI R 39 70) - 1 = s by omega] at old
  have n85 : mI R3 85 s = -1 := by rw [e3 85 (by decide) (by decide) (by decide) (by decide) (by unfold tR; omega)]; exact old.2.2.1
  have eT0 : eT (ad 10 s) C2 = some ((), C2) := by
    unfold eT
    rw [kz, ck_t, i9, n85, if_pos rfl]
  have now3 : mI R3 39 0 = mI R 39 0 := e39 0 (by decide) (by decide)
  have j1 := h4.ise.1 s (by omega)
  have u88 : ix (mI R3 88 s) ≤ 60 := by have a := j1.1; have c := j1.2.1; clear h h1 h2 h3 h4; grind [ix_t]
  by_cases nb : mI R3 88 s = 0
  · refine ⟨C2, R3, ?_, ?_, h4, now3, off⟩
    · rw [E1]
      unfold Session_end
      simp only [kM5, ck_t, fin, i5, if_pos nb, bd_s]
      exact eT0
    · rw [E2]
      unfold Mod_closesSession_B34
      simp only [if_pos (show (60 : Int32) ≤ 60 by decide), h4.o39, ck_t, h4.sr.r39_79, nn_s, kA_t h4.sr.k88 S0 Slt, S1, if_pos nb]
  · have b0 : 0 < ix (mI R3 88 s) := by
      have a := j1.2.1.1
      apply Classical.byContradiction
      intro q
      exact nb (by rw [← of_ix _ a, show ix (mI R3 88 s) = 0 by omega]; rfl)
    obtain ⟨b, hb⟩ : ∃ b, b + 1 = ix (mI R3 88 s) := ⟨ix (mI R3 88 s) - 1, by omega⟩
    have e88 : mI R3 88 s = Int32.ofNat (b + 1) := by rw [hb]; exact (of_ix _ j1.2.1.1).symm
    have e88b : mI R3 88 s - 1 = Int32.ofNat b := by rw [e88, ← of_s1 b (by omega)]; clear h h1 h2 h3 h4; grind
    have hb1 : b < ix (mI R3 88 s) := by omega
    have bn := sn4.2.2.2.2.2.2.2.2.2 b hb1
    have B0 : (0 : Int32) ≤ Int32.ofNat b := of_nn _ (by omega)
    have B1 : ix (Int32.ofNat b) = b := ix_of _ (by omega)
    have ev : (60 : Int32) * Int32.ofNat s + mI R3 88 s - 1 = Int32.ofNat (60 * s + b) := by
      rw [e88, show (60 : Int32) = Int32.ofNat 60 from rfl, of_mul, of_add, show 60 * s + (b + 1) = 60 * s + b + 1 by omega, ← of_s1 (60 * s + b) (by omega)]
      clear h h1 h2 h3 h4; grind
    have X0 : (0 : Int32) ≤ Int32.ofNat (60 * s + b) := of_nn _ (by omega)
    have X1 : ix (Int32.ofNat (60 * s + b)) = 60 * s + b := ix_of _ (by omega)
    have Xlt : ix (Int32.ofNat (60 * s + b)) < 1440 := by omega
    have l4 := h4.lb4 hs3 hb1
    have l3 := h4.lb3 hs3 hb1
    have k13 : kA C2 (ad 13 s) 29 (Int32.ofNat b) = true := kA_t sn4.2.2.2.2.2.2.2.1 B0 (by omega)
    have kb : kO C2 (ad 15 (60 * s + b)) 0 14 = true := kO_t bn.2
    have SE : Session_end F (ad 10 s) (mI R 39 0) g = (if mI R 39 0 - mI R3 86 s ≤ mI R3 102 (60 * s + b) then Session_end_L66 fu (ad 10 s) 0 (sI C2 (ad 10 s) 9 (mI R3 101 (60 * s + b))) else some ((), C2)) := by
      unfold Session_end
      simp only [kM5, ck_t, fin, i5, if_neg nb, sn4.2.2.2.2.1, nn_s, e88b, k13, B1, bn.1, kb, i10, l4, l3]
    have MC : Mod_closesSession_B34 (fun _ _ _ _ => none) 39 (Int32.ofNat s) 60 R3 = (if mI R 39 0 - mI R3 86 s ≤ mI R3 102 (60 * s + b) then Mod_closesSession_J119 39 (Int32.ofNat s) (Int32.ofNat (60 * s + b)) (lcl R3) R3 else some ((), R3)) := by
      have hc := h4.isc.closes
      unfold Mod_closesSession_B34 lcl
      simp only [if_pos (show (60 : Int32) ≤ 60 by decide), h4.o39, ck_t, h4.sr.r39_79, nn_s, kA_t h4.sr.k88 S0 Slt, S1, if_neg nb, ev, h4.sr.r39_93, kA_t h4.sr.k102 X0 Xlt, X1, h4.sr.r39_77, kA_t h4.sr.k86 S0 Slt, now3, h4.sr.r39_82]
      by_cases d1 : mI R 39 0 - mI R3 86 s ≤ mI R3 102 (60 * s + b)
      · rw [if_pos d1, if_pos d1]
        by_cases d2 : mI R3 39 71 = 0
        · rw [if_pos d2, if_pos d2]
        · have d3 : 0 ≤ mI R3 39 71 - 1 := by clear h h1 h2 h3 h4; grind
          rw [if_neg d2, if_neg d2, kA_t h4.sr.k91 d3 (ix_b 24 d3 (show mI R3 39 71 - 1 < 24 by clear h h1 h2 h3 h4; grind) (by decide) (by decide)), ck_t]
      · rw [if_neg d1, if_neg d1]
    rw [E1, E2, SE, MC]
    by_cases d1 : mI R 39 0 - mI R3 86 s ≤ mI R3 102 (60 * s + b)
    · rw [if_pos d1, if_pos d1]
      have cv := (h4.ise.2.2.2.2.2.1 s b (by omega) hb1).2.2.2.1
      have cs := h.isc.cs
      have c71 : mI R3 39 71 = mI R 39 71 := e39 71 (by decide) (by decide)
      have c70 : mI R3 39 70 = mI R 39 70 := e39 70 (by decide) (by decide)
      rw [on] at cs
      have hc := h4.isc.closes
      have hss := h4.isc.sessions
      have lt24 : mI R3 39 71 < 24 := by rw [c71]; rw [c71] at hc; rw [c70] at hss; clear h h1 h2 h3 h4; grind
      have n24 : ix (mI R3 39 71) < 24 := ix_b 24 hc.1 lt24 (by decide) (by decide)
      obtain ⟨v, hv⟩ : ∃ v, mI R3 101 (60 * s + b) = v := ⟨_, rfl⟩
      rw [hv] at cv ⊢
      have h5 := h4.wScl off hs3 (v := v)
      have h6 := h5.wClose (n := ix (mI R3 39 71)) rfl (v := v) ⟨by clear h h1 h2 h3 h4 h5; grind, cv.2⟩ off (by show mI R3 39 71 + 1 ≤ mI R3 39 70; rw [c71, c70]; exact cs)
      have lclb : 0 ≤ lcl R3 ∧ lcl R3 ≤ 9999 := by
        unfold lcl
        split
        · exact ⟨by decide, by decide⟩
        · have d3 : 0 ≤ mI R3 39 71 - 1 := by clear h h1 h2 h3 h4 h5 h6; grind
          exact h4.ipe.2.2.2.2.1 _ (ix_b 24 d3 (show mI R3 39 71 - 1 < 24 by clear h h1 h2 h3 h4 h5 h6; grind) (by decide) (by decide))
      obtain ⟨C', R', z1, z2, z3, z4, z5⟩ := clear_sim (k := k) (ad := ad) (s := s) (z := ad 10 s) (n := ix (mI R3 39 71)) (v := v) (ah := lcl R3) (cl := mI R3 39 71) (M13 := sI C2 (ad 10 s) 9 v) rfl h6 hs3 off (fun c _ hc => by
          have := old.2.2.2 c hc
          show mI R3 103 (60 * s + c) = 0 ∧ mI R3 104 (60 * s + c) = 0
          rw [e3 103 (by decide) (by decide) (by decide) (by decide) (by unfold tR; omega), e3 104 (by decide) (by decide) (by decide) (by decide) (by unfold tR; omega)]
          exact this) (by rw [row_n (by omega)]; exact h4.l30_2) rfl hc.1 lt24 rfl (by show (if 85 = 85 ∧ s = s then v else mI R3 85 s) = v; rw [if_pos ⟨rfl, rfl⟩]) cv lclb (fun M' sc e30 e31 => lcl9 sc h4.isc.closes (by rw [e30, row_n (by omega)]; exact h4.l30_2) (fun j => by rw [e31, row_n (by omega)]; exact h4.la31 j)) (fun q hq => ⟨h4.okp hq, h4.okl hq⟩) h4.ipe.2.2.1 h4.ipe.2.2.2.1
      refine ⟨C', R', z1, ?_, z3, z4.trans now3, z5⟩
      rw [← z2]
      have f71 : mI (sI R3 85 s v) 39 71 = mI R3 39 71 := rfl
      have g71 : mI (sI (sI R3 85 s v) 91 (ix (mI R3 39 71)) v) 39 71 = mI R3 39 71 := rfl
      unfold Mod_closesSession_J119
      simp only [h4.o39, ck_t, h4.sr.r39_92, nn_s, kA_t h4.sr.k101 X0 Xlt, X1, hv, h4.sr.r39_76, kA_t h4.sr.k85 S0 Slt, S1, mR_sI, h4.sr.r39_82, kA_sI, f71, kA_t h4.sr.k91 hc.1 n24, g71]
    · rw [if_neg d1, if_neg d1]
      exact ⟨C2, R3, by rw [bd_s]; exact eT0, rfl, h4, now3, off⟩
end ZI
