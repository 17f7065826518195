section X12
variable {k : Nat} {ad : Nat → Nat → Nat} {C R R' : Mm}
theorem ml_step {M A : Mm} {n r t : Int32} (sM : SR M) (o0 : mI M 39 73 = 0) (n0 : mI M 39 70 ≠ 24) (ea : Mod_asked (sI M 39 73 1) 39 3 = some (r, A)) (sA : SR A) (an : mI A 39 70 = n) (at0 : mI A 39 0 = t) (p0 : 0 ≤ n) (p1 : ix n < 24) : ∃ R', Mod_light M 39 = some (n, R') ∧ (∀ j, mI R' 39 j = if j = 70 then n + 1 else if j = 72 then r else mI A 39 j) ∧ (∀ j, mI R' 83 j = if j = ix n then t else mI A 83 j) ∧ (∀ j, mI R' 84 j = if j = ix n then -1 else mI A 84 j) ∧ (∀ j, mI R' 85 j = if j = ix n then -1 else mI A 85 j) ∧ (∀ j, j < 60 → mI R' 109 j = 0) ∧ (∀ a, a ≠ 39 → a ≠ 83 → a ≠ 84 → a ≠ 85 → a ≠ 109 → mI R' a = mI A a) ∧ mL R' = mL A ∧ mR R' = mR A ∧ mK R' = mK A := by
  have sub1 : n + 1 - 1 = n := by grind
  have q0 : kO (sI A 39 72 r) 39 12 107 = true := kO_t sA.k39
  have q1 : mI (sI A 39 72 r) 39 70 = n := by rw [mI_sI, if_neg (by decide)]; exact an
  have q2 : mI (sI A 39 72 r) 39 0 = t := by rw [mI_sI, if_neg (by decide)]; exact at0
  have s6 : SR (sI A 39 72 r) := sA
  have s9 : SR (sI (sI A 39 72 r) 83 (ix n) t) := sA
  have s12 : SR (sI (sI (sI A 39 72 r) 83 (ix n) t) 84 (ix n) (-1)) := sA
  have q3 : mI (sI (sI A 39 72 r) 83 (ix n) t) 39 70 = n := by rw [mI_sI, if_neg (by omega)]; exact q1
  have q4 : mI (sI (sI (sI A 39 72 r) 83 (ix n) t) 84 (ix n) (-1)) 39 70 = n := by rw [mI_sI, if_neg (by omega)]; exact q3
  have q5 : mI (sI (sI (sI (sI A 39 72 r) 83 (ix n) t) 84 (ix n) (-1)) 85 (ix n) (-1)) 39 70 = n := by rw [mI_sI, if_neg (by omega)]; exact q4
  have s15 : SR (sI (sI (sI (sI (sI A 39 72 r) 83 (ix n) t) 84 (ix n) (-1)) 85 (ix n) (-1)) 39 70 (n + 1)) := sA
  obtain ⟨R', y1, y2, y3, y4, y5⟩ := lp_clear 60 fu 0 _ s15 rfl (fu_g (by decide))
  have e70 : mI (sI (sI (sI (sI (sI A 39 72 r) 83 (ix n) t) 84 (ix n) (-1)) 85 (ix n) (-1)) 39 70 (n + 1)) 39 70 = n + 1 := by rw [mI_sI, if_pos ⟨rfl, rfl⟩]
  rw [e70, sub1] at y1
  have c2 : ∀ a j, mI R' a j = if a = 109 ∧ 0 ≤ j ∧ j < 60 then 0 else if a = 39 ∧ j = 70 then n + 1 else if a = 85 ∧ j = ix n then -1 else if a = 84 ∧ j = ix n then -1 else if a = 83 ∧ j = ix n then t else if a = 39 ∧ j = 72 then r else mI A a j := fun a j => by
    rw [y2 a j, mI_sI, mI_sI, mI_sI, mI_sI, mI_sI]
  refine ⟨R', ?_, fun j => ?_, fun j => ?_, fun j => ?_, fun j => ?_, fun j hj => ?_, fun a a1 a2 a3 a4 a5 => ?_, y3, y4, y5⟩
  · unfold Mod_light
    simp only [kO_t sM.k39, ck_t, o0, if_true, if_neg n0, ea, bd_s, kO_t sA.k39, s6.r39_74, nn_s, q1, q2, kA_t s6.k83 p0 p1, s9.r39_75, q3, kA_t s9.k84 p0 p1, s12.r39_76, q4, kA_t s12.k85 p0 p1, q5]
    exact y1
  · rw [c2, if_neg (by omega)]
    by_cases c : j = 70
    · rw [if_pos ⟨rfl, c⟩, if_pos c]
    · rw [if_neg (fun w => c w.2), if_neg (by omega), if_neg (by omega), if_neg (by omega), if_neg c]
      by_cases c3 : j = 72
      · rw [if_pos ⟨rfl, c3⟩, if_pos c3]
      · rw [if_neg (fun w => c3 w.2), if_neg c3]
  · rw [c2, if_neg (by omega), if_neg (by omega), if_neg (by omega), if_neg (by omega)]
    by_cases c : j = ix n
    · rw [if_pos ⟨rfl, c⟩, if_pos c]
    · rw [if_neg (fun w => c w.2), if_neg (by omega), if_neg c]
  · rw [c2, if_neg (by omega), if_neg (by omega), if_neg (by omega)]
    by_cases c : j = ix n
    · rw [if_pos ⟨rfl, c⟩, if_pos c]
    · rw [if_neg (fun w => c w.2), if_neg (by omega), if_neg (by omega), if_neg c]
  · rw [c2, if_neg (by omega), if_neg (by omega)]
    by_cases c : j = ix n
    · rw [if_pos ⟨rfl, c⟩, if_pos c]
    · rw [if_neg (fun w => c w.2), if_neg (by omega), if_neg (by omega), if_neg (by omega), if_neg c]
  · rw [c2, if_pos ⟨rfl, by omega, hj⟩]
  · funext j
    rw [c2, if_neg (fun w => a5 w.1), if_neg (fun w => a1 w.1), if_neg (fun w => a4 w.1), if_neg (fun w => a3 w.1), if_neg (fun w => a2 w.1), if_neg (fun w => a1 w.1)]
theorem sim_light (h : Rel k ad C R) (hk : k < 512) : Sim k (Hall_light C 8) (Mod_light R 39) := by
  have hS := h.isc.sessions
  by_cases off : mI R 39 73 = 0
  · by_cases n0 : mI R 39 70 = 24
    · have e1 : Hall_light C 8 = some (-1, C) := by
        unfold Hall_light
        simp only [h.o8, ck_t, h.shn.2.1, if_pos off, nl_n, h.l8_13]
        rw [if_neg (show ¬ mI R 39 70 < 24 by rw [n0]; decide)]
      have e2 : Mod_light R 39 = some (-1, R) := by
        unfold Mod_light
        simp only [h.o39, ck_t, if_pos off, if_pos n0]
      exact Sim.same h hk e1 e2
    · have lt : mI R 39 70 < 24 := by grind
      have p1 : ix (mI R 39 70) < 24 := ix_b 24 hS.1 lt (by decide) (by decide)
      have exf := ex_fct C R
      have hf := h.tmp exf ExR.rf
      have hF : mZ (fct C R) = mZ C := exf.2.2.2.2.1
      obtain ⟨r, a1, a2, R2, x1, x2⟩ := light_ask h hk
      have b1 := ev_hlight0 h hf hF off lt a1
      have h2 := h.tmp exf x1
      generalize fct C R = F at *
      have e39 : mI R2 39 = mI R 39 := x1.1 39 (by unfold tR; omega)
      have sA : SR (w3 R2) := h2.sr
      obtain ⟨R', y1, y2, y3, y4, y5, y6, y7, y8, y9, y10⟩ := ml_step (M := R) (A := w3 R2) (n := mI R 39 70) (t := mI R 39 0) h.sr off n0 x2 sA (by rw [w3_39 (by decide), e39]) (by rw [w3_39 (by decide), e39]) hS.1 p1
      have nz : ∀ c i, (if i = ix (mI R 39 70) ∧ 10 ≤ c ∧ c ≤ 13 then mZ F + (c - 10) else 0) ≠ 0 → i = ix (mI R 39 70) ∧ 10 ≤ c ∧ c ≤ 13 := fun c i q => by
        apply Classical.byContradiction
        intro w
        rw [if_neg w] at q
        exact q rfl
      have hz := h2.lv.1
      obtain ⟨ad', u1, u2, u3, u4⟩ := h2.re (fun c i => if i = ix (mI R 39 70) ∧ 10 ≤ c ∧ c ≤ 13 then mZ F + (c - 10) else 0) (fun c i q => by
        have w := nz c i q
        show mZ F ≤ (if i = ix (mI R 39 70) ∧ 10 ≤ c ∧ c ≤ 13 then mZ F + (c - 10) else 0) ∧ (if i = ix (mI R 39 70) ∧ 10 ≤ c ∧ c ≤ 13 then mZ F + (c - 10) else 0) < mZ F + 200 ∧ ¬ Al R2 c i
        rw [if_pos w]
        refine ⟨by omega, by omega, ?_⟩
        unfold Al
        rw [e39]
        omega) (fun c i c' i' q e => by
        have w := nz c i q
        have e : (if i = ix (mI R 39 70) ∧ 10 ≤ c ∧ c ≤ 13 then mZ F + (c - 10) else 0) = (if i' = ix (mI R 39 70) ∧ 10 ≤ c' ∧ c' ≤ 13 then mZ F + (c' - 10) else 0) := e
        rw [if_pos w] at e
        by_cases w' : i' = ix (mI R 39 70) ∧ 10 ≤ c' ∧ c' ≤ 13
        · rw [if_pos w'] at e; omega
        · rw [if_neg w'] at e; omega)
      refine ⟨_, _, R', ad', b1, y1, ?_⟩
      have g : ∀ a, a ≠ 39 → mI (w3 R2) a = mI R2 a := fun a p => by funext j; exact w3_ne p
      have fin := light_R (R' := R') (N := ix (mI R 39 70)) (n := mI R 39 70) (r := r) u1 hk (by rw [e39]) rfl (by rw [e39]; exact off) lt a2 (fun c p q => ?_) (fun c i q => ?_) ⟨fun j => ?_, fun j => ?_, fun j => ?_, fun j => ?_, y6, fun a p1 p2 p3 p4 p5 => ?_, ?_, ?_, ?_⟩
      · rw [e39] at fin
        exact fin
      · have e : (if ix (mI R 39 70) = ix (mI R 39 70) ∧ 10 ≤ c ∧ c ≤ 13 then mZ F + (c - 10) else 0) = mZ F + (c - 10) := if_pos ⟨rfl, p, q⟩
        have := u2 c (ix (mI R 39 70)) (by show (if ix (mI R 39 70) = ix (mI R 39 70) ∧ 10 ≤ c ∧ c ≤ 13 then mZ F + (c - 10) else 0) ≠ 0; rw [e]; omega)
        exact this.trans e
      · by_cases a : Al R2 c i
        · left; exact al_lt u1 a
        · right
          refine u4 c i a ?_
          show (if i = ix (mI R 39 70) ∧ 10 ≤ c ∧ c ≤ 13 then mZ F + (c - 10) else 0) = 0
          rw [if_neg (fun w => q ⟨w.2.1, w.2.2, w.1⟩)]
      · rw [y2]
        by_cases c : j = 73
        · subst c
          rfl
        · rw [w3_39 c, if_neg c]
      · rw [y3, g 83 (by decide), e39]
      · rw [y4, g 84 (by decide)]
      · rw [y5, g 85 (by decide)]
      · rw [y7 a p1 p2 p3 p4 p5, g a p1]
      · rw [y8]; rfl
      · rw [y9]; rfl
      · rw [y10]; rfl
  · have e1 : Hall_light C 8 = some (-1, C) := by
      unfold Hall_light
      simp only [h.o8, ck_t, h.shn.2.1, if_neg off, nl_s]
    have e2 : Mod_light R 39 = some (-1, R) := by
      unfold Mod_light
      simp only [h.o39, ck_t, if_neg off]
    exact Sim.same h hk e1 e2
end X12
