/-! a session ends: both sides -/
section ZG
variable {k : Nat} {ad : Nat → Nat → Nat} {C R D M : Mm}
/-- the same but for ints of sessions -/
def A9 (C D : Mm) : Prop := mR D = mR C ∧ mK D = mK C ∧ (∀ a, (mK C a).1 ≠ 9 → mI D a = mI C a)
theorem clk9 (sc : SC M) (a b : Int32) : Law_lookAtClock M 19 a b = some ((), clk M a b) := by
  unfold Law_lookAtClock
  simp only [kO_t sc.k19, ck_t, sc.r19_2, mR_sI, nn_s, kA_sI, kA_t (i := 0) sc.k29 (by decide) (by decide), kA_t (i := 1) sc.k29 (by decide) (by decide), kA_t (i := 2) sc.k29 (by decide) (by decide)]
  rfl
theorem mkt9 (sc : SC M) (a b c d : Int32) : Law_lookAtMarket M 19 a b c d = some ((), mkt M a b c d) := by
  unfold Law_lookAtMarket
  simp only [kO_t sc.k19, ck_t, sc.r19_2, mR_sI, nn_s, kA_sI, kA_t (i := 3) sc.k29 (by decide) (by decide), kA_t (i := 4) sc.k29 (by decide) (by decide), kA_t (i := 5) sc.k29 (by decide) (by decide), kA_t (i := 6) sc.k29 (by decide) (by decide)]
  rfl
theorem lcl9 (sc : SC M) (hc : 0 ≤ mI R 39 71 ∧ mI R 39 71 ≤ 24) (e2 : mI M 30 2 = mI R 39 71) (e31 : ∀ j, mI M 31 j = mI R 91 j) : House_latestClose M 30 = some (lcl R, M) := by
  unfold House_latestClose lcl
  simp only [kO_t sc.k30, ck_t, e2, sc.r30_0, nn_s, e31]
  by_cases h1 : mI R 39 71 = 0
  · rw [if_pos h1, if_pos (by grind)]
  · have h2 : 0 ≤ mI R 39 71 - 1 := by grind
    rw [if_neg h1, if_neg (by grind), kA_t sc.k31 h2 (ix_b 24 h2 (show mI R 39 71 - 1 < 24 by grind) (by decide) (by decide)), ck_t]
theorem A9.sc (a : A9 C D) (h : SC C) : SC D := h.sm a.2.1 a.1
theorem lp_look9 (h : Rel k ad C R) (a : A9 C D) : ∀ (d n j : Nat), j + d = ix (mI R 39 22) → d < n → Hall_lookAround_L6 n 8 (smI (mI R 54) j) (smI (outR R) j) (Int32.ofNat j) D = some ((), fct D R) := by
  have h4 := sto4 h
  have hst := h.isc.stores
  have sc := a.sc h.sc
  have e8 : mI D 8 = mI C 8 := a.2.2 8 (by rw [h.sc.k8]; decide)
  have e30 : mI D 30 = mI C 30 := a.2.2 30 (by rw [h.sc.k30]; decide)
  have e31 : mI D 31 = mI C 31 := a.2.2 31 (by rw [h.sc.k31]; decide)
  have i4 : mI D 8 4 = mI R 39 22 := by rw [e8]; exact h.l8_4
  have i16 : mI D 8 16 = mI R 39 0 := by rw [e8]; exact h.l8_16
  have i17 : mI D 8 17 = mI R 39 1 := by rw [e8]; exact h.l8_17
  intro d
  induction d with
  | zero =>
    intro n j hj hn
    obtain ⟨n, rfl⟩ : ∃ x, n = x + 1 := ⟨n - 1, by omega⟩
    have e : mI R 39 22 ≤ Int32.ofNat j := by grind [ix_t, of_t]
    have scl : SC (clk D (mI R 39 0) (mI R 39 1)) := sc
    have l2 : mI (clk D (mI R 39 0) (mI R 39 1)) 30 2 = mI R 39 71 := by
      have : mI (clk D (mI R 39 0) (mI R 39 1)) 30 2 = mI D 30 2 := rfl
      rw [this, e30]; exact h.l30_2
    have l31 : ∀ j, mI (clk D (mI R 39 0) (mI R 39 1)) 31 j = mI R 91 j := fun j => by
      have : mI (clk D (mI R 39 0) (mI R 39 1)) 31 j = mI D 31 j := rfl
      rw [this, e31]; exact h.la31 j
    have lc := lcl9 scl h.isc.closes l2 l31
    show Hall_lookAround_B6 _ _ _ _ _ _ = _
    unfold Hall_lookAround_B6
    simp only [kO_t sc.k8, kO_t sc.k19, ck_t, i4, if_pos e, sc.r8_9, nn_s, i16, i17, clk9 sc, bd_s, kO_t scl.k8, kO_t scl.k30, kO_t scl.k19, scl.r8_9, scl.r8_10, lc, l2, mkt9 scl]
    rw [show j = ix (mI R 39 22) by omega]
    rfl
  | succ d ih =>
    intro n j hj hn
    obtain ⟨n, rfl⟩ : ∃ x, n = x + 1 := ⟨n - 1, by omega⟩
    have e : ¬ mI R 39 22 ≤ Int32.ofNat j := by grind [ix_t, of_t]
    have e0 : (0 : Int32) ≤ Int32.ofNat j := of_nn j (by omega)
    have e1 : ix (Int32.ofNat j) = j := ix_of j (by omega)
    have lt : j < ix (mI R 39 22) := by omega
    have sh := h.shs j lt
    have rj : mR D 17 j = some (ad 4 j) := by rw [a.1]; exact sh.1
    have kj : mK D (ad 4 j) = (10, 14) := by rw [a.2.1]; exact sh.2.1
    have ej : mI D (ad 4 j) = mI C (ad 4 j) := a.2.2 _ (by rw [sh.2.1]; decide)
    have i8 : mI D (ad 4 j) 8 = mI R 54 j := by rw [ej]; exact h.ls8 lt
    have ou : Store_out D (ad 4 j) = some (outR R j, D) := by
      unfold Store_out
      rw [kO_t kj, ck_t, ej, out_eq h lt]
    show Hall_lookAround_B6 _ _ _ _ _ _ = _
    unfold Hall_lookAround_B6
    simp only [kO_t sc.k8, ck_t, i4, if_neg e, sc.r8_3, nn_s, kA_t sc.k17 e0 (show ix (Int32.ofNat j) < 4 by omega), e1, rj, kO_t kj, i8, ou, bd_s, of_s1 j (by omega)]
    exact ih n (j + 1) (by omega) (by omega)
theorem ask9 (h : Rel k ad C R) (a : A9 C D) (w : Int32) (h0 : 0 ≤ w) (h1 : w ≤ 10) : ∃ r, Hall_askLaw D 8 w = some (r, fct D R) ∧ (0 ≤ r ∧ r ≤ 99999 ∧ (w = 3 ∨ w = 4 ∨ w = 8 → 1 ≤ r)) ∧ ∀ R1, ExR R R1 → ∃ R2, ExR R R2 ∧ Mod_asked R1 39 w = some (r, R2) := by
  have h2 := h.tmp (ex_fct C R) ExR.rf
  obtain ⟨r, r1, r2, r3⟩ := ask_law h2 (fok_fct C R) w h0 h1
  have sc : SC (fct D R) := a.sc h.sc
  have sd := a.sc h.sc
  have ag : AG (fct C R) (fct D R) := by
    refine ⟨a.1, a.2.1, fun b hb => ?_⟩
    have hb : (mK C b).1 = 2 ∨ (mK C b).1 = 5 ∨ (mK C b).1 = 20 := hb
    have e := a.2.2 b (by omega)
    funext j
    unfold fct mkt clk
    simp only [mI_sI, e]
  have r4 := ask_again ag r1
  have lk : Hall_lookAround D 8 = some ((), fct D R) := lp_look9 h a (ix (mI R 39 22)) fu 0 (by omega) (fu_g (by have := sto4 h; omega))
  have i16 : mI (fct D R) 8 16 = mI R 39 0 := by
    have : mI (fct D R) 8 16 = mI D 8 16 := rfl
    rw [this, a.2.2 8 (by rw [h.sc.k8]; decide)]; exact h.l8_16
  refine ⟨r, ?_, r2, r3⟩
  unfold Hall_askLaw
  simp only [kO_t sd.k8, ck_t, lk, bd_s, kO_t sc.k8, kO_t sc.k19, sc.r8_9, nn_s, i16, r4]
theorem ask_hall2 (h : Rel k ad C R) (w : Int32) (h0 : 0 ≤ w) (h1 : w ≤ 10) : ∃ r, Law_ask (fct C R) 19 w (mI R 39 0) = some (r, fct C R) ∧ Hall_askLaw C 8 w = some (r, fct C R) ∧ (0 ≤ r ∧ r ≤ 99999 ∧ (w = 3 ∨ w = 4 ∨ w = 8 → 1 ≤ r)) ∧ ∀ R1, ExR R R1 → ∃ R2, ExR R R2 ∧ Mod_asked R1 39 w = some (r, R2) := by
  have h2 := h.tmp (ex_fct C R) ExR.rf
  obtain ⟨r, r1, r2, r3⟩ := ask_law h2 (fok_fct C R) w h0 h1
  refine ⟨r, r1, ?_, r2, r3⟩
  unfold Hall_askLaw
  simp only [h.o8, ck_t, ev_look h, bd_s, h2.o8, h2.o19, h2.sc.r8_9, nn_s, h2.l8_16, r1]
theorem fct_id (C R : Mm) : fct (fct C R) R = fct C R := by
  have f := fok_fct C R
  have e0 : mI (fct C R) 29 0 = mI R 39 0 / 1440 := f 0 (by decide)
  have e1 : mI (fct C R) 29 1 = rm (mI R 39 0) 1440 := f 1 (by decide)
  have e2 : mI (fct C R) 29 2 = mI R 39 1 := f 2 (by decide)
  have e3 : mI (fct C R) 29 3 = lcl R := f 3 (by decide)
  have e4 : mI (fct C R) 29 4 = mI R 39 71 := f 4 (by decide)
  have e5 : mI (fct C R) 29 5 = smI (mI R 54) (ix (mI R 39 22)) := f 5 (by decide)
  have e6 : mI (fct C R) 29 6 = smI (outR R) (ix (mI R 39 22)) := f 6 (by decide)
  generalize fct C R = F at *
  unfold fct mkt clk
  rw [sI_sm e0, sI_sm e1, sI_sm e2, sI_sm e3, sI_sm e4, sI_sm e5, sI_sm e6]
theorem Rel.w109 (h : Rel k ad C R) (off : mI R 39 73 = 0) {c : Nat} {v : Int32} : Rel k ad C (sI R 109 c v) :=
  Rel.mk h.sc h.sr h.hA h.lv (h.dt.str 109 c rfl) h.dl h.isc h.ila h.ipe h.shp h.shs h.ist h.qs h.she h.ied h.eds h.shn h.ise (fun q => absurd (off.symm.trans q) (by decide)) ⟨h.son.1, fun q => absurd (off.symm.trans q) (by decide)⟩ h.den (fun s hs => ⟨(h.evs s hs).1, (h.evs s hs).2.1, (h.evs s hs).2.2.1, (h.evs s hs).2.2.2.1, fun q => absurd (off.symm.trans q) (by decide)⟩)
theorem lp_clos {s : Int32} : ∀ (d n j : Nat) (R : Mm), j + d = 60 → d < n → Rel k ad C R → mI R 39 73 = 0 → ∃ R', Mod_closesSession_L34 n 39 s (Int32.ofNat j) R = Mod_closesSession_B34 (fun _ _ _ _ => none) 39 s 60 R' ∧ Rel k ad C R' ∧ (∀ a, a ≠ 109 → mI R' a = mI R a) ∧ mL R' = mL R := by
  intro d
  induction d with
  | zero =>
    intro n j R hj hn h off
    obtain ⟨n, rfl⟩ : ∃ x, n = x + 1 := ⟨n - 1, by omega⟩
    refine ⟨R, ?_, h, fun _ _ => rfl, rfl⟩
    have e : j = 60 := by omega
    subst e
    show Mod_closesSession_B34 _ _ _ _ _ = _
    unfold Mod_closesSession_B34
    rw [if_pos (by decide), if_pos (by decide)]
  | succ d ih =>
    intro n j R hj hn h off
    obtain ⟨n, rfl⟩ : ∃ x, n = x + 1 := ⟨n - 1, by omega⟩
    have J0 : (0 : Int32) ≤ Int32.ofNat j := of_nn _ (by omega)
    have J1 : ix (Int32.ofNat j) = j := ix_of _ (by omega)
    obtain ⟨R', z1, z2, z3, z4⟩ := ih n (j + 1) (sI R 109 j 0) (by omega) (by omega) (h.w109 off) off
    refine ⟨R', ?_, z2, fun a q => (z3 a q).trans (row_n q), z4⟩
    rw [← z1]
    have : ¬ (60 : Int32) ≤ Int32.ofNat j := by
      intro w
      have := (of_le 60 j (by omega) (by omega)).mp w
      omega
    show Mod_closesSession_B34 _ _ _ _ _ = _
    unfold Mod_closesSession_B34
    simp only [if_neg this, h.o39, ck_t, h.sr.r39_100, nn_s, kA_t h.sr.k109 J0 (show ix (Int32.ofNat j) < 60 by omega), J1, of_s1 j (by omega)]
theorem lack_both (h : Rel k ad C R) : ∃ C' R', House_partTheLack C 30 16 (mI R 39 9) = some ((), C') ∧ (if 0 ≤ mL R 39 18 then Mod_clears_J235 39 R else bd (Mod_bears R 39) (fun _ M23 => Mod_clears_J235 39 M23)) = Mod_clears_J235 39 R' ∧ Rel k ad C' R' ∧ mI R' = mI R := by
  by_cases c : 0 ≤ mL R 39 18
  · refine ⟨C, R, ?_, by rw [if_pos c], h, rfl⟩
    have n16 := p16 h
    have a1 := (lp_all h (ix (mI R 39 9)) fu fu 0 (by omega) (fu_g (by omega)) (fu_g (by omega))).1
    rw [if_pos c] at a1
    exact a1
  · obtain ⟨C', R', z1, z2, z3, z4, z5, z6, z7⟩ := lack_sim h c
    exact ⟨C', R', z1, by rw [if_neg c, z2, bd_s], z3, z7⟩
theorem settle_sim (h : Rel k ad C R) (hx : True) {st : Int32} {R1 : Mm} (s1 : 1 ≤ st) (x1 : ExR R R1) (ma : Mod_asked R 39 8 = some (st, R1)) : ∃ C' R', House_settleAt C 30 16 (mI R 39 9) st = some ((), C') ∧ Mod_clears_J235 39 R = some ((), R') ∧ Rel k ad C' R' ∧ (∀ j, j ≠ 21 → mI R' 39 j = mI R 39 j) := by
  have h1 := h.tmp ExC.rf x1
  have f39 : mI R1 39 = mI R 39 := x1.1 39 (by unfold tR; omega)
  have n16 := p16 h
  have nl : ¬ st < 1 := by clear h h1; grind
  have n0 : (!decide (st = 0)) = true := by
    have : ¬ st = 0 := fun q => by rw [q] at s1; exact absurd s1 (by decide)
    rw [decide_eq_false this]; rfl
  have cl := h.isc.closes
  rw [I_le, I_le, i0T, show (24 : Int32).toInt = 24 from rfl] at cl
  have e1 : House_settleAt C 30 16 (mI R 39 9) st = (if rm (mI R 39 71) st = 0 then House_settleAt_L23 fu 16 (mI R 39 9) 0 (sI C 30 3 0) else some ((), C)) := by
    unfold House_settleAt
    simp only [if_neg nl, h.o30, ck_t, n0, h.l30_2]
  have e2 : Mod_clears_J235 39 R = (if rm (mI R 39 71) st = 0 then Mod_clears_L253 fu 39 0 R1 else some ((), R1)) := by
    unfold Mod_clears_J235
    simp only [h.o39, ck_t, ma, bd_s, n0]
  by_cases c : rm (mI R 39 71) st = 0
  · rw [if_pos c] at e1 e2
    have w := h1.wHp (v := 0) (by rw [f39, i0T]; omega)
    obtain ⟨C', R', z1, z2, z3, z4⟩ := lp_settle (cnt := mI R 39 9) (ix (mI R1 39 9)) fu fu 0 (sI C 30 3 0) R1 (by omega) (fu_g (by rw [f39]; omega)) (fu_g (by rw [f39]; omega)) h1.sr w (by rw [f39])
    exact ⟨C', R', e1.trans z1, e2.trans z2, z3, fun j hj => by rw [z4 j hj, f39]⟩
  · rw [if_neg c] at e1 e2
    exact ⟨C, R1, e1, e2, h1, fun j _ => by rw [f39]⟩
end ZG
