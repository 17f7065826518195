/-! a session ends: the clearing, both sides -/
section ZH
variable {k : Nat} {ad : Nat → Nat → Nat}
/-- what the class does behind Session.end -/
def eT (z : Nat) (M8 : Mm) : Option (Unit × Mm) :=
  ck (kO M8 z 9 11) (
  if (mI M8 z 9) = (-1) then (
    some ((), M8))
  else (
    ck (kO M8 8 11 18) (
    nn (mR M8 8 10) (fun b11 =>
    nn (mR M8 8 1) (fun b12 =>
    ck (kO M8 b11 3 7) (
    bd (House_mark M8 b11 b12 (mI M8 8 2) (mI M8 z 9)) (fun _ M15 =>
    ck (kO M15 8 11 18) (
    nn (mR M15 8 10) (fun b17 =>
    nn (mR M15 8 1) (fun b18 =>
    ck (kO M15 b17 3 7) (
    bd (House_enter M15 b17 b18 z) (fun _ M21 =>
    ck (kO M21 8 11 18) (
    nn (mR M21 8 10) (fun b23 =>
    ck (kO M21 z 9 11) (
    ck (kO M21 b23 3 7) (
    bd (House_addClose M21 b23 (mI M21 z 9)) (fun _ M27 =>
    ck (kO M27 8 11 18) (
    nn (mR M27 8 10) (fun b29 =>
    nn (mR M27 8 1) (fun b30 =>
    bd (Hall_askLaw M27 8 2) (fun r31 M32 =>
    ck (kO M32 8 11 18) (
    bd (Hall_askLaw M32 8 7) (fun r34 M35 =>
    ck (kO M35 8 11 18) (
    ck (kO M35 b29 3 7) (
    bd (House_callMargins M35 b29 b30 (mI M27 8 2) r31 r34 (mI M35 8 16)) (fun _ M39 =>
    ck (kO M39 8 11 18) (
    nn (mR M39 8 10) (fun b41 =>
    nn (mR M39 8 1) (fun b42 =>
    ck (kO M39 b41 3 7) (
    bd (House_partTheLack M39 b41 b42 (mI M39 8 2)) (fun _ M45 =>
    ck (kO M45 8 11 18) (
    nn (mR M45 8 10) (fun b47 =>
    nn (mR M45 8 1) (fun b48 =>
    bd (Hall_askLaw M45 8 8) (fun r49 M50 =>
    ck (kO M50 b47 3 7) (
    bd (House_settleAt M50 b47 b48 (mI M45 8 2) r49) (fun _ M53 =>
    some ((), M53))))))))))))))))))))))))))))))))))))))
theorem clear_sim {s z n : Nat} {v ah cl : Int32} {M13 R34 : Mm} (hz : z = ad 10 s) (h : Rel k ad (ac M13 n v (cl + 1)) R34) (hs : s < ix (mI R34 39 70)) (off : mI R34 39 73 = 0) (h103 : ∀ c, 0 ≤ c → c < 60 → mI R34 103 (60 * s + c) = 0 ∧ mI R34 104 (60 * s + c) = 0) (e30 : mI M13 30 2 = cl) (hn : n = ix cl) (c0 : 0 ≤ cl) (c24 : cl < 24) (h71 : mI R34 39 71 = cl + 1) (h85 : mI R34 85 s = v) (hv : 1 ≤ v ∧ v ≤ 9999) (hah : 0 ≤ ah ∧ ah ≤ 9999) (hL : ∀ M', SC M' → mI M' 30 = mI M13 30 → mI M' 31 = mI M13 31 → House_latestClose M' 30 = some (ah, M')) (hb : ∀ q, q < 16 → (-(5940 * cl.toInt) ≤ (mI R34 47 q).toInt ∧ (mI R34 47 q).toInt ≤ 5940 * cl.toInt) ∧ (-(2000000000 * cl.toInt + 100000 * (k : Int)) ≤ (mL R34 52 q).toInt ∧ (mL R34 52 q).toInt ≤ 2000000000 * cl.toInt + 100000 * (k : Int))) (hH : -(2300000 * cl.toInt) ≤ (mI R34 39 21).toInt ∧ (mI R34 39 21).toInt ≤ 2300000 * cl.toInt) (hF : -(2000000000000 * cl.toInt) ≤ (mL R34 39 18).toInt ∧ (mL R34 39 18).toInt ≤ 2000000000000 * cl.toInt) : ∃ C' R', bd (Session_end_L66 fu z 0 M13) (fun _ M8 => eT z M8) = some ((), C') ∧ Mod_closesSession_L160 fu 39 (Int32.ofNat s) ah v 0 R34 = some ((), R') ∧ Rel k ad C' R' ∧ mI R' 39 0 = mI R34 39 0 ∧ mI R' 39 73 = 0 := by
  have h24 := s24 h
  have j1 := h.ise.1 s (by omega)
  have u88 : ix (mI R34 88 s) ≤ 60 := by have a := j1.1; have c := j1.2.1; clear h; grind [ix_t]
  have n16 := p16 h
  have cT : (cl + 1).toInt = cl.toInt + 1 := by
    have a := c0; have b := c24
    rw [I_le, i0T] at a
    rw [I_lt, show (24 : Int32).toInt = 24 from rfl] at b
    rw [I_add _ _ (by omega) (by omega) (by decide) (by decide)]; rfl
  have far : z ≠ 31 ∧ z ≠ 30 := by have := h.hA.1 10 s; omega
  -- judged
  obtain ⟨M14, R35, y1, y2, y3, y4, y5, y6, y7, y8, y9, y10⟩ := lp_judge (ah := ah) (v := v) hz (ix (mI R34 88 s)) fu fu 0 M13 R34 hs (by omega) (fu_g (by omega)) (fu_g (by omega)) h off h103
  have sc14 : SC M14 := y3.sc
  have i9 : mI M14 z 9 = v := by
    rw [← ac_I (N := n) (v := v) (w := cl + 1) far.1 far.2, hz, y3.ln9 (by rw [y4]; exact hs), y7]; exact h85
  have lc := hL M14 sc14 y9 y10
  have i2 : mI M14 8 2 = mI R35 39 9 := y3.l8_2
  have kz14 : kO M14 z 9 11 = true := by rw [hz]; exact kO_t (y3.shn.1 s (by rw [y4]; exact hs)).2.1
  -- marked
  have mv : -9999 ≤ (v - ah).toInt ∧ (v - ah).toInt ≤ 9999 := by
    have a := hv; have b := hah
    rw [I_le, I_le, show (1 : Int32).toInt = 1 from rfl, show (9999 : Int32).toInt = 9999 from rfl] at a
    rw [I_le, I_le, i0T, show (9999 : Int32).toInt = 9999 from rfl] at b
    rw [I_sub _ _ (by omega) (by omega) (by omega) (by omega)]
    omega
  have c71 : (mI R35 39 71).toInt = cl.toInt + 1 := by rw [y4, h71, cT]
  obtain ⟨M15, R36, w1, w2, w3, w4, w5, w6, w7⟩ := lp_mark (s := Int32.ofNat s) mv (ix (mI R35 39 9)) fu fu 0 M14 R35 (by omega) (fu_g (by rw [y4]; omega)) (fu_g (by rw [y4]; omega)) y3 (fun q hq => by
    have b := hb q hq
    rw [c71, y6, y5, if_neg (by omega)]
    omega) (by rw [c71, y5]; omega)
  have sc15 : SC M15 := w3.sc
  have mk : House_mark M14 30 16 (mI R35 39 9) v = some ((), M15) := by
    unfold House_mark
    rw [kO_t sc14.k30, ck_t, lc, bd_s]
    exact w1
  -- entered
  have f36 : mI R36 39 = mI R34 39 := by rw [w5, y4]
  obtain ⟨M21, R37, t1, t2, t3, t4, t5, t6, t7⟩ := lp_enter (N := n) (cv := v) (cw := cl + 1) (v := v) (s := s) (z := z) ⟨by clear h; grind, hv.2⟩ hz (ix (mI R36 88 s)) fu fu 0 M15 R36 (by rw [f36]; exact hs) (by omega) (fu_g (by rw [w5, y8]; omega)) (fu_g (by rw [w5, y8]; omega)) w3 (by rw [w5, y7]; exact h85) w6
  have en : House_enter M15 30 16 z = some ((), M21) := t1
  have sc21 : SC M21 := t3.sc
  have f37 : mI R37 39 = mI R34 39 := by rw [t4, f36]
  have i21 : mI M21 z 9 = v := by
    rw [← ac_I (N := n) (v := v) (w := cl + 1) far.1 far.2, hz, t3.ln9 (by rw [f37]; exact hs), t7, w5, y7]; exact h85
  have kz21 : kO M21 z 9 11 = true := by rw [hz]; exact kO_t (t3.shn.1 s (by rw [f37]; exact hs)).2.1
  have a30 : mI M21 30 2 = cl := by rw [t6, w4, y9]; exact e30
  have n24 : ix cl < 24 := ix_b 24 c0 c24 (by decide) (by decide)
  have ad' : House_addClose M21 30 v = some ((), ac M21 n v (cl + 1)) := by
    unfold House_addClose
    have nle : ¬ (24 : Int32) ≤ cl := by clear h; grind
    simp only [kO_t sc21.k30, ck_t, a30, if_neg nle, sc21.r30_0, nn_s, kA_t sc21.k31 c0 n24, row_n (show 30 ≠ 31 by decide)]
    rw [hn]
    rfl
  have rs2 : ∀ M', mI M' 8 = mI M' 8 := fun _ => rfl
  obtain ⟨M27, e27⟩ : ∃ x, ac M21 n v (cl + 1) = x := ⟨_, rfl⟩
  rw [e27] at t3 ad'
  have i27 : mI M27 8 2 = mI R37 39 9 := t3.l8_2
  -- margins
  obtain ⟨mg, a1, a2, a3, a4⟩ := ask_hall2 t3 2 (by decide) (by decide)
  have hf := t3.tmp (ex_fct M27 R37) ExR.rf
  obtain ⟨gr, -, b2, b3, b4⟩ := ask_hall2 hf 7 (by decide) (by decide)
  rw [fct_id] at b2
  obtain ⟨R38, x38, m38⟩ := b4 R37 ExR.rf
  have h8 := hf.tmp ExC.rf x38
  have f38 : mI R38 39 = mI R34 39 := by rw [x38.1 39 (by unfold tR; omega), f37]
  have l38 : mL R38 39 = mL R36 39 := by rw [x38.2.1 39 (by decide) (by decide), t5]
  have fok : Fok (fct M27 R37) R38 := fok_ex (fok_fct M27 R37) x38
  have t0 : mI R37 39 0 = mI R38 39 0 := by rw [f38, f37]
  have t9 : mI R37 39 9 = mI R38 39 9 := by rw [f38, f37]
  rw [t0] at a1
  obtain ⟨M39, R39, p1, p2, p3, p4, p5, p6, p7⟩ := lp_marg (R0 := R38) (g := gr) (cnt := mI R38 39 9) a1 (ix (mI R38 39 9)) fu fu 0 (fct M27 R37) R38 (by omega) (fu_g (by rw [f38]; omega)) (fu_g (by rw [f38]; omega)) h8 fok AG.rf RS2.rf rfl rfl (by rw [f38, h71, cT]; omega) (by rw [l38, f38, h71, cT]; rw [y4, h71, cT] at w7; omega)
  generalize hFF : fct M27 R37 = F at *
  have cm : House_callMargins F 30 16 (mI R38 39 9) mg gr (mI R38 39 0) = some ((), M39) := p1
  have i39 : mI M39 8 2 = mI R39 39 9 := p3.l8_2
  obtain ⟨M45, R40, q1, q2, q3, q4⟩ := lack_both p3
  have i45 : mI M45 8 2 = mI R40 39 9 := q3.l8_2
  obtain ⟨st, -, d2, d3, d4⟩ := ask_hall2 q3 8 (by decide) (by decide)
  obtain ⟨R41, x41, m41⟩ := d4 R40 ExR.rf
  have hg := q3.tmp (ex_fct M45 R40) ExR.rf
  obtain ⟨C', R', g1, g2, g3, g4⟩ := settle_sim hg trivial (d3.2.2 (Or.inr (Or.inr rfl))) x41 m41
  have f40 : ∀ j, j ≠ 21 → mI R40 39 j = mI R34 39 j := fun j hj => by rw [q4, p6.1 j hj, f38]
  refine ⟨C', R', ?_, ?_, g3, by rw [g4 0 (by decide), f40 0 (by decide)], by rw [g4 73 (by decide), f40 73 (by decide)]; exact off⟩
  · have y1 : Session_end_L66 fu z 0 M13 = some ((), M14) := y1
    rw [y1, bd_s]
    have nv : ¬ v = -1 := fun q => by rw [q] at hv; exact absurd hv.1 (by decide)
    have iF : mI F 8 16 = mI R38 39 0 := h8.l8_16
    unfold eT
    generalize fct M45 R40 = G at *
    simp only [kz14, ck_t, i9, if_neg nv, kO_t sc14.k8, sc14.r8_10, sc14.r8_1, nn_s, kO_t sc14.k30, i2, mk, bd_s, kO_t sc15.k8, sc15.r8_10, sc15.r8_1, kO_t sc15.k30, en, kO_t sc21.k8, sc21.r8_10, kz21, kO_t sc21.k30, i21, ad', t3.o8, t3.sc.r8_10, t3.sc.r8_1, a2, h8.o8, b2, h8.o30, i27, t9, iF, cm, p3.o8, p3.sc.r8_10, p3.sc.r8_1, p3.o30, i39, q1, q3.o8, q3.sc.r8_10, q3.sc.r8_1, d2, hg.o30, i45, g1]
  · have y2 : Mod_closesSession_L160 fu 39 (Int32.ofNat s) ah v 0 R34 = _ := y2
    rw [y2]
    have w2 : Mod_clears R35 39 (Int32.ofNat s) ah v = _ := w2
    have t2 : Mod_clears_L63 fu 39 (Int32.ofNat s) v 0 R36 = _ := t2
    have p2 : Mod_clears_L199 fu 39 gr 0 R38 = _ := p2
    rw [w2, t2, m38, bd_s, p2, q2, g2, bd_s]
end ZH
