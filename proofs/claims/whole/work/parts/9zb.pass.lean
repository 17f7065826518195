/-! minutes go by: both sides -/
section ZJ
variable {k : Nat} {ad : Nat → Nat → Nat} {C R M : Mm}
theorem sI_2 {a j : Nat} {v w : Int32} : sI (sI M a j v) a j w = sI M a j w := by
  unfold sI
  congr 1
  funext c y
  show (if c = a ∧ y = j then w else if c = a ∧ y = j then v else mI M c y) = (if c = a ∧ y = j then w else mI M c y)
  by_cases c1 : c = a ∧ y = j
  · simp only [if_pos c1]
  · simp only [if_neg c1]
/-- facts of the market, looked at -/
def MF (C R : Mm) : Prop := ∀ nm, 3 ≤ nm → nm ≤ 6 → mI C 29 nm = kn R nm
theorem I_one {a : Int32} (h0 : 0 ≤ a.toInt) (h1 : a.toInt ≤ 60000) : (a + 1).toInt = a.toInt + 1 := by
  rw [I_add _ _ (by omega) (by omega) (by decide) (by decide)]; rfl
theorem lp_off {N : Nat} {e : Int32} (hN : N ≤ 3000) (he : e.toInt ≤ 57600) : ∀ (d m i : Nat) (R : Mm), i + d = N → d < m → mK R 39 = (12, 107) → mI R 39 73 = 0 → 0 ≤ (mI R 39 0).toInt → (mI R 39 0).toInt + d = e.toInt → Mod_pass_L27 m 39 (Int32.ofNat N) (Int32.ofNat i) R = some (e, sI R 39 0 e) := by
  intro d
  induction d with
  | zero =>
    intro m i R hi hm hk off h0 hE
    obtain ⟨m, rfl⟩ : ∃ x, m = x + 1 := ⟨m - 1, by omega⟩
    have e0 : mI R 39 0 = e := I_eq (by omega)
    show Mod_pass_B27 _ _ _ _ _ = _
    unfold Mod_pass_B27
    rw [if_pos ((of_le N i (by omega) (by omega)).mpr (by omega)), kO_t hk, ck_t, e0, sI_sm e0]
  | succ d ih =>
    intro m i R hi hm hk off h0 hE
    obtain ⟨m, rfl⟩ : ∃ x, m = x + 1 := ⟨m - 1, by omega⟩
    have one := I_one h0 (by omega)
    have z := ih m (i + 1) (sI R 39 0 (mI R 39 0 + 1)) (by omega) (by omega) hk off (by rw [mI_sI, if_pos ⟨rfl, rfl⟩, one]; omega) (by rw [mI_sI, if_pos ⟨rfl, rfl⟩, one]; omega)
    rw [sI_2] at z
    rw [← z]
    have o2 : mI (sI R 39 0 (mI R 39 0 + 1)) 39 73 = 0 := off
    show Mod_pass_B27 _ _ _ _ _ = _
    unfold Mod_pass_B27 Mod_pass_J62 Mod_pass_J117
    simp only [if_neg (fun w => by have := (of_le N i (by omega) (by omega)).mp w; omega : ¬ Int32.ofNat N ≤ Int32.ofNat i), kO_t hk, ck_t, if_pos off, if_pos o2, of_s1 i (by omega)]
theorem kn_fu {a b : Int32} : ∀ nm, 3 ≤ nm → nm ≤ 6 → kn (sI (sI R 39 0 a) 39 72 b) nm = kn R nm := fun nm h1 h2 => by
  have r : ∀ c, c ≠ 39 → mI (sI (sI R 39 0 a) 39 72 b) c = mI R c := fun c q => by rw [row_n q, row_n q]
  have e71 : mI (sI (sI R 39 0 a) 39 72 b) 39 71 = mI R 39 71 := rfl
  have e22 : mI (sI (sI R 39 0 a) 39 72 b) 39 22 = mI R 39 22 := rfl
  have eo : outR (sI (sI R 39 0 a) 39 72 b) = outR R := by
    funext s
    unfold outR
    rw [r 55 (by decide), r 56 (by decide), r 57 (by decide)]
  unfold kn lcl
  rw [if_neg (by omega), if_neg (by omega), if_neg (by omega), if_neg (show ¬ nm = 0 by omega), if_neg (show ¬ nm = 1 by omega), if_neg (show ¬ nm = 2 by omega), e71, e22, eo, r 91 (by decide), r 54 (by decide)]
theorem burn1 (h : Rel k ad C R) (hf : MF C R) (on : mI R 39 73 = 1) {s : Nat} (hs : s + 1 = ix (mI R 39 70)) (lt : (mI R 39 0).toInt + 1 ≤ 57600) : ∃ (sh : Int32) (s0 : Int64) (C1 R1 : Mm), Hall_burnOneMinute C 8 = some ((), sI (sI C1 8 16 (mI R 39 0 + 1)) (ad 10 s) 7 (mI R 39 72 - sh)) ∧ (∀ K N i, Mod_pass_B27 K 39 N i R = (if N ≤ i then some (mI R 39 0, R) else Mod_pass_J62 K 39 N i s0 R1)) ∧ Rel k ad (sI C1 8 16 (mI R 39 0 + 1)) (sI R1 39 0 (mI R 39 0 + 1)) ∧ MF C1 R1 ∧ mI R1 39 = mI R 39 ∧ s0.toInt = sh.toInt ∧ (0 ≤ sh.toInt ∧ sh.toInt ≤ 1000000) := by
  have h24 := s24 h
  have hs1 : s < ix (mI R 39 70) := by omega
  have sn := h.shn.1 s hs1
  have zB := h.hA.1 10 s
  have h5 := h.tmp (ex_clk C (mI R 39 0) (mI R 39 1)) ExR.rf
  have fok : Fok (clk C (mI R 39 0) (mI R 39 1)) R := by
    intro nm hn
    by_cases c : 3 ≤ nm
    · rw [← hf nm c hn]
      unfold clk
      rw [mI_sI, if_neg (by omega), mI_sI, if_neg (by omega), mI_sI, if_neg (by omega)]
    · unfold clk kn
      simp only [mI_sI]
      rcases (show nm = 0 ∨ nm = 1 ∨ nm = 2 by omega) with e | e | e <;> subst e <;> simp
  obtain ⟨bu, b1, b2, b3⟩ := ask_law h5 fok 4 (by decide) (by decide)
  obtain ⟨gu, g1, g2, g3⟩ := ask_law h5 fok 5 (by decide) (by decide)
  obtain ⟨Ra, xa, ma⟩ := b3 R ExR.rf
  obtain ⟨Rb, xb, mb⟩ := g3 Ra xa
  have ha := h5.tmp ExC.rf xa
  have hb := h5.tmp ExC.rf xb
  have f39 : mI Rb 39 = mI R 39 := xb.1 39 (by unfold tR; omega)
  have wd := h.isc.wind
  have r14 : mR C 8 14 = some (ad 10 s) := by
    rw [h.shn.2.1, if_neg (by rw [on]; decide), show ix (mI R 39 70) - 1 = s by omega]
  have nw0 := h.isc.now
  rw [I_le, I_le, i0T, show (57600 : Int32).toInt = 57600 from rfl] at nw0
  have one := I_one nw0.1 (by omega)
  have fz : mI C (ad 10 s) 7 = mI R 39 72 := by rw [h.son.1 s hs1, if_pos ⟨on, hs⟩]
  -- numbers
  have B := b2
  have G := g2
  have W := wd
  rw [I_le, I_le, i0T, i99T] at B G
  rw [I_le, I_le, i0T, show (9 : Int32).toInt = 9 from rfl] at W
  have pr := mul_b (a := gu.toInt) (b := (mI R 39 1).toInt) (A := 99999) (B := 9) G.1 G.2.1 W.1 W.2
  have tm : (gu * mI R 39 1).toInt = gu.toInt * (mI R 39 1).toInt := I_mul _ _ (by omega) (by omega)
  have ts : (bu + gu * mI R 39 1).toInt = bu.toInt + gu.toInt * (mI R 39 1).toInt := by
    rw [I_add _ _ (by omega) (by omega) (by rw [tm]; omega) (by rw [tm]; omega), tm]
  have tL : (Int32.toInt64 bu + Int32.toInt64 gu * Int32.toInt64 (mI R 39 1)).toInt = bu.toInt + gu.toInt * (mI R 39 1).toInt := by
    have t1 : (Int32.toInt64 gu * Int32.toInt64 (mI R 39 1)).toInt = gu.toInt * (mI R 39 1).toInt := by
      rw [L_mul _ _ (by rw [T_L, T_L]; omega) (by rw [T_L, T_L]; omega), T_L, T_L]
    rw [L_add _ _ (by rw [T_L]; omega) (by rw [T_L]; omega) (by rw [t1]; omega) (by rw [t1]; omega), t1, T_L]
  have rel := hb.wNow (t := mI R 39 0 + 1) ⟨by rw [I_le, one, f39]; omega, by rw [I_le, one]; exact lt⟩
  refine ⟨bu + gu * mI R 39 1, _, clk C (mI R 39 0) (mI R 39 1), Rb, ?_, fun K N i => ?_, rel, fun nm c hn => ?_, f39, tL.trans ts.symm, by rw [ts]; omega⟩
  · have i16 := h5.l8_16
    have i17 := h5.l8_17
    have r5 : mR (clk C (mI R 39 0) (mI R 39 1)) 8 14 = some (ad 10 s) := r14
    have kz : kO (clk C (mI R 39 0) (mI R 39 1)) (ad 10 s) 9 11 = true := kO_t sn.2.1
    have cz : mI (clk C (mI R 39 0) (mI R 39 1)) (ad 10 s) 7 = mI R 39 72 := by
      unfold clk
      rw [row_n (by omega), row_n (by omega), row_n (by omega)]
      exact fz
    have k8 : mI C 8 16 = mI R 39 0 := h.l8_16
    have k17 : mI C 8 17 = mI R 39 1 := h.l8_17
    have ec := ev_clk h (mI R 39 0) (mI R 39 1)
    generalize clk C (mI R 39 0) (mI R 39 1) = C5 at *
    have J : ∀ w, Hall_burnOneMinute_J55 8 w C5 = some ((), sI (sI C5 8 16 (mI R 39 0 + 1)) (ad 10 s) 7 (mI R 39 72 - w)) := fun w => by
      unfold Hall_burnOneMinute_J55
      have i7 : mI (sI C5 8 16 (mI R 39 0 + 1)) (ad 10 s) 7 = mI R 39 72 := by rw [row_n (by omega)]; exact cz
      simp only [h5.o8, ck_t, mR_sI, r5, nn_s, kO_sI, kz, i16, i7]
    unfold Hall_burnOneMinute
    simp only [h.o8, ck_t, h.sc.r8_9, nn_s, h.o19, k8, k17, ec, bd_s, h5.o8, h5.sc.r8_9, h5.o19, i16, b1, i17, g1, J]
    by_cases c : mI R 39 1 ≤ 0
    · rw [if_pos c]
      have e0 : mI R 39 1 = 0 := Int32.le_antisymm c wd.1
      have e1 : bu + gu * mI R 39 1 = bu := by rw [e0]; clear h h5 ha hb rel; grind
      rw [e1]
    · rw [if_neg c]
  · unfold Mod_pass_B27
    have n0 : ¬ mI R 39 73 = 0 := by rw [on]; decide
    have w1 : mI Rb 39 1 = mI R 39 1 := by rw [f39]
    simp only [h.o39, ck_t, if_neg n0, ma, bd_s, ha.o39, mb, hb.o39, w1]
  · rw [kn_ex xb, ← hf nm c hn]
    unfold clk
    rw [mI_sI, if_neg (by omega), mI_sI, if_neg (by omega), mI_sI, if_neg (by omega)]
theorem lp_min {N : Nat} {e : Int32} (hN : N ≤ 3000) (he : e.toInt ≤ 57600) : ∀ (d n m i : Nat) (C R : Mm), i + d = N → d < n → d < m → Rel k ad C R → MF C R → (mI R 39 0).toInt + d = e.toInt → ∃ C' R', Hall_pass_L37 n 8 (Int32.ofNat N) e (Int32.ofNat i) C = some (e, C') ∧ Mod_pass_L27 m 39 (Int32.ofNat N) (Int32.ofNat i) R = some (e, R') ∧ Rel k ad C' R' := by
  have fin : ∀ (C R : Mm), Rel k ad C R → (mI R 39 0).toInt ≤ e.toInt → Hall_pass_J73 8 e C = some (e, sI C 8 16 e) ∧ Rel k ad (sI C 8 16 e) (sI R 39 0 e) := fun C R h q => by
    refine ⟨?_, h.wNow ⟨by rw [I_le]; exact q, by rw [I_le]; exact he⟩⟩
    unfold Hall_pass_J73
    simp only [h.o8, ck_t]
    rw [mI_sI, if_pos ⟨rfl, rfl⟩]
  have offc : ∀ (d n m i : Nat) (C R : Mm), i + d = N → d < n → d < m → Rel k ad C R → mI R 39 73 = 0 → (mI R 39 0).toInt + d = e.toInt → ∃ C' R', Hall_pass_L37 n 8 (Int32.ofNat N) e (Int32.ofNat i) C = some (e, C') ∧ Mod_pass_L27 m 39 (Int32.ofNat N) (Int32.ofNat i) R = some (e, R') ∧ Rel k ad C' R' := fun d n m i C R hi hn hm h off hE => by
    obtain ⟨n, rfl⟩ : ∃ x, n = x + 1 := ⟨n - 1, by omega⟩
    have nw0 := h.isc.now
    rw [I_le, I_le, i0T, show (57600 : Int32).toInt = 57600 from rfl] at nw0
    obtain ⟨f1, f2⟩ := fin C R h (by omega)
    refine ⟨_, _, ?_, lp_off hN he d m i R hi hm h.sr.k39 off nw0.1 hE, f2⟩
    have r14 : mR C 8 14 = none := by rw [h.shn.2.1, if_pos off]
    show Hall_pass_B37 _ _ _ _ _ _ = _
    unfold Hall_pass_B37
    simp only [h.o8, ck_t, r14, nl_n, f1]
    split <;> rfl
  intro d
  induction d with
  | zero =>
    intro n m i C R hi hn hm h hf hE
    obtain ⟨n, rfl⟩ : ∃ x, n = x + 1 := ⟨n - 1, by omega⟩
    obtain ⟨m, rfl⟩ : ∃ x, m = x + 1 := ⟨m - 1, by omega⟩
    have e0 : mI R 39 0 = e := I_eq (by omega)
    obtain ⟨f1, f2⟩ := fin C R h (by omega)
    rw [sI_sm e0] at f2
    have le : Int32.ofNat N ≤ Int32.ofNat i := (of_le N i (by omega) (by omega)).mpr (by omega)
    refine ⟨_, _, ?_, ?_, f2⟩
    · show Hall_pass_B37 _ _ _ _ _ _ = _
      unfold Hall_pass_B37
      rw [if_pos le]
      exact f1
    · show Mod_pass_B27 _ _ _ _ _ = _
      unfold Mod_pass_B27
      rw [if_pos le, h.o39, ck_t, e0]
  | succ d ih =>
    intro n m i C R hi hn hm h hf hE
    by_cases on : mI R 39 73 = 1
    · obtain ⟨n, rfl⟩ : ∃ x, n = x + 1 := ⟨n - 1, by omega⟩
      obtain ⟨m, rfl⟩ : ∃ x, m = x + 1 := ⟨m - 1, by omega⟩
      have h24 := s24 h
      have c73 := h.isc.cs
      have c71 := h.isc.closes
      have s1 : 1 ≤ ix (mI R 39 70) := by
        rw [on] at c73
        have c70 := h.isc.sessions
        clear hf fin offc ih h
        grind [ix_t]
      obtain ⟨s, hs⟩ : ∃ s, s + 1 = ix (mI R 39 70) := ⟨ix (mI R 39 70) - 1, by omega⟩
      have nw0 := h.isc.now
      rw [I_le, I_le, i0T, show (57600 : Int32).toInt = 57600 from rfl] at nw0
      have one := I_one nw0.1 (by omega)
      obtain ⟨sh, s0, C1, R1, b1, b2, b3, b4, b5, b6, b7⟩ := burn1 h hf on hs (by omega)
      have nle : ¬ Int32.ofNat N ≤ Int32.ofNat i := fun w => by have := (of_le N i (by omega) (by omega)).mp w; omega
      have fu1 := (h.ison on)
      have F := And.intro fu1.1 fu1.2.1
      rw [I_le, I_le, show (1 : Int32).toInt = 1 from rfl, i99T] at F
      have sb : (mI R 39 72 - sh).toInt = (mI R 39 72).toInt - sh.toInt := I_sub _ _ (by omega) (by omega) (by omega) (by omega)
      have zB := h.hA.1 10 s
      have q73 : mI (sI R1 39 0 (mI R 39 0 + 1)) 39 73 = 1 := by
        have : mI (sI R1 39 0 (mI R 39 0 + 1)) 39 73 = mI R1 39 73 := rfl
        rw [this, b5]; exact on
      have q70 : mI (sI R1 39 0 (mI R 39 0 + 1)) 39 70 = mI R 39 70 := by
        have : mI (sI R1 39 0 (mI R 39 0 + 1)) 39 70 = mI R1 39 70 := rfl
        rw [this, b5]
      have q72 : mI (sI R1 39 0 (mI R 39 0 + 1)) 39 72 = mI R 39 72 := by
        have : mI (sI R1 39 0 (mI R 39 0 + 1)) 39 72 = mI R1 39 72 := rfl
        rw [this, b5]
      have q0 : mI R1 39 0 = mI R 39 0 := by rw [b5]
      have r14 : mR C 8 14 = some (ad 10 s) := by
        rw [h.shn.2.1, if_neg (by rw [on]; decide), show ix (mI R 39 70) - 1 = s by omega]
      have hs1 : s < ix (mI (sI R1 39 0 (mI R 39 0 + 1)) 39 70) := by rw [q70]; omega
      have sn := b3.shn.1 s hs1
      have r14' : mR (sI (sI C1 8 16 (mI R 39 0 + 1)) (ad 10 s) 7 (mI R 39 72 - sh)) 8 14 = some (ad 10 s) := by
        have w := b3.shn.2.1
        rw [if_neg (by rw [q73]; decide), q70, show ix (mI R 39 70) - 1 = s by omega] at w
        exact w
      have i7 : mI (sI (sI C1 8 16 (mI R 39 0 + 1)) (ad 10 s) 7 (mI R 39 72 - sh)) (ad 10 s) 7 = mI R 39 72 - sh := by rw [mI_sI, if_pos ⟨rfl, rfl⟩]
      have kz : kO (sI (sI C1 8 16 (mI R 39 0 + 1)) (ad 10 s) 7 (mI R 39 72 - sh)) (ad 10 s) 9 11 = true := kO_t sn.2.1
      have k8 : kO (sI (sI C1 8 16 (mI R 39 0 + 1)) (ad 10 s) 7 (mI R 39 72 - sh)) 8 11 18 = true := b3.o8
      have cls : Hall_pass_L37 (n + 1) 8 (Int32.ofNat N) e (Int32.ofNat i) C = (if 0 < mI R 39 72 - sh then Hall_pass_L37 n 8 (Int32.ofNat N) e (Int32.ofNat (i + 1)) (sI (sI C1 8 16 (mI R 39 0 + 1)) (ad 10 s) 7 (mI R 39 72 - sh)) else bd (Hall_endSession (sI (sI C1 8 16 (mI R 39 0 + 1)) (ad 10 s) 7 (mI R 39 72 - sh)) 8) (fun _ M18 => Hall_pass_L37 n 8 (Int32.ofNat N) e (Int32.ofNat (i + 1)) M18)) := by
        show Hall_pass_B37 _ _ _ _ _ _ = _
        unfold Hall_pass_B37 Hall_pass_J67
        simp only [if_neg nle, h.o8, ck_t, r14, nl_s, b1, bd_s, k8, r14', nn_s, kz, i7, of_s1 i (by omega)]
      have rfs : Mod_pass_L27 (m + 1) 39 (Int32.ofNat N) (Int32.ofNat i) R = (if s0 < Int32.toInt64 (mI R 39 72) then Mod_pass_L27 m 39 (Int32.ofNat N) (Int32.ofNat (i + 1)) (sI (sI R1 39 0 (mI R 39 0 + 1)) 39 72 (mI R 39 72 - Int64.toInt32 s0)) else bd (Mod_closesSession (sI R1 39 0 (mI R 39 0 + 1)) 39 (mI (sI R1 39 0 (mI R 39 0 + 1)) 39 70 - 1)) (fun _ M11 => Mod_pass_L27 m 39 (Int32.ofNat N) (Int32.ofNat (i + 1)) M11)) := by
        show Mod_pass_B27 _ _ _ _ _ = _
        rw [b2, if_neg nle]
        have k39 : kO R1 39 12 107 = true := b3.o39
        unfold Mod_pass_J62 Mod_pass_J117
        simp only [k39, ck_t, q0, q73, if_neg (show ¬ (1 : Int32) = 0 by decide), q72, of_s1 i (by omega)]
      have cE : s0 < Int32.toInt64 (mI R 39 72) ↔ 0 < mI R 39 72 - sh := by
        rw [L_lt, T_L, I_lt, sb, i0T, b6]
        omega
      by_cases c : 0 < mI R 39 72 - sh
      · rw [if_pos c] at cls
        rw [if_pos (cE.mpr c)] at rfs
        have e32 : Int64.toInt32 s0 = sh := by
          apply I_eq
          rw [Int64.toInt_toInt32, b6, Int.bmod_def]
          split <;> omega
        rw [e32] at rfs
        rw [I_lt, sb, i0T] at c
        have rel := b3.wFuse q73 (s := s) (by rw [q70]; exact hs) (v := mI R 39 72 - sh) ⟨by rw [I_le, sb, show (1 : Int32).toInt = 1 from rfl]; omega, by rw [I_le, sb, i99T]; omega⟩
        obtain ⟨C', R', z1, z2, z3⟩ := ih n m (i + 1) _ _ (by omega) (by omega) (by omega) rel (fun nm h1 h2 => by
          rw [kn_fu nm h1 h2, ← b4 nm h1 h2, row_n (by omega), row_n (by decide)]) (by
          have : mI (sI (sI R1 39 0 (mI R 39 0 + 1)) 39 72 (mI R 39 72 - sh)) 39 0 = mI R 39 0 + 1 := rfl
          rw [this, one]; omega)
        exact ⟨C', R', cls.trans z1, rfs.trans z2, z3⟩
      · rw [if_neg c] at cls
        rw [if_neg (fun w => c (cE.mp w))] at rfs
        obtain ⟨C2, R2, y1, y2, y3, y4, y5⟩ := end_sim b3 q73 (s := s) (by rw [q70]; exact hs) (mI R 39 72 - sh)
        rw [y1, bd_s] at cls
        rw [y2, bd_s] at rfs
        have t0 : mI R2 39 0 = mI R 39 0 + 1 := y4
        obtain ⟨C', R', z1, z2, z3⟩ := offc d n m (i + 1) C2 R2 (by omega) (by omega) (by omega) y3 y5 (by rw [t0, one]; omega)
        exact ⟨C', R', cls.trans z1, rfs.trans z2, z3⟩
    · have off : mI R 39 73 = 0 := by
        rcases h.isc.on with q | q
        · exact q
        · exact absurd q on
      exact offc (d + 1) n m i C R hi hn hm h off hE
theorem sim_pass (h : Rel k ad C R) (hk : k < 512) (a : Int32) : Sim k (Hall_pass C 8 a) (Mod_pass R 39 a) := by
  unfold Hall_pass Mod_pass
  simp only [ev_within, ev_in, bd_s, h.o8, h.o39, ck_t, h.l8_16]
  have nw0 := h.isc.now
  rw [I_le, I_le, i0T, show (57600 : Int32).toInt = 57600 from rfl] at nw0
  by_cases h1 : 1 ≤ a ∧ a ≤ 3000
  · simp only [if_pos h1, i10, if_false]
    by_cases h2 : mI R 39 0 + a ≤ 57600
    · rw [if_pos h2, if_pos h2, ev_look h, bd_s]
      have a0 : 0 ≤ a := by clear h; grind
      have A := h1
      rw [I_le, I_le, show (1 : Int32).toInt = 1 from rfl, show (3000 : Int32).toInt = 3000 from rfl] at A
      have tS : (mI R 39 0 + a).toInt = (mI R 39 0).toInt + a.toInt := I_add _ _ (by omega) (by omega) (by omega) (by omega)
      have ia := ix_I a0
      have ea : a = Int32.ofNat (ix a) := (of_ix a a0).symm
      rw [I_le, show (57600 : Int32).toInt = 57600 from rfl] at h2
      obtain ⟨C', R', z1, z2, z3⟩ := lp_min (N := ix a) (e := mI R 39 0 + a) (by omega) h2 (ix a) fu fu 0 (fct C R) R (by omega) (by unfold fu; omega) (by unfold fu; omega) (h.tmp (ex_fct C R) ExR.rf) (fun nm _ hn => fok_fct C R nm hn) (by rw [tS]; omega)
      rw [← ea] at z1 z2
      exact ⟨_, _, _, ad, z1, z2, z3.up hk⟩
    · rw [if_neg h2, if_neg h2]
      exact ⟨_, _, _, ad, rfl, rfl, h.up hk⟩
  · simp only [if_neg h1, if_true]
    exact ⟨_, _, _, ad, rfl, rfl, h.up hk⟩
end ZJ
