/-! coins are marked, bargains entered: both sides. ac: the class's memory as it will be once the close is added -/
section ZE
variable {k : Nat} {ad : Nat → Nat → Nat} {C R M : Mm}
def ac (M : Mm) (N : Nat) (v w : Int32) : Mm := sI (sI M 31 N v) 30 2 w
theorem ac_sI {N a j : Nat} {v w x : Int32} (h1 : a ≠ 31) (h2 : a ≠ 30) : ac (sI M a j x) N v w = sI (ac M N v w) a j x := by
  unfold ac
  rw [sI_cm h1, sI_cm h2]
theorem ac_sL {N a j : Nat} {v w : Int32} {x : Int64} : ac (sL M a j x) N v w = sL (ac M N v w) a j x := rfl
theorem ac_I {N a : Nat} {v w : Int32} (h1 : a ≠ 31) (h2 : a ≠ 30) : mI (ac M N v w) a = mI M a := by
  unfold ac
  rw [row_n h2, row_n h1]
/-- coins and positions within what b bargains of a close can move -/
def Bd (k : Nat) (R : Mm) (b : Nat) : Prop := ∀ q, q < 16 → (-(2000000000 * (mI R 39 71).toInt - 2000000000 + 100000 * (k : Int) + 1430000000 + 2000000 * (b : Int)) ≤ (mL R 52 q).toInt ∧ (mL R 52 q).toInt ≤ 2000000000 * (mI R 39 71).toInt - 2000000000 + 100000 * (k : Int) + 1430000000 + 2000000 * (b : Int)) ∧ (-(5940 * (mI R 39 71).toInt - 5940 + 99 * (b : Int)) ≤ (mI R 47 q).toInt ∧ (mI R 47 q).toInt ≤ 5940 * (mI R 39 71).toInt - 5940 + 99 * (b : Int))
theorem mul_ab {a b A B : Int} (h1 : -A ≤ a) (h2 : a ≤ A) (h3 : -B ≤ b) (h4 : b ≤ B) (hA : 0 ≤ A) (hB : 0 ≤ B) : -(A * B) ≤ a * b ∧ a * b ≤ A * B := by
  have key : ∀ x y : Int, 0 ≤ x → x ≤ A → 0 ≤ y → y ≤ B → 0 ≤ x * y ∧ x * y ≤ A * B := fun x y a1 a2 a3 a4 => mul_b a1 a2 a3 a4
  by_cases c1 : 0 ≤ a <;> by_cases c2 : 0 ≤ b
  · have := key a b c1 h2 c2 h4; omega
  · have := key a (-b) c1 h2 (by omega) (by omega)
    rw [Int.mul_neg] at this; omega
  · have := key (-a) b (by omega) (by omega) c2 h4
    rw [Int.neg_mul] at this; omega
  · have := key (-a) (-b) (by omega) (by omega) (by omega) (by omega)
    rw [Int.neg_mul_neg] at this; omega
theorem lp_mark {N : Nat} {cv cw v ah s : Int32} (hm : -9999 ≤ (v - ah).toInt ∧ (v - ah).toInt ≤ 9999) : ∀ (d m m2 p : Nat) (M R : Mm), p + d = ix (mI R 39 9) → d < m → d < m2 → Rel k ad (ac M N cv cw) R → (∀ q, q < 16 → (-(5940 * (mI R 39 71).toInt - 5940) ≤ (mI R 47 q).toInt ∧ (mI R 47 q).toInt ≤ 5940 * (mI R 39 71).toInt - 5940) ∧ (-(2000000000 * (mI R 39 71).toInt - 2000000000 + 100000 * (k : Int) + (if q < p then 1430000000 else 0)) ≤ (mL R 52 q).toInt ∧ (mL R 52 q).toInt ≤ 2000000000 * (mI R 39 71).toInt - 2000000000 + 100000 * (k : Int) + (if q < p then 1430000000 else 0))) → (-(2000000000000 * (mI R 39 71).toInt - 2000000000000) ≤ (mL R 39 18).toInt ∧ (mL R 39 18).toInt ≤ 2000000000000 * (mI R 39 71).toInt - 2000000000000) → ∃ M' R', House_mark_L12 m 30 16 (mI R 39 9) (Int32.toInt64 (v - ah)) (Int32.ofNat p) M = some ((), M') ∧ Mod_clears_L3 m2 39 s ah v (Int32.ofNat p) R = Mod_clears_L63 fu 39 s v 0 R' ∧ Rel k ad (ac M' N cv cw) R' ∧ mI M' = mI M ∧ mI R' = mI R ∧ Bd k R' 0 ∧ (-(2000000000000 * (mI R 39 71).toInt - 1000000000000) ≤ (mL R' 39 18).toInt ∧ (mL R' 39 18).toInt ≤ 2000000000000 * (mI R 39 71).toInt - 1000000000000) := by
  intro d
  induction d with
  | zero =>
    intro m m2 p M R hp hm1 hm2 h hb hF
    obtain ⟨m, rfl⟩ : ∃ x, m = x + 1 := ⟨m - 1, by omega⟩
    obtain ⟨m2, rfl⟩ : ∃ x, m2 = x + 1 := ⟨m2 - 1, by omega⟩
    have n16 := p16 h
    have e9 : mI R 39 9 = Int32.ofNat p := by rw [show p = ix (mI R 39 9) by omega]; exact (of_ix _ h.isc.persons.1).symm
    have le : mI R 39 9 ≤ Int32.ofNat p := by rw [e9]; exact Int32.le_refl _
    have cl := h.isc.closes
    rw [I_le, I_le, i0T, show (24 : Int32).toInt = 24 from rfl] at cl
    have bH := h.ipe.2.2.1
    have k30 : kO M 30 3 7 = true := kO_t h.sc.k30
    have l304 : mL M 30 4 = mL R 39 18 := h.ll30_4
    have i303 : mI M 30 3 = mI R 39 21 := h.l30_3
    have pr := mul_ab (a := (mI R 39 21).toInt) (b := (v - ah).toInt) (A := 55200000) (B := 9999) (by omega) (by omega) hm.1 hm.2 (by decide) (by decide)
    have tm : (Int32.toInt64 (mI R 39 21) * Int32.toInt64 (v - ah)).toInt = (mI R 39 21).toInt * (v - ah).toInt := by
      rw [L_mul _ _ (by rw [T_L, T_L]; omega) (by rw [T_L, T_L]; omega), T_L, T_L]
    have ta : (mL R 39 18 + Int32.toInt64 (mI R 39 21) * Int32.toInt64 (v - ah)).toInt = (mL R 39 18).toInt + (mI R 39 21).toInt * (v - ah).toInt := by
      rw [L_add _ _ (by omega) (by omega) (by rw [tm]; omega) (by rw [tm]; omega), tm]
    have w := h.wFu (v := mL R 39 18 + Int32.toInt64 (mI R 39 21) * Int32.toInt64 (v - ah)) (by rw [ta]; omega)
    rw [← ac_sL] at w
    refine ⟨_, _, ?_, ?_, w, rfl, rfl, fun q hq => ?_, ?_⟩
    · show House_mark_B12 _ _ _ _ _ _ _ = _
      unfold House_mark_B12
      simp only [if_pos le, k30, ck_t, l304, i303]
    · show Mod_clears_B3 _ _ _ _ _ _ _ = _
      unfold Mod_clears_B3
      simp only [h.o39, ck_t, if_pos le]
    · obtain ⟨b1, b2⟩ := hb q hq
      refine ⟨?_, ?_⟩
      · show -(2000000000 * (mI R 39 71).toInt - 2000000000 + 100000 * (k : Int) + 1430000000 + 2000000 * ((0 : Nat) : Int)) ≤ (mL R 52 q).toInt ∧ (mL R 52 q).toInt ≤ 2000000000 * (mI R 39 71).toInt - 2000000000 + 100000 * (k : Int) + 1430000000 + 2000000 * ((0 : Nat) : Int)
        split at b2 <;> omega
      · show -(5940 * (mI R 39 71).toInt - 5940 + 99 * ((0 : Nat) : Int)) ≤ (mI R 47 q).toInt ∧ (mI R 47 q).toInt ≤ 5940 * (mI R 39 71).toInt - 5940 + 99 * ((0 : Nat) : Int)
        omega
    · rw [mL_sL, if_pos ⟨rfl, rfl⟩, ta]
      omega
  | succ d ih =>
    intro m m2 p M R hp hm1 hm2 h hb hF
    obtain ⟨m, rfl⟩ : ∃ x, m = x + 1 := ⟨m - 1, by omega⟩
    obtain ⟨m2, rfl⟩ : ∃ x, m2 = x + 1 := ⟨m2 - 1, by omega⟩
    have n16 := p16 h
    have p0 := h.isc.persons.1
    have P0 : (0 : Int32) ≤ Int32.ofNat p := of_nn _ (by omega)
    have P1 : ix (Int32.ofNat p) = p := ix_of _ (by omega)
    have Plt : ix (Int32.ofNat p) < 16 := by omega
    have nle : ¬ mI R 39 9 ≤ Int32.ofNat p := by
      rw [(of_ix _ p0).symm]
      intro w
      have := (of_le _ p (by omega) (by omega)).mp w
      omega
    have hp1 : p < ix (mI R 39 9) := by omega
    have sp := h.shp p hp1
    have cl := h.isc.closes
    rw [I_le, I_le, i0T, show (24 : Int32).toInt = 24 from rfl] at cl
    have hk := h.ipe.2.2.2.2.2
    have far : ad 1 p ≠ 31 ∧ ad 1 p ≠ 30 := by have := h.hA.1 1 p; omega
    have k16 : kA M 16 24 (Int32.ofNat p) = true := kA_t h.sc.k16 P0 Plt
    have r16 : mR M 16 p = some (ad 1 p) := sp.1
    have kp : kO M (ad 1 p) 6 9 = true := kO_t sp.2.1
    have l3 : mL M (ad 1 p) 3 = mL R 52 p := h.llp3 hp1
    have i4 : mI M (ad 1 p) 4 = mI R 47 p := by rw [← ac_I (N := N) (v := cv) (w := cw) far.1 far.2]; exact h.lp4 hp1
    obtain ⟨b1, b2⟩ := hb p (by omega)
    rw [if_neg (by omega)] at b2
    have pr := mul_ab (a := (mI R 47 p).toInt) (b := (v - ah).toInt) (A := 142560) (B := 9999) (by omega) (by omega) hm.1 hm.2 (by decide) (by decide)
    have tm : (Int32.toInt64 (mI R 47 p) * Int32.toInt64 (v - ah)).toInt = (mI R 47 p).toInt * (v - ah).toInt := by
      rw [L_mul _ _ (by rw [T_L, T_L]; omega) (by rw [T_L, T_L]; omega), T_L, T_L]
    have ta : (mL R 52 p + Int32.toInt64 (mI R 47 p) * Int32.toInt64 (v - ah)).toInt = (mL R 52 p).toInt + (mI R 47 p).toInt * (v - ah).toInt := by
      rw [L_add _ _ (by omega) (by omega) (by rw [tm]; omega) (by rw [tm]; omega), tm]
    have w := h.wL hp1 (v := mL R 52 p + Int32.toInt64 (mI R 47 p) * Int32.toInt64 (v - ah)) (by unfold okL; rw [ta]; omega)
    rw [← ac_sL] at w
    obtain ⟨M', R', z1, z2, z3, z4, z5, z6, z7⟩ := ih m m2 (p + 1) _ _ (by show p + 1 + d = ix (mI R 39 9); omega) (by omega) (by omega) w (fun q hq => by
      obtain ⟨c1, c2⟩ := hb q hq
      refine ⟨c1, ?_⟩
      show -(2000000000 * (mI R 39 71).toInt - 2000000000 + 100000 * (k : Int) + (if q < p + 1 then 1430000000 else 0)) ≤ (mL (sL R 52 p _) 52 q).toInt ∧ (mL (sL R 52 p _) 52 q).toInt ≤ 2000000000 * (mI R 39 71).toInt - 2000000000 + 100000 * (k : Int) + (if q < p + 1 then 1430000000 else 0)
      rw [mL_sL]
      by_cases e : q = p
      · rw [if_pos (show q < p + 1 by omega), if_pos (show 52 = 52 ∧ q = p from ⟨rfl, e⟩), ta]
        omega
      · rw [if_neg (show ¬ (52 = 52 ∧ q = p) from fun y => e y.2)]
        by_cases l : q < p
        · rw [if_pos l] at c2; rw [if_pos (show q < p + 1 by omega)]; exact c2
        · rw [if_neg l] at c2; rw [if_neg (show ¬ q < p + 1 by omega)]; exact c2) (by rw [mL_sL, if_neg (by omega)]; exact hF)
    refine ⟨M', R', ?_, ?_, z3, z4, z5, z6, z7⟩
    · rw [← z1]
      show House_mark_B12 _ _ _ _ _ _ _ = _
      unfold House_mark_B12
      simp only [if_neg nle, k16, ck_t, P1, r16, nn_s, kp, l3, i4, of_s1 p (by omega)]
      rfl
    · rw [← z2]
      show Mod_clears_B3 _ _ _ _ _ _ _ = _
      unfold Mod_clears_B3
      simp only [h.o39, ck_t, if_neg nle, h.sr.r39_16, h.sr.r39_11, nn_s, kA_t h.sr.k52 P0 Plt, kA_t h.sr.k47 P0 Plt, P1, of_s1 p (by omega)]
theorem lp_enter {N s z : Nat} {cv cw v : Int32} (hv : 0 ≤ v ∧ v ≤ 9999) (hz : z = ad 10 s) : ∀ (d m m2 b : Nat) (M R : Mm), s < ix (mI R 39 70) → b + d = ix (mI R 88 s) → d < m → d < m2 → Rel k ad (ac M N cv cw) R → mI R 85 s = v → Bd k R b → ∃ M' R', House_enter_L2 m 16 z (Int32.ofNat b) M = some ((), M') ∧ Mod_clears_L63 m2 39 (Int32.ofNat s) v (Int32.ofNat b) R = bd (Mod_asked R' 39 7) (fun r6 M7 => Mod_clears_L199 fu 39 r6 0 M7) ∧ Rel k ad (ac M' N cv cw) R' ∧ mI R' 39 = mI R 39 ∧ mL R' 39 = mL R 39 ∧ mI M' 30 = mI M 30 ∧ mI R' 85 = mI R 85 := by
  intro d
  induction d with
  | zero =>
    intro m m2 b M R hs hb hm1 hm2 h h85 hB
    obtain ⟨m, rfl⟩ : ∃ x, m = x + 1 := ⟨m - 1, by omega⟩
    obtain ⟨m2, rfl⟩ : ∃ x, m2 = x + 1 := ⟨m2 - 1, by omega⟩
    have h24 := s24 h
    have S0 : (0 : Int32) ≤ Int32.ofNat s := of_nn _ (by omega)
    have S1 : ix (Int32.ofNat s) = s := ix_of _ (by omega)
    have sn := h.shn.1 s hs
    have a88 := (h.ise.1 s (by omega)).2.1
    have e88 : mI R 88 s = Int32.ofNat b := by rw [show b = ix (mI R 88 s) by omega]; exact (of_ix _ a88.1).symm
    have le : mI R 88 s ≤ Int32.ofNat b := by rw [e88]; exact Int32.le_refl _
    have far : ad 10 s ≠ 31 ∧ ad 10 s ≠ 30 := by have := h.hA.1 10 s; omega
    have i5 : mI M (ad 10 s) 5 = mI R 88 s := by rw [← ac_I (N := N) (v := cv) (w := cw) far.1 far.2]; exact h.ln5 hs
    have kz : kO M (ad 10 s) 9 11 = true := kO_t sn.2.1
    refine ⟨M, R, ?_, ?_, h, rfl, rfl, rfl, rfl⟩
    · show House_enter_B2 _ _ _ _ _ = _
      unfold House_enter_B2
      rw [hz, kz, ck_t, i5, if_pos le]
    · show Mod_clears_B63 _ _ _ _ _ _ = _
      unfold Mod_clears_B63
      simp only [h.o39, ck_t, h.sr.r39_79, nn_s, kA_t h.sr.k88 S0 (show ix (Int32.ofNat s) < 24 by omega), S1, if_pos le]
  | succ d ih =>
    intro m m2 b M R hs hb hm1 hm2 h h85 hB
    obtain ⟨m, rfl⟩ : ∃ x, m = x + 1 := ⟨m - 1, by omega⟩
    obtain ⟨m2, rfl⟩ : ∃ x, m2 = x + 1 := ⟨m2 - 1, by omega⟩
    have h24 := s24 h
    have n16 := p16 h
    have S0 : (0 : Int32) ≤ Int32.ofNat s := of_nn _ (by omega)
    have S1 : ix (Int32.ofNat s) = s := ix_of _ (by omega)
    have sn := h.shn.1 s hs
    have j1 := h.ise.1 s (by omega)
    have a88 := j1.2.1
    have u88 : ix (mI R 88 s) ≤ 60 := by have a := j1.1; have c := j1.2.1; clear h; grind [ix_t]
    have hb1 : b < ix (mI R 88 s) := by omega
    have B0 : (0 : Int32) ≤ Int32.ofNat b := of_nn _ (by omega)
    have B1 : ix (Int32.ofNat b) = b := ix_of _ (by omega)
    have nle : ¬ mI R 88 s ≤ Int32.ofNat b := by
      rw [(of_ix _ a88.1).symm]
      intro w
      have := (of_le _ b (by omega) (by omega)).mp w
      omega
    have bn := sn.2.2.2.2.2.2.2.2.2 b hb1
    have ex : (60 : Int32) * Int32.ofNat s + Int32.ofNat b = Int32.ofNat (60 * s + b) := by
      rw [show (60 : Int32) = Int32.ofNat 60 from rfl, of_mul, of_add]
    have X0 : (0 : Int32) ≤ Int32.ofNat (60 * s + b) := of_nn _ (by omega)
    have X1 : ix (Int32.ofNat (60 * s + b)) = 60 * s + b := ix_of _ (by omega)
    have Xlt : ix (Int32.ofNat (60 * s + b)) < 1440 := by omega
    have far : ad 10 s ≠ 31 ∧ ad 10 s ≠ 30 := by have := h.hA.1 10 s; omega
    have farb : ad 15 (60 * s + b) ≠ 31 ∧ ad 15 (60 * s + b) ≠ 30 := by have := h.hA.1 15 (60 * s + b); omega
    have i5 : mI M (ad 10 s) 5 = mI R 88 s := by rw [← ac_I (N := N) (v := cv) (w := cw) far.1 far.2]; exact h.ln5 hs
    have i9 : mI M (ad 10 s) 9 = v := by rw [← ac_I (N := N) (v := cv) (w := cw) far.1 far.2, ← h85]; exact h.ln9 hs
    have eb : mI M (ad 15 (60 * s + b)) = mI (ac M N cv cw) (ad 15 (60 * s + b)) := (ac_I farb.1 farb.2).symm
    have i0 : mI M (ad 15 (60 * s + b)) 0 = mI R 98 (60 * s + b) := by rw [eb]; exact h.lb0 hs hb1
    have i1 : mI M (ad 15 (60 * s + b)) 1 = mI R 99 (60 * s + b) := by rw [eb]; exact h.lb1 hs hb1
    have i12 : mI M (ad 15 (60 * s + b)) 12 = mI R 103 (60 * s + b) := by rw [eb]; exact h.lb12 hs hb1
    have i13 : mI M (ad 15 (60 * s + b)) 13 = mI R 104 (60 * s + b) := by rw [eb]; exact h.lb13 hs hb1
    obtain ⟨c1, c2, -⟩ := h.ise.2.2.2.2.2.1 s b (by omega) hb1
    obtain ⟨d1, d2, -⟩ := h.ise.2.2.2.2.2.2.1 (60 * s + b) (by omega)
    have cl := h.isc.closes
    rw [I_le, I_le, i0T, show (24 : Int32).toInt = 24 from rfl] at cl
    have hk := h.ipe.2.2.2.2.2
    have e9 : ∀ {x : Int32}, 0 ≤ x → x < mI R 39 9 → ix x < ix (mI R 39 9) := fun a b => ix_mo a b
    have hu := e9 c1.1 c1.2
    have hw := e9 c2.1 c2.2
    have U0 := c1.1
    have W0 := c2.1
    obtain ⟨u, eu⟩ : ∃ u, ix (mI R 98 (60 * s + b)) = u := ⟨_, rfl⟩
    obtain ⟨w, ew⟩ : ∃ w, ix (mI R 99 (60 * s + b)) = w := ⟨_, rfl⟩
    rw [eu] at hu
    rw [ew] at hw
    have spu := h.shp u hu
    have spw := h.shp w hw
    have faru : ad 1 u ≠ 31 ∧ ad 1 u ≠ 30 := by have := h.hA.1 1 u; omega
    have farw : ad 1 w ≠ 31 ∧ ad 1 w ≠ 30 := by have := h.hA.1 1 w; omega
    have pb : ∀ q, ad 15 (60 * s + b) ≠ ad 1 q := fun q e => by have := (h.hA.2 _ _ _ _ e).1; omega
    rw [I_le, I_le, i0T, show (99 : Int32).toInt = 99 from rfl] at d1
    rw [I_le, I_le, i0T, show (9999 : Int32).toInt = 9999 from rfl] at d2
    have hv2 := hv
    rw [I_le, I_le, i0T, show (9999 : Int32).toInt = 9999 from rfl] at hv2
    -- the gain
    have tsub : (v - mI R 104 (60 * s + b)).toInt = v.toInt - (mI R 104 (60 * s + b)).toInt := I_sub _ _ (by omega) (by omega) (by omega) (by omega)
    have pr := mul_ab (a := (mI R 103 (60 * s + b)).toInt) (b := (v - mI R 104 (60 * s + b)).toInt) (A := 99) (B := 9999) (by omega) (by omega) (by omega) (by omega) (by decide) (by decide)
    obtain ⟨gn, eg⟩ : ∃ gn : Int64, Int32.toInt64 (mI R 103 (60 * s + b)) * Int32.toInt64 (v - mI R 104 (60 * s + b)) = gn := ⟨_, rfl⟩
    have tg : gn.toInt = (mI R 103 (60 * s + b)).toInt * (v - mI R 104 (60 * s + b)).toInt := by
      rw [← eg, L_mul _ _ (by rw [T_L, T_L]; omega) (by rw [T_L, T_L]; omega), T_L, T_L]
    have gB : -989901 ≤ gn.toInt ∧ gn.toInt ≤ 989901 := by rw [tg]; omega
    clear pr tg
    obtain ⟨lo, el⟩ : ∃ lo : Int32, mI R 103 (60 * s + b) = lo := ⟨_, rfl⟩
    rw [el] at d1
    have eg2 : Int32.toInt64 lo * Int32.toInt64 (v - mI R 104 (60 * s + b)) = gn := by rw [← el]; exact eg
    -- the buyer
    have bu := hB u (by omega)
    have bw := hB w (by omega)
    have tpu : (mI R 47 u + lo).toInt = (mI R 47 u).toInt + lo.toInt := I_add _ _ (by omega) (by omega) (by omega) (by omega)
    have w1 := h.wPos hu (v := mI R 47 u + lo) (by unfold okP; rw [tpu]; omega)
    have tcu : (mL R 52 u + gn).toInt = (mL R 52 u).toInt + gn.toInt := L_add _ _ (by omega) (by omega) (by omega) (by omega)
    have w2 := w1.wL (i := u) hu (v := mL R 52 u + gn) (by unfold okL; rw [tcu]; show -(2000000000 * (mI R 39 71).toInt + 100000 * (k : Int)) ≤ _ ∧ _ ≤ 2000000000 * (mI R 39 71).toInt + 100000 * (k : Int); omega)
    -- the seller
    obtain ⟨pw, epw⟩ : ∃ pw : Int32, mI (sI R 47 u (mI R 47 u + lo)) 47 w = pw := ⟨_, rfl⟩
    obtain ⟨cw2, ecw⟩ : ∃ x : Int64, mL (sL R 52 u (mL R 52 u + gn)) 52 w = x := ⟨_, rfl⟩
    have pwv : (u = w ∧ pw.toInt = (mI R 47 w).toInt + lo.toInt) ∨ (u ≠ w ∧ pw.toInt = (mI R 47 w).toInt) := by
      rw [← epw, mI_sI]
      by_cases e : w = u
      · left; refine ⟨e.symm, ?_⟩; rw [if_pos ⟨rfl, e⟩, tpu, e]
      · right; refine ⟨fun q => e q.symm, ?_⟩; rw [if_neg (fun q => e q.2)]
    have cwv : (u = w ∧ cw2.toInt = (mL R 52 w).toInt + gn.toInt) ∨ (u ≠ w ∧ cw2.toInt = (mL R 52 w).toInt) := by
      rw [← ecw, mL_sL]
      by_cases e : w = u
      · left; refine ⟨e.symm, ?_⟩; rw [if_pos ⟨rfl, e⟩, tcu, e]
      · right; refine ⟨fun q => e q.symm, ?_⟩; rw [if_neg (fun q => e q.2)]
    have tpw : (pw - lo).toInt = pw.toInt - lo.toInt := I_sub _ _ (by omega) (by omega) (by omega) (by omega)
    have w3 := w2.wPos (i := w) hw (v := pw - lo) (by unfold okP; rw [tpw]; show -(5940 * (mI R 39 71).toInt) ≤ _ ∧ _ ≤ 5940 * (mI R 39 71).toInt; omega)
    have tcw : (cw2 - gn).toInt = cw2.toInt - gn.toInt := L_sub _ _ (by omega) (by omega) (by omega) (by omega)
    have w4 := w3.wL (i := w) hw (v := cw2 - gn) (by unfold okL; rw [tcw]; show -(2000000000 * (mI R 39 71).toInt + 100000 * (k : Int)) ≤ _ ∧ _ ≤ 2000000000 * (mI R 39 71).toInt + 100000 * (k : Int); omega)
    rw [← ac_sI faru.1 faru.2, ← ac_sL, ← ac_sI farw.1 farw.2, ← ac_sL] at w4
    obtain ⟨M', R', z1, z2, z3, z4, z5, z6, z7⟩ := ih m m2 (b + 1) _ _ (by exact hs) (by show b + 1 + d = ix (mI R 88 s); omega) (by omega) (by omega) w4 (by exact h85) (fun q hq => by
      have o := hB q hq
      refine ⟨?_, ?_⟩
      · show -(2000000000 * (mI R 39 71).toInt - 2000000000 + 100000 * (k : Int) + 1430000000 + 2000000 * ((b + 1 : Nat) : Int)) ≤ (if 52 = 52 ∧ q = w then cw2 - gn else if 52 = 52 ∧ q = u then mL R 52 u + gn else mL R 52 q).toInt ∧ (if 52 = 52 ∧ q = w then cw2 - gn else if 52 = 52 ∧ q = u then mL R 52 u + gn else mL R 52 q).toInt ≤ 2000000000 * (mI R 39 71).toInt - 2000000000 + 100000 * (k : Int) + 1430000000 + 2000000 * ((b + 1 : Nat) : Int)
        by_cases e : q = w
        · rw [if_pos ⟨rfl, e⟩, tcw]; omega
        · rw [if_neg (fun y => e y.2)]
          by_cases e2 : q = u
          · rw [if_pos ⟨rfl, e2⟩, tcu]; omega
          · rw [if_neg (fun y => e2 y.2)]; omega
      · show -(5940 * (mI R 39 71).toInt - 5940 + 99 * ((b + 1 : Nat) : Int)) ≤ (if 47 = 47 ∧ q = w then pw - lo else if 47 = 47 ∧ q = u then mI R 47 u + lo else mI R 47 q).toInt ∧ (if 47 = 47 ∧ q = w then pw - lo else if 47 = 47 ∧ q = u then mI R 47 u + lo else mI R 47 q).toInt ≤ 5940 * (mI R 39 71).toInt - 5940 + 99 * ((b + 1 : Nat) : Int)
        by_cases e : q = w
        · rw [if_pos ⟨rfl, e⟩, tpw]; omega
        · rw [if_neg (fun y => e y.2)]
          by_cases e2 : q = u
          · rw [if_pos ⟨rfl, e2⟩, tpu]; omega
          · rw [if_neg (fun y => e2 y.2)]; omega)
    refine ⟨M', R', ?_, ?_, z3, z4, z5, z6.trans ?_, z7⟩
    · rw [← z1]
      have k16 : ∀ {x : Int32}, 0 ≤ x → ix x < 16 → kA M 16 24 x = true := fun a b => kA_t h.sc.k16 a b
      have ru : mR M 16 u = some (ad 1 u) := spu.1
      have rw' : mR M 16 w = some (ad 1 w) := spw.1
      have ku : kO M (ad 1 u) 6 9 = true := kO_t spu.2.1
      have kw : kO M (ad 1 w) 6 9 = true := kO_t spw.2.1
      have kz : kO M (ad 10 s) 9 11 = true := kO_t sn.2.1
      have kb : kO M (ad 15 (60 * s + b)) 0 14 = true := kO_t bn.2
      have r3 : mR M (ad 10 s) 3 = some (ad 13 s) := sn.2.2.2.2.1
      have k13 : kA M (ad 13 s) 29 (Int32.ofNat b) = true := kA_t sn.2.2.2.2.2.2.2.1 B0 (by omega)
      have r13 : mR M (ad 13 s) b = some (ad 15 (60 * s + b)) := bn.1
      have x4 : mI M (ad 1 u) 4 = mI R 47 u := by rw [← ac_I (N := N) (v := cv) (w := cw) faru.1 faru.2]; exact h.lp4 hu
      have rb : ∀ {j : Nat} {x : Int32} (q : Nat), mI (sI M (ad 1 q) j x) (ad 15 (60 * s + b)) = mI M (ad 15 (60 * s + b)) := fun q => row_n (pb q)
      have rb2 : ∀ {j i i2 : Nat} {x y : Int32} {t : Int64} (q q' q2 : Nat), mI (sI (sL (sI M (ad 1 q) j x) (ad 1 q2) i2 t) (ad 1 q') i y) (ad 15 (60 * s + b)) = mI M (ad 15 (60 * s + b)) := fun q q' q2 => (row_n (pb q')).trans (row_n (pb q))
      have l3 : mL M (ad 1 u) 3 = mL R 52 u := h.llp3 hu
      have y4 : mI (sI M (ad 1 u) 4 (mI R 47 u + lo)) (ad 1 w) 4 = pw := by
        rw [← epw, mI_sI, mI_sI]
        by_cases e : w = u
        · rw [if_pos ⟨by rw [e], rfl⟩, if_pos ⟨rfl, e⟩]
        · rw [if_neg (fun q => e (h.hA.2 _ _ _ _ q.1).2), if_neg (fun q => e q.2), ← ac_I (N := N) (v := cv) (w := cw) farw.1 farw.2]
          exact h.lp4 hw
      have y3 : mL (sL (sI M (ad 1 u) 4 (mI R 47 u + lo)) (ad 1 u) 3 (mL R 52 u + gn)) (ad 1 w) 3 = cw2 := by
        rw [← ecw, mL_sL, mL_sL, mL_sI]
        by_cases e : w = u
        · rw [if_pos ⟨by rw [e], rfl⟩, if_pos ⟨rfl, e⟩]
        · rw [if_neg (fun q => e (h.hA.2 _ _ _ _ q.1).2), if_neg (fun q => e q.2)]
          exact h.llp3 hw
      show House_enter_B2 _ _ _ _ _ = _
      unfold House_enter_B2
      rw [hz]
      simp only [kz, ck_t, i5, if_neg nle, r3, nn_s, k13, B1, r13, kb, i12, i9, i13, el, eg2, i0, k16 U0 (show ix (mI R 98 (60 * s + b)) < 16 by omega), eu, ru, ku, x4, rb, mI_sL, kA_sI, mR_sI, kO_sI, mL_sI, l3, i1, kA_sL, mR_sL, kO_sL, k16 W0 (show ix (mI R 99 (60 * s + b)) < 16 by omega), ew, rw', kw, y4, rb2, y3, of_s1 b (by omega)]
    · rw [← z2]
      have ecw2 : mL (sL (sI R 47 u (mI R 47 u + lo)) 52 u (mL R 52 u + gn)) 52 w = cw2 := ecw
      have K98 : kA R 98 20 (Int32.ofNat (60 * s + b)) = true := kA_t h.sr.k98 X0 Xlt
      show Mod_clears_B63 _ _ _ _ _ _ = _
      unfold Mod_clears_B63
      simp only [h.o39, ck_t, h.sr.r39_79, nn_s, kA_t h.sr.k88 S0 (show ix (Int32.ofNat s) < 24 by omega), S1, if_neg nle, ex, h.sr.r39_94, kA_t h.sr.k103 X0 Xlt, h.sr.r39_95, kA_t h.sr.k104 X0 Xlt, X1, el, eg2, h.sr.r39_11, h.sr.r39_89, K98, kA_t h.sr.k47 U0 (show ix (mI R 98 (60 * s + b)) < 16 by omega), eu, mR_sI, h.sr.r39_16, kA_sI, row_n (show 98 ≠ 47 by decide), kA_t h.sr.k52 U0 (show ix (mI R 98 (60 * s + b)) < 16 by omega), mL_sI, mR_sL, kA_sL, h.sr.r39_90, kA_t h.sr.k99 X0 Xlt, mI_sL, row_n (show 99 ≠ 47 by decide), kA_t h.sr.k47 W0 (show ix (mI R 99 (60 * s + b)) < 16 by omega), ew, row_n (show 103 ≠ 47 by decide), epw, kA_t h.sr.k52 W0 (show ix (mI R 99 (60 * s + b)) < 16 by omega), ecw2, of_s1 b (by omega)]
    · rw [mI_sL, row_n (by have := h.hA.1 1 w; omega), mI_sL, row_n (by have := h.hA.1 1 u; omega)]
end ZE
