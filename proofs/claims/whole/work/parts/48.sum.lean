section M3
variable {k : Nat} {ad : Nat → Nat → Nat} {C R : Mm}
theorem L_add (a b : Int64) (h1 : -4000000000000000000 ≤ a.toInt) (h2 : a.toInt ≤ 4000000000000000000) (h3 : -4000000000000000000 ≤ b.toInt) (h4 : b.toInt ≤ 4000000000000000000) : (a + b).toInt = a.toInt + b.toInt := by
  rw [Int64.toInt_add, Int.bmod_def]
  split <;> omega
theorem L_sub (a b : Int64) (h1 : -4000000000000000000 ≤ a.toInt) (h2 : a.toInt ≤ 4000000000000000000) (h3 : -4000000000000000000 ≤ b.toInt) (h4 : b.toInt ≤ 4000000000000000000) : (a - b).toInt = a.toInt - b.toInt := by
  rw [Int64.toInt_sub, Int.bmod_def]
  split <;> omega
theorem I_add (a b : Int32) (h1 : -1000000000 ≤ a.toInt) (h2 : a.toInt ≤ 1000000000) (h3 : -1000000000 ≤ b.toInt) (h4 : b.toInt ≤ 1000000000) : (a + b).toInt = a.toInt + b.toInt := by
  rw [Int32.toInt_add, Int.bmod_def]
  split <;> omega
theorem I_sub (a b : Int32) (h1 : -1000000000 ≤ a.toInt) (h2 : a.toInt ≤ 1000000000) (h3 : -1000000000 ≤ b.toInt) (h4 : b.toInt ≤ 1000000000) : (a - b).toInt = a.toInt - b.toInt := by
  rw [Int32.toInt_sub, Int.bmod_def]
  split <;> omega
theorem I_le {a b : Int32} : a ≤ b ↔ a.toInt ≤ b.toInt := Int32.le_iff_toInt_le
theorem I_lt {a b : Int32} : a < b ↔ a.toInt < b.toInt := Int32.lt_iff_toInt_lt
theorem L_le {a b : Int64} : a ≤ b ↔ a.toInt ≤ b.toInt := Int64.le_iff_toInt_le
theorem L_lt {a b : Int64} : a < b ↔ a.toInt < b.toInt := Int64.lt_iff_toInt_lt
theorem T_L (a : Int32) : (Int32.toInt64 a).toInt = a.toInt := by simp
theorem ix_I {a : Int32} (h : 0 ≤ a) : (ix a : Int) = a.toInt := ix_t a h
theorem lp_row {c i j : Nat} {v : Int64} (hA : Ad ad) {x : Nat} (hx : x < 116) (y : Nat) : mL (sL C (ad c i) j v) x y = mL C x y := by
  rw [mL_sL, if_neg (fun q => by have := hA.1 c i; omega)]
theorem Sim.ite {ρ : Type} {c : Prop} [inst : Decidable c] {o1 o2 p1 p2 : Option (ρ × Mm)} (h1 : c → Sim k o1 p1) (h2 : ¬ c → Sim k o2 p2) : Sim k (if c then o1 else o2) (if c then p1 else p2) := by
  by_cases hc : c
  · rw [if_pos hc, if_pos hc]; exact h1 hc
  · rw [if_neg hc, if_neg hc]; exact h2 hc
theorem fu_g {n : Nat} (h : n ≤ 1000) : n < fu := by unfold fu; omega
theorem sim_pay (h : Rel k ad C R) (hk : k < 512) (a b : Int32) : Sim k (Hall_pay C 8 a b) (Mod_pay R 39 a b) := by
  unfold Hall_pay Mod_pay
  have ht := h.isc.persons
  simp only [h.o8, h.o39, ck_t, nn_s, ev_isP h, ev_mP h, bd_s, ev_within, ev_in]
  by_cases h1 : 0 ≤ a ∧ a < mI R 39 9
  · have ha : ix a < 16 := ix_b 16 h1.1 h1.2 (by grind) (by decide)
    have hi := ix_mo h1.1 h1.2
    have sh := h.shp (ix a) hi
    simp only [if_pos h1, i10, if_false]
    by_cases h2 : 1 ≤ b ∧ b ≤ 99999
    · simp only [if_pos h2, i10, if_false, h.o8, h.o30, h.o39, ck_t, nn_s, h.sc.r8_1, kA_t h.sc.k16 h1.1 ha, sh.1, kO_t sh.2.1, h.sr.r39_16, kA_t h.sr.k52 h1.1 ha, mR_sL, h.sc.r8_10, kO_sL, lp_row h.hA (show 30 < 116 by decide), h.llp3 hi, h.ll30_5]
      refine ⟨_, _, _, ad, rfl, rfl, ?_⟩
      obtain ⟨p1, p2, p3, p4, p5, p6⟩ := h.ipe
      refine Rel.mk5 h.sc h.sr h.hA h.lv.up h.dt (DL.st h.hA (h.dl.st h.hA 1 (ix a) 3 rfl (by decide) (h.lv.in sh.2.1 (by decide))) 130 0 5 rfl (by decide) (h.lv.st (a := 30) (by decide))) h.isc h.ila ⟨fun i hi => ?_, p2, p3, p4, p5, by omega⟩ h.shp h.shs h.ist h.she h.ied h.shn h.ise h.ison h.g5
      obtain ⟨q1, q2, q3, q4⟩ := p1 i hi
      refine ⟨q1, q2, q3, ?_⟩
      have hc := h.isc.closes
      rw [I_le, I_le] at hc
      obtain ⟨b1, b2⟩ := h2
      rw [I_le] at b1 b2
      have x1 : (0 : Int32).toInt = 0 := rfl
      have x2 : (24 : Int32).toInt = 24 := rfl
      have x3 : (1 : Int32).toInt = 1 := rfl
      have x4 : (99999 : Int32).toInt = 99999 := rfl
      rw [x1, x2] at hc
      rw [x3] at b1
      rw [x4] at b2
      show -(2000000000 * (mI R 39 71).toInt + 100000 * ((k + 1 : Nat) : Int)) ≤ (mL (sL (sL R 52 (ix a) (mL R 52 (ix a) + Int32.toInt64 b)) 39 19 (mL R 39 19 + Int32.toInt64 b)) 52 i).toInt ∧ (mL (sL (sL R 52 (ix a) (mL R 52 (ix a) + Int32.toInt64 b)) 39 19 (mL R 39 19 + Int32.toInt64 b)) 52 i).toInt ≤ 2000000000 * (mI R 39 71).toInt + 100000 * ((k + 1 : Nat) : Int)
      rw [mL_sL, if_neg (fun q => absurd q.1 (by decide)), mL_sL]
      split
      · rename_i q
        rw [← q.2]
        rw [L_add _ _ (by omega) (by omega) (by rw [T_L]; omega) (by rw [T_L]; omega), T_L]
        omega
      · omega
    · simp only [if_neg h2, if_true]
      exact ⟨_, _, _, ad, rfl, rfl, h.up hk⟩
  · simp only [if_neg h1, if_true]
    exact ⟨_, _, _, ad, rfl, rfl, h.up hk⟩
/-- the latest close -/
def lcl (R : Mm) : Int32 := if mI R 39 71 = 0 then 0 else mI R 91 (ix (mI R 39 71 - 1))
theorem ev_lcl (h : Rel k ad C R) : House_latestClose C 30 = some (lcl R, C) := by
  unfold House_latestClose lcl
  have hc := h.isc.closes
  simp only [h.o30, ck_t, h.l30_2, h.sc.r30_0, nn_s, h.la31]
  by_cases h1 : mI R 39 71 = 0
  · rw [if_pos h1, if_pos (by grind)]
  · have h2 : 0 ≤ mI R 39 71 - 1 := by grind
    rw [if_neg h1, if_neg (by grind), kA_t h.sc.k31 h2 (ix_b 24 h2 (show mI R 39 71 - 1 < 24 by grind) (by decide) (by decide)), ck_t]
theorem sim_count (h : Rel k ad C R) (hk : k < 512) (a : Int32) : Sim k (Hall_count C 8 a) (Mod_count R 39 a) := by
  unfold Hall_count Mod_count
  have hc := h.isc.closes
  have ho := h.isc.on
  have e6 : ¬ mI R 39 71 = 0 → kA R 91 20 (mI R 39 71 - 1) = true := fun h1 => kA_t h.sr.k91 (show 0 ≤ mI R 39 71 - 1 by grind) (ix_b 24 (by grind) (show mI R 39 71 - 1 < 24 by grind) (by decide) (by decide))
  simp only [h.o8, h.o9, h.o19, h.o30, h.o39, ck_t, h.sc.r8_0, h.sc.r8_9, h.sc.r8_10, nn_s, ev_lcl h, bd_s, h.l8_16, h.l8_17, h.l9_6, h.l8_2, h.l8_4, h.l8_5, h.l8_6, h.l8_8, h.l30_2, h.l30_3, h.l19_3, h.l8_13, h.sr.r39_82, h.shn.2.1]
  have s1 : ∀ r : Int32, Sim k (some (r, C)) (some (r, R)) := fun r => ⟨_, _, _, ad, rfl, rfl, h.up hk⟩
  by_cases h6 : a = 6
  · subst h6
    rw [if_neg (by decide), if_neg (by decide), if_neg (by decide), if_neg (by decide), if_neg (by decide), if_neg (by decide), if_pos rfl, if_neg (by decide), if_neg (by decide), if_neg (by decide), if_neg (by decide), if_neg (by decide), if_neg (by decide), if_pos rfl]
    unfold lcl
    by_cases h1 : mI R 39 71 = 0
    · rw [if_pos h1, if_pos h1]; exact s1 _
    · rw [if_neg h1, if_neg h1, e6 h1, ck_t]; exact s1 _
  · by_cases h13 : a = 13
    · subst h13
      rcases ho with e | e
      · rw [e]
        exact s1 0
      · rw [e]
        exact s1 1
    · simp only [if_neg h6, if_neg h13]
      repeat (refine Sim.ite (fun _ => s1 _) (fun _ => ?_))
      exact s1 _
/-- sums over persons, as both sides make them -/
theorem lp_sum (h : Rel k ad C R) : ∀ (d n m j : Nat) (acc : Int64), j + d = ix (mI R 39 9) → d < n → d < m → ∃ r, House_allCoins_L8 n 16 (mI R 39 9) acc (Int32.ofNat j) C = some (r, C) ∧ Mod_sum_L36 m 39 acc (Int32.ofNat j) R = some (r, R) := by
  have hp := h.isc.persons
  intro d
  induction d with
  | zero =>
    intro n m j acc hj hn hm
    obtain ⟨n, rfl⟩ : ∃ x, n = x + 1 := ⟨n - 1, by omega⟩
    obtain ⟨m, rfl⟩ : ∃ x, m = x + 1 := ⟨m - 1, by omega⟩
    have e : mI R 39 9 ≤ Int32.ofNat j := by grind [ix_t, of_t]
    refine ⟨acc, ?_, ?_⟩
    · show House_allCoins_B8 _ _ _ _ _ _ = _
      unfold House_allCoins_B8
      rw [if_pos e]
    · show Mod_sum_B36 _ _ _ _ _ = _
      unfold Mod_sum_B36
      rw [h.o39, ck_t, if_pos e]
  | succ d ih =>
    intro n m j acc hj hn hm
    obtain ⟨n, rfl⟩ : ∃ x, n = x + 1 := ⟨n - 1, by omega⟩
    obtain ⟨m, rfl⟩ : ∃ x, m = x + 1 := ⟨m - 1, by omega⟩
    have b : ix (mI R 39 9) ≤ 16 := by grind [ix_t]
    have e : ¬ mI R 39 9 ≤ Int32.ofNat j := by grind [ix_t, of_t]
    have e0 : (0 : Int32) ≤ Int32.ofNat j := of_nn j (by omega)
    have e1 : ix (Int32.ofNat j) = j := ix_of j (by omega)
    have sh := h.shp j (by omega)
    obtain ⟨r, x1, x2⟩ := ih n m (j + 1) (acc + mL R 52 j) (by omega) (by omega) (by omega)
    refine ⟨r, ?_, ?_⟩
    · show House_allCoins_B8 _ _ _ _ _ _ = _
      unfold House_allCoins_B8
      simp only [if_neg e, kA_t h.sc.k16 e0 (by rw [e1]; omega), ck_t, e1, sh.1, nn_s, kO_t sh.2.1, h.llp3 (show j < ix (mI R 39 9) by omega), of_s1 j (by omega)]
      exact x1
    · show Mod_sum_B36 _ _ _ _ _ = _
      unfold Mod_sum_B36
      simp only [h.o39, ck_t, if_neg e, h.sr.r39_16, nn_s, kA_t h.sr.k52 e0 (by rw [e1]; omega), e1, of_s1 j (by omega)]
      exact x2
theorem sim_sum (h : Rel k ad C R) (hk : k < 512) (a : Int32) : Sim k (Hall_sum C 8 a) (Mod_sum R 39 a) := by
  unfold Hall_sum Mod_sum House_allCoins
  have hp := h.isc.persons
  simp only [h.o8, h.o30, h.o39, ck_t, h.sc.r8_1, h.sc.r8_10, nn_s, h.l8_2, h.ll30_4, h.ll30_5, h.ll30_6]
  have b16 : ix (mI R 39 9) ≤ 16 := by grind [ix_t]
  obtain ⟨r, x1, x2⟩ := lp_sum h (ix (mI R 39 9)) fu fu 0 (mL R 39 18) (by omega) (fu_g (by omega)) (fu_g (by omega))
  have s1 : ∀ r : Int64, Sim k (some (r, C)) (some (r, R)) := fun r => ⟨_, _, _, ad, rfl, rfl, h.up hk⟩
  by_cases h0 : a = 0
  · rw [if_pos h0, if_pos h0]; exact s1 _
  · by_cases h1 : a = 1
    · rw [if_neg h0, if_neg h0, if_pos h1, if_pos h1]; exact s1 _
    · by_cases h2 : a = 2
      · rw [if_neg h0, if_neg h0, if_neg h1, if_neg h1, if_pos h2, if_pos h2]
        have y1 : House_allCoins_L8 fu 16 (mI R 39 9) (mL R 39 18) 0 C = some (r, C) := x1
        have y2 : Mod_sum_L36 fu 39 (mL R 39 18) 0 R = some (r, R) := x2
        rw [y1, y2]
        exact s1 _
      · rw [if_neg h0, if_neg h0, if_neg h1, if_neg h1, if_neg h2, if_neg h2]; exact s1 _
end M3
