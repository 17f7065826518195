section Q1
variable {k : Nat} {ad : Nat → Nat → Nat} {C R : Mm}
theorem ev_mh (h : Rel k ad C R) (hL : LRl 77600 C R) {p : Nat} (hp : p < ix (mI R 39 9)) : Hall_minuteHeard C 8 (Int32.ofNat p) = some (mI R 44 (ix (mI R 46 p)), C) ∧ kA R 44 20 (mI R 46 p) = true ∧ (mI R 44 (ix (mI R 46 p)) = -1 ∨ 0 ≤ mI R 44 (ix (mI R 46 p))) := by
  have hp16 := p16 h
  have e0 : (0 : Int32) ≤ Int32.ofNat p := of_nn p (by omega)
  have e1 : ix (Int32.ofNat p) = p := ix_of p (by omega)
  have sh := h.shp p hp
  have ht := (h.ipe.1 p (by omega)).1
  have t10 : ix (mI R 46 p) < 10 := ix_b 10 ht.1 ht.2 (by have := h.isc.towns; grind) (by decide)
  refine ⟨?_, kA_t h.sr.k44 ht.1 t10, ?_⟩
  · unfold Hall_minuteHeard
    simp only [h.o8, h.o9, ck_t, h.sc.r8_0, h.sc.r8_1, nn_s, kA_t h.sc.k16 e0 (show ix (Int32.ofNat p) < 16 by omega), e1, sh.1, kO_t sh.2.1, h.lp0 hp, ev_minute h hL ht, bd_s]
  · rcases (hL _ t10).1 with ⟨x1, x2⟩ | ⟨v, v1, v2, v3⟩
    · exact Or.inl x2
    · exact Or.inr (by rw [v3]; exact of_nn v (by omega))
theorem lp_ahead (h : Rel k ad C R) (hL : LRl 77600 C R) {p : Nat} (hp : p < ix (mI R 39 9)) (kk : Int32) (k34 : Nat → Int32 → Int32 → Mm → Option (Int32 × Mm)) : ∀ (d n m q a : Nat), q + d = ix (mI R 39 9) → d < n → d < m → a ≤ q → ∃ a', Hall_heardAhead_L11 n 8 (Int32.ofNat p) (mI R 44 (ix (mI R 46 p))) (Int32.ofNat a) (Int32.ofNat q) C = some (Int32.ofNat a', C) ∧ Mod_hears_L71 k34 m 39 kk (Int32.ofNat p) (mI R 44 (ix (mI R 46 p))) (Int32.ofNat a) (Int32.ofNat q) R = (if Int32.ofNat a' = kk then some (Int32.ofNat p, R) else k34 39 kk (Int32.ofNat (p + 1)) R) ∧ a' + (if q ≤ p then 1 else 0) ≤ a + d := by
  have hp16 := p16 h
  have hps := h.isc.persons
  intro d
  induction d with
  | zero =>
    intro n m q a hq hn hm ha
    obtain ⟨n, rfl⟩ : ∃ x, n = x + 1 := ⟨n - 1, by omega⟩
    obtain ⟨m, rfl⟩ : ∃ x, m = x + 1 := ⟨m - 1, by omega⟩
    have e : mI R 39 9 ≤ Int32.ofNat q := by grind [ix_t, of_t]
    refine ⟨a, ?_, ?_, by rw [if_neg (by omega)]; omega⟩
    · show Hall_heardAhead_B11 _ _ _ _ _ _ _ = _
      unfold Hall_heardAhead_B11
      rw [h.o8, ck_t, h.l8_2, if_pos e]
    · show Mod_hears_B71 _ _ _ _ _ _ _ _ _ = _
      unfold Mod_hears_B71 Mod_hears_J138
      rw [h.o39, ck_t, if_pos e, of_s1 p (by omega)]
  | succ d ih =>
    intro n m q a hq hn hm ha
    obtain ⟨n, rfl⟩ : ∃ x, n = x + 1 := ⟨n - 1, by omega⟩
    obtain ⟨m, rfl⟩ : ∃ x, m = x + 1 := ⟨m - 1, by omega⟩
    have e : ¬ mI R 39 9 ≤ Int32.ofNat q := by grind [ix_t, of_t]
    have e0 : (0 : Int32) ≤ Int32.ofNat q := of_nn q (by omega)
    have e1 : ix (Int32.ofNat q) = q := ix_of q (by omega)
    obtain ⟨v1, v2, v3⟩ := ev_mh h hL (show q < ix (mI R 39 9) by omega)
    have nx : ∀ a1, a1 ≤ a + 1 → (a1 = a + 1 → q ≠ p) → ∃ a', Hall_heardAhead_L11 n 8 (Int32.ofNat p) (mI R 44 (ix (mI R 46 p))) (Int32.ofNat a1) (Int32.ofNat (q + 1)) C = some (Int32.ofNat a', C) ∧ Mod_hears_L71 k34 m 39 kk (Int32.ofNat p) (mI R 44 (ix (mI R 46 p))) (Int32.ofNat a1) (Int32.ofNat (q + 1)) R = (if Int32.ofNat a' = kk then some (Int32.ofNat p, R) else k34 39 kk (Int32.ofNat (p + 1)) R) ∧ a' + (if q ≤ p then 1 else 0) ≤ a + (d + 1) := by
      intro a1 h1 h2
      obtain ⟨a', z1, z2, z3⟩ := ih n m (q + 1) a1 (by omega) (by omega) (by omega) (by omega)
      refine ⟨a', z1, z2, ?_⟩
      by_cases c : q ≤ p
      · by_cases c2 : q + 1 ≤ p
        · rw [if_pos c2] at z3
          rw [if_pos c]
          omega
        · rw [if_neg c2] at z3
          rw [if_pos c]
          have : a1 ≤ a := by
            apply Classical.byContradiction
            intro w
            exact h2 (by omega) (by omega)
          omega
      · rw [if_neg c]
        rw [if_neg (by omega)] at z3
        omega
    have o1 : Int32.ofNat a + 1 = Int32.ofNat (a + 1) := of_s1 a (by omega)
    show ∃ a', Hall_heardAhead_B11 (Hall_heardAhead_L11 n) 8 (Int32.ofNat p) (mI R 44 (ix (mI R 46 p))) (Int32.ofNat a) (Int32.ofNat q) C = some (Int32.ofNat a', C) ∧ Mod_hears_B71 k34 (Mod_hears_L71 k34 m) 39 kk (Int32.ofNat p) (mI R 44 (ix (mI R 46 p))) (Int32.ofNat a) (Int32.ofNat q) R = _ ∧ _
    unfold Hall_heardAhead_B11 Mod_hears_B71 Hall_heardAhead_J52 Hall_heardAhead_J55 Mod_hears_J120 Mod_hears_J123
    simp only [h.o8, h.o39, ck_t, h.l8_2, if_neg e, v1, bd_s, h.sr.r39_7, h.sr.r39_10, nn_s, kA_t h.sr.k46 e0 (show ix (Int32.ofNat q) < 16 by omega), e1, v2, of_s1 q (by omega), o1]
    rcases v3 with v3 | v3
    · rw [v3]
      simp only [if_true, if_pos (show (-1 : Int32) < 0 by decide)]
      exact nx a (by omega) (by omega)
    · rw [if_neg (show ¬ mI R 44 (ix (mI R 46 q)) = -1 by grind), if_neg (show ¬ mI R 44 (ix (mI R 46 q)) < 0 by grind)]
      by_cases c1 : mI R 44 (ix (mI R 46 q)) < mI R 44 (ix (mI R 46 p))
      · rw [if_pos c1, if_pos c1]
        exact nx (a + 1) (by omega) (fun _ w => by rw [w] at c1; grind)
      · rw [if_neg c1, if_neg c1]
        by_cases c2 : mI R 44 (ix (mI R 46 q)) = mI R 44 (ix (mI R 46 p))
        · rw [if_pos c2, if_pos c2]
          have le : (Int32.ofNat p ≤ Int32.ofNat q) ↔ p ≤ q := of_le _ _ (by omega) (by omega)
          by_cases c3 : p ≤ q
          · rw [if_pos (le.mpr c3), if_pos (le.mpr c3)]
            exact nx a (by omega) (by omega)
          · rw [if_neg (fun w => c3 (le.mp w)), if_neg (fun w => c3 (le.mp w))]
            exact nx (a + 1) (by omega) (fun _ w => c3 (by omega))
        · rw [if_neg c2, if_neg c2]
          exact nx a (by omega) (by omega)
theorem lp_hears (h : Rel k ad C R) (hL : LRl 77600 C R) (kk : Int32) (hk0 : 0 ≤ kk) : ∀ (d n m p : Nat), p + d = ix (mI R 39 9) → d < n → d < m → ∃ r, Hall_hears_L49 n 8 kk (Int32.ofNat p) C = some (r, C) ∧ Mod_hears_L34 m 39 kk (Int32.ofNat p) R = some (r, R) ∧ (mI R 39 9 ≤ kk → r = -1) := by
  have hp16 := p16 h
  have hps := h.isc.persons
  intro d
  induction d with
  | zero =>
    intro n m p hp hn hm
    obtain ⟨n, rfl⟩ : ∃ x, n = x + 1 := ⟨n - 1, by omega⟩
    obtain ⟨m, rfl⟩ : ∃ x, m = x + 1 := ⟨m - 1, by omega⟩
    have e : mI R 39 9 ≤ Int32.ofNat p := by grind [ix_t, of_t]
    refine ⟨-1, ?_, ?_, fun _ => rfl⟩
    · show Hall_hears_B49 _ _ _ _ _ = _
      unfold Hall_hears_B49
      rw [h.o8, ck_t, h.l8_2, if_pos e]
    · show Mod_hears_B34 _ _ _ _ _ = _
      unfold Mod_hears_B34
      rw [h.o39, ck_t, if_pos e]
  | succ d ih =>
    intro n m p hp hn hm
    obtain ⟨n, rfl⟩ : ∃ x, n = x + 1 := ⟨n - 1, by omega⟩
    obtain ⟨m, rfl⟩ : ∃ x, m = x + 1 := ⟨m - 1, by omega⟩
    have e : ¬ mI R 39 9 ≤ Int32.ofNat p := by grind [ix_t, of_t]
    have e0 : (0 : Int32) ≤ Int32.ofNat p := of_nn p (by omega)
    have e1 : ix (Int32.ofNat p) = p := ix_of p (by omega)
    have lt : p < ix (mI R 39 9) := by omega
    obtain ⟨v1, v2, v3⟩ := ev_mh h hL lt
    obtain ⟨r, y1, y2, y3⟩ := ih n m (p + 1) (by omega) (by omega) (by omega)
    obtain ⟨a', z1, z2, z3⟩ := lp_ahead h hL lt kk (Mod_hears_L34 m) (ix (mI R 39 9)) fu fu 0 0 (by omega) (fu_g (by omega)) (fu_g (by omega)) (by omega)
    have z1' : Hall_heardAhead_L11 fu 8 (Int32.ofNat p) (mI R 44 (ix (mI R 46 p))) 0 0 C = some (Int32.ofNat a', C) := z1
    have z2' : Mod_hears_L71 (Mod_hears_L34 m) fu 39 kk (Int32.ofNat p) (mI R 44 (ix (mI R 46 p))) 0 0 R = (if Int32.ofNat a' = kk then some (Int32.ofNat p, R) else Mod_hears_L34 m 39 kk (Int32.ofNat (p + 1)) R) := z2
    rw [if_pos (by omega)] at z3
    show ∃ r, Hall_hears_B49 (Hall_hears_L49 n) 8 kk (Int32.ofNat p) C = some (r, C) ∧ Mod_hears_B34 (Mod_hears_L34 m) 39 kk (Int32.ofNat p) R = some (r, R) ∧ _
    unfold Hall_hears_B49 Mod_hears_B34 Hall_hears_J81 Mod_hears_J138 Hall_heardAhead
    simp only [h.o8, h.o39, ck_t, h.l8_2, if_neg e, v1, bd_s, h.sr.r39_7, h.sr.r39_10, nn_s, kA_t h.sr.k46 e0 (show ix (Int32.ofNat p) < 16 by omega), e1, v2, of_s1 p (by omega), z1', z2']
    rcases v3 with v3 | v3
    · rw [v3]
      simp only [if_true, if_neg (show ¬ (0 : Int32) ≤ -1 by decide)]
      exact ⟨r, y1, y2, y3⟩
    · rw [if_neg (show ¬ mI R 44 (ix (mI R 46 p)) = -1 by grind), if_pos v3]
      by_cases c : Int32.ofNat a' = kk
      · rw [if_pos c, if_pos c]
        refine ⟨Int32.ofNat p, rfl, rfl, fun w => ?_⟩
        exfalso
        rw [← c] at w
        have : a' < ix (mI R 39 9) := by omega
        grind [ix_t, of_t]
      · rw [if_neg c, if_neg c]
        exact ⟨r, y1, y2, y3⟩
theorem sim_hears (h : Rel k ad C R) (hk : k < 512) (a b c : Int32) : Sim k (Hall_hears C 8 a b c) (Mod_hears R 39 a b c) := by
  unfold Hall_hears Mod_hears
  have hp16 := p16 h
  have hps := h.isc.persons
  simp only [h.o8, h.o9, h.o39, h.sc.r8_0, ck_t, nn_s, ev_has h, ev_isT h, bd_s, ev_within, ev_in, h.l8_2]
  by_cases h1 : 0 ≤ a ∧ a < mI R 39 2
  · by_cases h2 : 0 ≤ b ∧ b ≤ 57600
    · obtain ⟨C', R', y1, y2, y3, y4, y5⟩ := spread_sim h h1 h2
      have hh := h.tmp y3 y4
      have e39 : mI R' 39 = mI R 39 := y4.1 39 (by unfold tR; omega)
      by_cases h3 : 0 ≤ c
      · obtain ⟨r, r1, r2, r3⟩ := lp_hears hh y5 c h3 (ix (mI R' 39 9)) fu fu 0 (by omega) (fu_g (by rw [e39]; omega)) (fu_g (by rw [e39]; omega))
        have r1' : Hall_hears_L49 fu 8 c 0 C' = some (r, C') := r1
        have r2' : Mod_hears_L34 fu 39 c 0 R' = some (r, R') := r2
        by_cases h4 : c ≤ mI R 39 9 - 1
        · simp only [if_pos h1, if_pos h2, if_pos h3, if_pos (show 0 ≤ c ∧ c ≤ mI R 39 9 - 1 from ⟨h3, h4⟩), i10, if_false, h.o8, h.o9, h.o39, ck_t, y1, y2, bd_s, r1', r2']
          exact ⟨_, _, _, ad, rfl, rfl, hh.up hk⟩
        · have er : r = -1 := r3 (by rw [e39]; grind)
          subst er
          simp only [if_pos h1, if_pos h2, if_pos h3, if_neg (show ¬ (0 ≤ c ∧ c ≤ mI R 39 9 - 1) from fun w => h4 w.2), i10, if_false, if_true, h.o8, h.o9, h.o39, ck_t, y2, bd_s, r2']
          exact ⟨_, _, _, ad, rfl, rfl, (h.tmp ExC.rf y4).up hk⟩
      · simp only [if_pos h1, if_pos h2, if_neg h3, if_neg (show ¬ (0 ≤ c ∧ c ≤ mI R 39 9 - 1) from fun w => h3 w.1), i10, if_false, if_true, h.o8, h.o9, h.o39, ck_t, bd_s]
        exact ⟨_, _, _, ad, rfl, rfl, h.up hk⟩
    · simp only [if_pos h1, if_neg h2, i10, if_false, if_true]
      exact ⟨_, _, _, ad, rfl, rfl, h.up hk⟩
  · simp only [if_neg h1, if_true]
    exact ⟨_, _, _, ad, rfl, rfl, h.up hk⟩
end Q1
