section M5
variable {k : Nat} {ad : Nat → Nat → Nat} {C R R1 : Mm}
theorem sim_rule (h : Rel k ad C R) (hk : k < 512) (a : Int32) : Sim k (Hall_rule C 8 a) (Mod_rule R 39 a) := by
  unfold Hall_rule Mod_rule
  simp only [ev_within, ev_in, bd_s, h.o8, h.o19, h.o39, ck_t, h.sc.r8_9, nn_s, h.l8_16]
  refine Sim.ite (fun h1 => ?_) (fun h1 => ?_)
  · obtain ⟨r, r1, r2, -⟩ := ev_force h
    rw [r1, r2, bd_s, bd_s]
    exact ⟨_, _, _, ad, rfl, rfl, h.up hk⟩
  · by_cases h2 : 0 ≤ a ∧ a ≤ 10
    · simp only [if_pos h2, i10, if_false]
      obtain ⟨r, r1, r2, r3⟩ := ask_hall h a h2.1 h2.2
      obtain ⟨R2, x1, x2⟩ := r3 R ExR.rf
      rw [r1, x2, bd_s, bd_s]
      exact ⟨_, _, _, ad, rfl, rfl, (h.tmp (ex_fct C R) x1).up hk⟩
    · simp only [if_neg h2, if_true]
      exact ⟨_, _, _, ad, rfl, rfl, h.up hk⟩
theorem L_mul (a b : Int64) (h1 : -4000000000000000000 ≤ a.toInt * b.toInt) (h2 : a.toInt * b.toInt ≤ 4000000000000000000) : (a * b).toInt = a.toInt * b.toInt := by
  rw [Int64.toInt_mul, Int.bmod_def]
  generalize a.toInt * b.toInt = x at *
  split <;> omega
theorem mul_b {a b A B : Int} (h1 : 0 ≤ a) (h2 : a ≤ A) (h3 : 0 ≤ b) (h4 : b ≤ B) : 0 ≤ a * b ∧ a * b ≤ A * B := ⟨Int.mul_nonneg h1 h3, Int.mul_le_mul h2 h4 h3 (by omega)⟩
def needR (r : Int32) (R : Mm) (i : Nat) : Int64 := Int32.toInt64 r * Int32.toInt64 (abI (mI R 47 i))
theorem abI_t (x : Int32) (h1 : -1000000000 ≤ x.toInt) : (abI x).toInt = if 0 ≤ x.toInt then x.toInt else -x.toInt := by
  have e : (0 ≤ x) = (0 ≤ x.toInt) := by rw [I_le, i0T]
  have hl := Int32.toInt_lt x
  unfold abI
  by_cases h : 0 ≤ x
  · rw [if_pos h, if_pos (by rw [← e]; exact h)]
  · rw [if_neg h, if_neg (by rw [← e]; exact h)]
    rw [e] at h
    rw [Int32.toInt_neg, Int.bmod_def]
    split <;> omega
theorem need_b (h : Rel k ad C R) {r : Int32} (h0 : 0 ≤ r) (h1 : r ≤ 99999) {i : Nat} (hi : i < 16) : 0 ≤ (needR r R i).toInt ∧ (needR r R i).toInt ≤ 20000000000 := by
  have q := (h.ipe.1 i hi).2.2.1
  have hc := h.isc.closes
  rw [I_le, I_le, i0T, show (24 : Int32).toInt = 24 from rfl] at hc
  rw [I_le, i0T] at h0
  rw [I_le, i99T] at h1
  have ea := abI_t (mI R 47 i) (by omega)
  have ab : 0 ≤ (abI (mI R 47 i)).toInt ∧ (abI (mI R 47 i)).toInt ≤ 142560 := by
    rw [ea]
    split <;> omega
  have m := mul_b h0 h1 ab.1 ab.2
  unfold needR
  rw [L_mul _ _ (by rw [T_L, T_L]; omega) (by rw [T_L, T_L]; omega), T_L, T_L]
  omega
theorem ev_need (h : Rel k ad C R) {i : Nat} (hi : i < ix (mI R 39 9)) (r : Int32) : Person_need C (ad 1 i) r = some (needR r R i, C) := by
  unfold Person_need
  rw [kO_t (h.shp i hi).2.1, ck_t, ev_abs, bd_s, h.lp4 hi]
  rfl
theorem p16 (h : Rel k ad C R) : ix (mI R 39 9) ≤ 16 := by have := h.isc.persons; grind [ix_t]
theorem ev_mneed (h : Rel k ad C R) {p r : Int32} {R2 : Mm} (hp : 0 ≤ p ∧ p < mI R 39 9) (hx : ExR R R2) (e : Mod_asked R 39 2 = some (r, R2)) : Mod_needOf R 39 p = some (needR r R (ix p), R2) := by
  have ha : ix p < 16 := ix_b 16 hp.1 hp.2 (by have := h.isc.persons; grind) (by decide)
  have h2 := h.tmp ExC.rf hx
  unfold Mod_needOf needR
  simp only [h.o39, ck_t, e, bd_s, h2.o39, h2.sr.r39_11, nn_s, kA_t h2.sr.k47 hp.1 ha, ev_mabs, hx.1 47 (by unfold tR; omega)]
theorem sim_told (h : Rel k ad C R) (hk : k < 512) (a b : Int32) : Sim k (Hall_told C 8 a b) (Mod_told R 39 a b) := by
  unfold Hall_told Mod_told
  simp only [h.o8, h.o39, ck_t, nn_s, ev_isP h, ev_mP h, bd_s]
  by_cases h1 : 0 ≤ a ∧ a < mI R 39 9
  · have ha : ix a < 16 := ix_b 16 h1.1 h1.2 (by have := h.isc.persons; grind) (by decide)
    have hi := ix_mo h1.1 h1.2
    have sh := h.shp (ix a) hi
    have s1 : ∀ r : Int32, Sim k (some (r, C)) (some (r, R)) := fun r => ⟨_, _, _, ad, rfl, rfl, h.up hk⟩
    simp only [if_pos h1, i10, if_false, h.o8, h.o39, h.sc.r8_1, kA_t h.sc.k16 h1.1 ha, sh.1, kO_t sh.2.1, nn_s, ck_t, h.lp0 hi, h.lp4 hi, h.lp5 hi, h.lp6 hi, h.lp7 hi, h.lp8 hi, h.sr.r39_10, h.sr.r39_11, h.sr.r39_12, h.sr.r39_13, h.sr.r39_14, h.sr.r39_15, kA_t h.sr.k46 h1.1 ha, kA_t h.sr.k47 h1.1 ha, kA_t h.sr.k48 h1.1 ha, kA_t h.sr.k49 h1.1 ha, kA_t h.sr.k50 h1.1 ha, kA_t h.sr.k51 h1.1 ha, ev_within, bd_s, h.l8_4]
    iterate 6 refine Sim.ite (fun _ => s1 _) (fun _ => ?_)
    refine Sim.ite (fun _ => ?_) (fun n6 => ?_)
    · obtain ⟨r, r1, r2, r3⟩ := ask_hall h 2 (by decide) (by decide)
      obtain ⟨R2, x1, x2⟩ := r3 R ExR.rf
      obtain ⟨R3, x3, x4⟩ := r3 R2 x1
      have hC := h.tmp (ex_fct C R) ExR.rf
      have h2 := h.tmp ExC.rf x1
      have e39 : mI R2 39 = mI R 39 := x1.1 39 (by unfold tR; omega)
      rw [r1, bd_s, kO_t (hC.shp (ix a) hi).2.1, ck_t, ev_need hC hi, bd_s, ev_mneed h h1 x1 x2, bd_s, ev_mneed h2 (by rw [e39]; exact h1) (show ExR R2 R3 from ⟨fun q w => (x3.1 q w).trans (x1.1 q w).symm, fun q w z => (x3.2.1 q w z).trans (x1.2.1 q w z).symm, x3.2.2.1.trans x1.2.2.1.symm, x3.2.2.2.trans x1.2.2.2.symm⟩) x4, h2.o39, ck_t, bd_s]
      unfold Math_min_L
      have en : needR r R2 (ix a) = needR r R (ix a) := by unfold needR; rw [x1.1 47 (by unfold tR; omega)]
      rw [en]
      by_cases c : needR r R (ix a) ≤ 2000000000
      · rw [if_neg (by grind), if_pos c, bd_s]
        exact ⟨_, _, _, ad, rfl, rfl, (h.tmp (ex_fct C R) x3).up hk⟩
      · rw [if_pos (by grind), if_neg c, bd_s]
        exact ⟨_, _, _, ad, rfl, rfl, (h.tmp (ex_fct C R) x1).up hk⟩
    · have hs := h.isc.stores
      by_cases c1 : b < 10
      · rw [if_neg (show ¬ (10 ≤ b ∧ b ≤ 9 + mI R 39 22) by grind), if_pos rfl, if_pos c1]
        exact s1 _
      · by_cases c2 : 10 + mI R 39 22 ≤ b
        · rw [if_neg (show ¬ (10 ≤ b ∧ b ≤ 9 + mI R 39 22) by grind), if_pos rfl, if_neg c1, if_pos c2]
          exact s1 _
        · have b0 : 0 ≤ b - 10 := by grind
          have b4 : ix (b - 10) < 4 := ix_b 4 b0 (show b - 10 < mI R 39 22 by grind) (by grind) (by decide)
          have ee : 4 * a + b - 10 = 4 * a + (b - 10) := by grind
          have hp := h.isc.persons
          obtain ⟨e1, e2⟩ := ix_m4 a (b - 10) h1.1 (by grind) b0 (by grind)
          rw [if_pos (show (10 ≤ b ∧ b ≤ 9 + mI R 39 22) by grind), if_neg (by decide), if_neg c1, if_neg c2, ee, sh.2.2.1, nn_s, kA_t sh.2.2.2.2.1 b0 b4, ck_t, h.lpaper hi b4, h.sr.r39_17, nn_s, kA_t h.sr.k53 e2 (by rw [e1]; omega), ck_t, e1]
          exact s1 _
  · simp only [if_neg h1, if_true]
    exact ⟨_, _, _, ad, rfl, rfl, h.up hk⟩
theorem sim_draw (h : Rel k ad C R) (hk : k < 512) (a b : Int32) : Sim k (Hall_draw C 8 a b) (Mod_draw R 39 a b) := by
  unfold Hall_draw Mod_draw
  have ht := h.isc.persons
  simp only [h.o8, h.o39, ck_t, nn_s, ev_isP h, ev_mP h, bd_s, ev_within, ev_in]
  by_cases h1 : 0 ≤ a ∧ a < mI R 39 9
  · have ha : ix a < 16 := ix_b 16 h1.1 h1.2 (by grind) (by decide)
    have hi := ix_mo h1.1 h1.2
    have sh := h.shp (ix a) hi
    simp only [if_pos h1, i10, if_false]
    by_cases h2 : 1 ≤ b ∧ b ≤ 99999
    · obtain ⟨r, r1, r2, r3⟩ := ask_hall h 2 (by decide) (by decide)
      obtain ⟨R2, x1, x2⟩ := r3 R ExR.rf
      have hC := h.tmp (ex_fct C R) x1
      have e39 : mI R2 39 = mI R 39 := x1.1 39 (by unfold tR; omega)
      have l52 : mL R2 52 = mL R 52 := x1.2.1 52 (by decide) (by decide)
      have en : needR r R2 (ix a) = needR r R (ix a) := by unfold needR; rw [x1.1 47 (by unfold tR; omega)]
      have hi2 : ix a < ix (mI R2 39 9) := by rw [e39]; exact hi
      have sh2 := hC.shp (ix a) hi2
      simp only [if_pos h2, i10, if_false, h.o8, h.o30, h.o39, ck_t, nn_s, h.sc.r8_1, kA_t h.sc.k16 h1.1 ha, sh.1, kO_t sh.2.1, h.sr.r39_16, kA_t h.sr.k52 h1.1 ha, r1, bd_s, ev_mneed h h1 x1 x2, kO_t sh2.2.1, ev_need hC hi2, en, h.llp3 hi]
      refine Sim.ite (fun c => ?_) (fun _ => ⟨_, _, _, ad, rfl, rfl, hC.up hk⟩)
      simp only [hC.o39, hC.sr.r39_16, kA_t hC.sr.k52 h1.1 ha, ck_t, nn_s, kO_sL, mR_sL, hC.o8, hC.o30, hC.sc.r8_10, lp_row hC.hA (show 30 < 116 by decide), hC.llp3 hi2, hC.ll30_6]
      refine ⟨_, _, _, ad, rfl, rfl, ?_⟩
      obtain ⟨p1, p2, p3, p4, p5, p6⟩ := hC.ipe
      refine Rel.mk5 hC.sc hC.sr hC.hA hC.lv.up hC.dt (DL.st hC.hA (hC.dl.st hC.hA 1 (ix a) 3 rfl (by decide) (hC.lv.in sh2.2.1 (by decide))) 130 0 6 rfl (by decide) (hC.lv.st (a := 30) (by decide))) hC.isc hC.ila ⟨fun i hi => ?_, p2, p3, p4, p5, by omega⟩ hC.shp hC.shs hC.ist hC.she hC.ied hC.shn hC.ise hC.ison hC.g5
      obtain ⟨q1, q2, q3, q4⟩ := p1 i hi
      refine ⟨q1, q2, q3, ?_⟩
      have hc := hC.isc.closes
      rw [I_le, I_le, i0T, show (24 : Int32).toInt = 24 from rfl] at hc
      obtain ⟨b1, b2⟩ := h2
      rw [I_le, show (1 : Int32).toInt = 1 from rfl] at b1
      rw [I_le, i99T] at b2
      have nb := need_b h r2.1 r2.2.1 ha
      have pa := (p1 (ix a) ha).2.2.2
      rw [L_le, L_sub _ _ (by rw [← l52]; omega) (by rw [← l52]; omega) (by rw [T_L]; omega) (by rw [T_L]; omega), T_L, ← l52] at c
      show -(2000000000 * (mI R2 39 71).toInt + 100000 * ((k + 1 : Nat) : Int)) ≤ (mL (sL (sL R2 52 (ix a) (mL R2 52 (ix a) - Int32.toInt64 b)) 39 20 (mL R2 39 20 + Int32.toInt64 b)) 52 i).toInt ∧ (mL (sL (sL R2 52 (ix a) (mL R2 52 (ix a) - Int32.toInt64 b)) 39 20 (mL R2 39 20 + Int32.toInt64 b)) 52 i).toInt ≤ 2000000000 * (mI R2 39 71).toInt + 100000 * ((k + 1 : Nat) : Int)
      rw [mL_sL, if_neg (fun q => absurd q.1 (by decide)), mL_sL]
      split
      · rename_i q
        rw [L_sub _ _ (by omega) (by omega) (by rw [T_L]; omega) (by rw [T_L]; omega), T_L]
        omega
      · omega
    · simp only [if_neg h2, if_true]
      exact ⟨_, _, _, ad, rfl, rfl, h.up hk⟩
  · simp only [if_neg h1, if_true]
    exact ⟨_, _, _, ad, rfl, rfl, h.up hk⟩
end M5
