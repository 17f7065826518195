section M2
variable {k : Nat} {ad : Nat → Nat → Nat} {C R : Mm}
theorem ix_m2 (a b : Int32) (ha : 0 ≤ a) (ha' : a ≤ 2000) (hb : 0 ≤ b) (hb' : b ≤ 3000) : ix (2 * a + b) = 2 * ix a + ix b ∧ 0 ≤ 2 * a + b := by
  have e : ∃ x : Int32, x = 2 * a + b := ⟨_, rfl⟩
  obtain ⟨x, hx⟩ := e
  rw [← hx]
  have h0 : 0 ≤ x := by grind
  have h1 := ix_t a ha
  have h2 := ix_t b hb
  have h3 := ix_t x h0
  have h4 : Lean.Grind.ToInt.toInt x = 2 * Lean.Grind.ToInt.toInt a + Lean.Grind.ToInt.toInt b := by grind
  refine ⟨?_, h0⟩
  show Int32.toNatClampNeg x = 2 * Int32.toNatClampNeg a + Int32.toNatClampNeg b
  omega
theorem ix_m4 (a b : Int32) (ha : 0 ≤ a) (ha' : a ≤ 2000) (hb : 0 ≤ b) (hb' : b ≤ 3000) : ix (4 * a + b) = 4 * ix a + ix b ∧ 0 ≤ 4 * a + b := by
  have e : ∃ x : Int32, x = 4 * a + b := ⟨_, rfl⟩
  obtain ⟨x, hx⟩ := e
  rw [← hx]
  have h0 : 0 ≤ x := by grind
  have h1 := ix_t a ha
  have h2 := ix_t b hb
  have h3 := ix_t x h0
  have h4 : Lean.Grind.ToInt.toInt x = 4 * Lean.Grind.ToInt.toInt a + Lean.Grind.ToInt.toInt b := by grind
  refine ⟨?_, h0⟩
  show Int32.toNatClampNeg x = 4 * Int32.toNatClampNeg a + Int32.toNatClampNeg b
  omega
theorem ix_m10 (a b : Int32) (ha : 0 ≤ a) (ha' : a ≤ 2000) (hb : 0 ≤ b) (hb' : b ≤ 3000) : ix (10 * a + b) = 10 * ix a + ix b ∧ 0 ≤ 10 * a + b := by
  have e : ∃ x : Int32, x = 10 * a + b := ⟨_, rfl⟩
  obtain ⟨x, hx⟩ := e
  rw [← hx]
  have h0 : 0 ≤ x := by grind
  have h1 := ix_t a ha
  have h2 := ix_t b hb
  have h3 := ix_t x h0
  have h4 : Lean.Grind.ToInt.toInt x = 10 * Lean.Grind.ToInt.toInt a + Lean.Grind.ToInt.toInt b := by grind
  refine ⟨?_, h0⟩
  show Int32.toNatClampNeg x = 10 * Int32.toNatClampNeg a + Int32.toNatClampNeg b
  omega
theorem ix_m16 (a b : Int32) (ha : 0 ≤ a) (ha' : a ≤ 2000) (hb : 0 ≤ b) (hb' : b ≤ 3000) : ix (16 * a + b) = 16 * ix a + ix b ∧ 0 ≤ 16 * a + b := by
  have e : ∃ x : Int32, x = 16 * a + b := ⟨_, rfl⟩
  obtain ⟨x, hx⟩ := e
  rw [← hx]
  have h0 : 0 ≤ x := by grind
  have h1 := ix_t a ha
  have h2 := ix_t b hb
  have h3 := ix_t x h0
  have h4 : Lean.Grind.ToInt.toInt x = 16 * Lean.Grind.ToInt.toInt a + Lean.Grind.ToInt.toInt b := by grind
  refine ⟨?_, h0⟩
  show Int32.toNatClampNeg x = 16 * Int32.toNatClampNeg a + Int32.toNatClampNeg b
  omega
theorem ix_m60 (a b : Int32) (ha : 0 ≤ a) (ha' : a ≤ 2000) (hb : 0 ≤ b) (hb' : b ≤ 3000) : ix (60 * a + b) = 60 * ix a + ix b ∧ 0 ≤ 60 * a + b := by
  have e : ∃ x : Int32, x = 60 * a + b := ⟨_, rfl⟩
  obtain ⟨x, hx⟩ := e
  rw [← hx]
  have h0 : 0 ≤ x := by grind
  have h1 := ix_t a ha
  have h2 := ix_t b hb
  have h3 := ix_t x h0
  have h4 : Lean.Grind.ToInt.toInt x = 60 * Lean.Grind.ToInt.toInt a + Lean.Grind.ToInt.toInt b := by grind
  refine ⟨?_, h0⟩
  show Int32.toNatClampNeg x = 60 * Int32.toNatClampNeg a + Int32.toNatClampNeg b
  omega
theorem ix_m120 (a b : Int32) (ha : 0 ≤ a) (ha' : a ≤ 2000) (hb : 0 ≤ b) (hb' : b ≤ 3000) : ix (120 * a + b) = 120 * ix a + ix b ∧ 0 ≤ 120 * a + b := by
  have e : ∃ x : Int32, x = 120 * a + b := ⟨_, rfl⟩
  obtain ⟨x, hx⟩ := e
  rw [← hx]
  have h0 : 0 ≤ x := by grind
  have h1 := ix_t a ha
  have h2 := ix_t b hb
  have h3 := ix_t x h0
  have h4 : Lean.Grind.ToInt.toInt x = 120 * Lean.Grind.ToInt.toInt a + Lean.Grind.ToInt.toInt b := by grind
  refine ⟨?_, h0⟩
  show Int32.toNatClampNeg x = 120 * Int32.toNatClampNeg a + Int32.toNatClampNeg b
  omega
theorem ix_le {a : Int32} (n : Nat) {m : Int32} (h0 : 0 ≤ a) (h : a < m) (hm : m = Int32.ofNat n) (hn : n < 2147483648) : ix a < n := ix_lo h0 h hm hn
/-- an int below a count that is small -/
theorem ix_b {a c : Int32} (n : Nat) (h0 : 0 ≤ a) (h : a < c) (hc : c ≤ Int32.ofNat n) (hn : n < 2147483648) : ix a < n := (ix_lt a n h0 hn).mpr (by grind)
theorem sim_town (h : Rel k ad C R) (hk : k < 512) : Sim k (Hall_town C 8) (Mod_town R 39) := by
  unfold Hall_town Mod_town Land_addTown
  have ht := h.isc.towns
  simp only [h.o8, h.o9, h.o39, h.sc.r8_0, ck_t, nn_s, h.l9_6, mI_sI]
  by_cases h1 : mI R 39 2 = 10
  · rw [if_pos h1, if_neg (by grind)]
    exact ⟨_, _, _, ad, rfl, rfl, h.up hk⟩
  · rw [if_neg h1, if_pos (by grind)]
    simp only [bd_s, and_self, if_true]
    refine ⟨_, _, _, ad, rfl, rfl, ?_⟩
    obtain ⟨i1, i2, i3, i4⟩ := h.isc
    obtain ⟨p1, p2⟩ := h.ipe.up hk
    refine Rel.mk5 h.sc h.sr h.hA h.lv.up (h.dt.st h.hA 109 0 6 rfl (by decide) (h.lv.st (a := 9) (by decide))) h.dl ⟨i1, i2, ?_, i4⟩ h.ila ⟨fun i hi => ?_, p2⟩ h.shp h.shs h.ist h.she h.ied h.shn h.ise h.ison (G5.s h.hA h.g5 (by decide))
    · show 1 ≤ mI R 39 2 + 1 ∧ mI R 39 2 + 1 ≤ 10
      grind
    · obtain ⟨q1, q2⟩ := p1 i hi
      refine ⟨?_, q2⟩
      show 0 ≤ mI R 46 i ∧ mI R 46 i < mI R 39 2 + 1
      grind
theorem sim_fog (h : Rel k ad C R) (hk : k < 512) (a b c : Int32) : Sim k (Hall_fog C 8 a b c) (Mod_fog R 39 a b c) := by
  unfold Hall_fog Mod_fog Land_setFog
  have ht := h.isc.towns
  simp only [h.o8, h.o9, h.o39, h.sc.r8_0, ck_t, nn_s, ev_has h, ev_isT h, bd_s]
  by_cases h1 : 0 ≤ a ∧ a < mI R 39 2
  · have ha : ix a < 10 := ix_b 10 h1.1 h1.2 (by grind) (by decide)
    simp only [if_pos h1, i10, if_false, h.sc.r9_0, h.sr.r39_3, nn_s, kA_t h.sc.k10 h1.1 ha, kA_t h.sr.k40 h1.1 ha, ck_t, kZ1, kZ0, ev_within, ev_in, bd_s]
    by_cases h2 : b = -1
    · simp only [if_pos h2, bd_s, kZ1, ck_t]
      refine ⟨_, _, _, ad, rfl, rfl, ?_⟩
      refine Rel.mk5 h.sc h.sr h.hA h.lv.up (h.dt.st h.hA 110 0 (ix a) rfl (by decide) (h.lv.st (a := 10) (by decide))) h.dl h.isc ⟨fun t ht => ?_, h.ila.2⟩ (h.ipe.up hk) h.shp h.shs h.ist h.she h.ied h.shn h.ise h.ison (G5.s h.hA h.g5 (by decide))
      obtain ⟨x, y⟩ := h.ila.1 t ht
      refine ⟨?_, y⟩
      rw [mI_sI]
      split
      · left; rfl
      · exact x
    · simp only [if_neg h2]
      by_cases h3 : 0 ≤ b ∧ b ≤ 1439
      · simp only [if_pos h3, i10, if_false]
        by_cases h4 : 0 ≤ c ∧ c ≤ 1439
        · simp only [h.o8, h.o9, h.o39, if_pos h4, i10, if_false, mR_sI, kA_sI, h.sc.r9_1, h.sr.r39_4, nn_s, kA_t h.sc.k11 h1.1 ha, kA_t h.sr.k41 h1.1 ha, ck_t, bd_s, kZ1]
          refine ⟨_, _, _, ad, rfl, rfl, ?_⟩
          refine Rel.mk5 h.sc h.sr h.hA h.lv.up (Dt.st h.hA (h.dt.st h.hA 110 0 (ix a) rfl (by decide) (h.lv.st (a := 10) (by decide))) 111 0 (ix a) rfl (by decide) (h.lv.st (a := 11) (by decide))) h.dl h.isc ⟨fun t ht => ?_, h.ila.2⟩ (h.ipe.up hk) h.shp h.shs h.ist h.she h.ied h.shn h.ise h.ison (G5.s h.hA (G5.s h.hA h.g5 (by decide)) (by decide))
          obtain ⟨x, y⟩ := h.ila.1 t ht
          simp only [mI_sI]
          refine ⟨?_, ?_⟩
          · rw [if_neg (fun q => absurd q.1 (by decide))]
            split
            · right; exact h3
            · exact x
          · split
            · exact h4
            · rw [if_neg (fun q => absurd q.1 (by decide))]
              exact y
        · simp only [if_neg h4, if_true, bd_s, kZ0, ck_t]
          exact ⟨_, _, _, ad, rfl, rfl, h.up hk⟩
      · simp only [if_neg h3, if_true, bd_s, kZ0, ck_t]
        exact ⟨_, _, _, ad, rfl, rfl, h.up hk⟩
  · simp only [if_neg h1, if_true, bd_s, kZ0, ck_t]
    exact ⟨_, _, _, ad, rfl, rfl, h.up hk⟩
theorem Rel.st_flag (h : Rel k ad C R) {n : Nat} {v : Int32} (hn : n < 100) (hv : 0 ≤ v ∧ v ≤ 200) : Rel k ad (sI C 12 n v) (sI R 42 n v) := by
  refine Rel.mk5 h.sc h.sr h.hA h.lv (h.dt.st h.hA 112 0 _ rfl (by decide) (h.lv.st (a := 12) (by decide))) h.dl h.isc ⟨h.ila.1, fun j hj => ?_, h.ila.2.2⟩ h.ipe h.shp h.shs h.ist h.she h.ied h.shn h.ise h.ison (G5.s h.hA h.g5 (by decide))
  have q := h.ila.2.1 j hj
  simp only [mI_sI]
  grind
theorem Rel.st_walk (h : Rel k ad C R) {n : Nat} {v : Int32} (hn : n < 100) (hv : 0 ≤ v ∧ v ≤ 2000) : Rel k ad (sI C 13 n v) (sI R 43 n v) := by
  refine Rel.mk5 h.sc h.sr h.hA h.lv (h.dt.st h.hA 113 0 _ rfl (by decide) (h.lv.st (a := 13) (by decide))) h.dl h.isc ⟨h.ila.1, fun j hj => ?_, h.ila.2.2⟩ h.ipe h.shp h.shs h.ist h.she h.ied h.shn h.ise h.ison (G5.s h.hA h.g5 (by decide))
  have q := h.ila.2.1 j hj
  simp only [mI_sI]
  grind
theorem sim_road (h : Rel k ad C R) (hk : k < 512) (a b c d : Int32) : Sim k (Hall_road C 8 a b c d) (Mod_road R 39 a b c d) := by
  unfold Hall_road Mod_road Land_setRoad
  have ht := h.isc.towns
  simp only [h.o8, h.o9, h.o39, h.sc.r8_0, ck_t, nn_s, ev_has h, ev_isT h, bd_s]
  by_cases h1 : 0 ≤ a ∧ a < mI R 39 2
  · have ha : ix a < 10 := ix_b 10 h1.1 h1.2 (by grind) (by decide)
    by_cases h2 : 0 ≤ b ∧ b < mI R 39 2
    · have hb : ix b < 10 := ix_b 10 h2.1 h2.2 (by grind) (by decide)
      obtain ⟨e1, e2⟩ := ix_m10 a b h1.1 (by grind) h2.1 (by grind)
      obtain ⟨e3, e4⟩ := ix_m10 b a h2.1 (by grind) h1.1 (by grind)
      have f1 : ix (10 * a + b) < 100 := by rw [e1]; omega
      have f2 : ix (10 * b + a) < 100 := by rw [e3]; omega
      simp only [if_pos h1, if_pos h2, i10, if_false, ev_within, ev_in, bd_s, Int32.mul_comm a 10, Int32.mul_comm b 10]
      by_cases h3 : a = b
      · simp only [if_pos h3, bd_s, kZ0, ck_t]
        exact ⟨_, _, _, ad, rfl, rfl, h.up hk⟩
      · simp only [if_neg h3]
        by_cases h4 : 0 ≤ c ∧ c ≤ 200
        · simp only [if_pos h4, i10, if_false]
          by_cases h5 : 1 ≤ d ∧ d ≤ 2000
          · simp only [h.o8, h.o9, h.o39, if_pos h5, i10, if_false, mR_sI, kA_sI, h.sc.r9_2, h.sc.r9_3, h.sr.r39_5, h.sr.r39_6, nn_s, kA_t h.sc.k12 e2 f1, kA_t h.sc.k12 e4 f2, kA_t h.sc.k13 e2 f1, kA_t h.sc.k13 e4 f2, kA_t h.sr.k42 e2 f1, kA_t h.sr.k42 e4 f2, kA_t h.sr.k43 e2 f1, kA_t h.sr.k43 e4 f2, ck_t, bd_s, kZ1]
            refine ⟨_, _, _, ad, rfl, rfl, ?_⟩
            exact ((((h.up hk).st_flag f1 h4).st_flag f2 h4).st_walk f1 ⟨by grind, h5.2⟩).st_walk f2 ⟨by grind, h5.2⟩
          · simp only [if_neg h5, if_true, bd_s, kZ0, ck_t]
            exact ⟨_, _, _, ad, rfl, rfl, h.up hk⟩
        · simp only [if_neg h4, if_true, bd_s, kZ0, ck_t]
          exact ⟨_, _, _, ad, rfl, rfl, h.up hk⟩
    · simp only [if_pos h1, if_neg h2, i10, if_false, if_true, bd_s, kZ0, ck_t]
      exact ⟨_, _, _, ad, rfl, rfl, h.up hk⟩
  · simp only [if_neg h1, if_true, bd_s, kZ0, ck_t]
    exact ⟨_, _, _, ad, rfl, rfl, h.up hk⟩
theorem sim_owe (h : Rel k ad C R) (hk : k < 512) (a b c : Int32) : Sim k (Hall_owe C 8 a b c) (Mod_owe R 39 a b c) := by
  unfold Hall_owe Mod_owe
  have ht := h.isc.persons
  simp only [h.o8, h.o39, ck_t, nn_s, ev_isP h, ev_mP h, bd_s]
  by_cases h1 : 0 ≤ a ∧ a < mI R 39 9
  · have ha : ix a < 16 := ix_b 16 h1.1 h1.2 (by grind) (by decide)
    by_cases h2 : 0 ≤ b ∧ b < mI R 39 9
    · have hb : ix b < 16 := ix_b 16 h2.1 h2.2 (by grind) (by decide)
      obtain ⟨e1, e2⟩ := ix_m16 a b h1.1 (by grind) h2.1 (by grind)
      have f1 : ix (16 * a + b) < 256 := by rw [e1]; omega
      have sh := h.shp (ix a) (ix_mo h1.1 h1.2)
      simp only [if_pos h1, if_pos h2, i10, if_false, ev_within, ev_in, bd_s]
      by_cases h3 : a = b
      · simp only [if_pos h3]
        exact ⟨_, _, _, ad, rfl, rfl, h.up hk⟩
      · simp only [if_neg h3]
        by_cases h4 : 0 ≤ c ∧ c ≤ 99999
        · simp only [h.o8, h.o9, h.o39, if_pos h4, i10, if_false, h.sc.r8_1, kA_t h.sc.k16 h1.1 ha, sh.1, kO_t sh.2.1, sh.2.2.2.1, kA_t sh.2.2.2.2.2 h2.1 hb, h.sr.r39_103, kA_t h.sr.k112 e2 f1, nn_s, ck_t]
          refine ⟨_, _, _, ad, rfl, rfl, ?_⟩
          rw [e1]
          obtain ⟨p1, p2, p3⟩ := h.ipe.up hk
          refine Rel.mk5 h.sc h.sr h.hA h.lv.up (h.dt.st h.hA 3 (ix a) (ix b) (cm3 _ _ hb) (by decide) (h.lv.in sh.2.2.2.2.2 (by decide))) h.dl h.isc h.ila ⟨p1, fun j hj => ?_, p3⟩ h.shp h.shs h.ist h.she h.ied h.shn h.ise h.ison (G5.p h.hA h.g5 (by decide))
          rw [mI_sI]
          split
          · exact h4
          · exact p2 j hj
        · simp only [if_neg h4, if_true]
          exact ⟨_, _, _, ad, rfl, rfl, h.up hk⟩
    · simp only [if_pos h1, if_neg h2, i10, if_false, if_true, bd_s]
      exact ⟨_, _, _, ad, rfl, rfl, h.up hk⟩
  · simp only [if_neg h1, if_true, bd_s]
    exact ⟨_, _, _, ad, rfl, rfl, h.up hk⟩
theorem sim_coins (h : Rel k ad C R) (hk : k < 512) (a : Int32) : Sim k (Hall_coins C 8 a) (Mod_coins R 39 a) := by
  unfold Hall_coins Mod_coins
  have ht := h.isc.persons
  simp only [h.o8, h.o30, h.o39, ck_t, nn_s, ev_isP h, ev_mP h, bd_s, h.sc.r8_10, h.ll30_4]
  by_cases h0 : a = -1
  · simp only [if_pos h0]
    exact ⟨_, _, _, ad, rfl, rfl, h.up hk⟩
  · by_cases h1 : 0 ≤ a ∧ a < mI R 39 9
    · have ha : ix a < 16 := ix_b 16 h1.1 h1.2 (by grind) (by decide)
      have hi := ix_mo h1.1 h1.2
      have sh := h.shp (ix a) hi
      simp only [if_neg h0, if_pos h1, i10, if_false, h.sc.r8_1, kA_t h.sc.k16 h1.1 ha, sh.1, kO_t sh.2.1, h.sr.r39_16, kA_t h.sr.k52 h1.1 ha, nn_s, ck_t, h.llp3 hi]
      exact ⟨_, _, _, ad, rfl, rfl, h.up hk⟩
    · simp only [if_neg h0, if_neg h1, if_true]
      exact ⟨_, _, _, ad, rfl, rfl, h.up hk⟩
theorem sim_fault (h : Rel k ad C R) (hk : k < 512) : Sim k (Hall_fault C 8) (Mod_fault R 39) := by
  unfold Hall_fault Mod_fault
  simp only [h.o8, h.o19, h.o39, h.sc.r8_9, ck_t, nn_s, h.l19_4]
  exact ⟨_, _, _, ad, rfl, rfl, h.up hk⟩
theorem sim_heard (h : Rel k ad C R) (hk : k < 512) (a : Int32) : Sim k (Hall_heard C 8 a) (Mod_heard R 39 a) := by
  unfold Hall_heard Mod_heard Law_minuteOf
  have ht := h.isc.texts
  simp only [h.o8, h.o19, h.o39, h.sc.r8_9, ck_t, nn_s, h.l19_3]
  by_cases h1 : a < 0
  · simp only [if_pos h1, bd_s]
    exact ⟨_, _, _, ad, rfl, rfl, h.up hk⟩
  · by_cases h2 : mI R 39 37 ≤ a
    · simp only [if_neg h1, if_pos h2, bd_s]
      exact ⟨_, _, _, ad, rfl, rfl, h.up hk⟩
    · have h1' : 0 ≤ a := by grind
      have h2' : a < mI R 39 37 := by grind
      have ha : ix a < 8 := ix_b 8 h1' h2' (by grind) (by decide)
      have hi := ix_mo h1' h2'
      have sh := h.she (ix a) hi
      simp only [if_neg h1, if_neg h2, h.sc.r19_1, kA_t h.sc.k28 h1' ha, sh.1, kO_t sh.2.1, h.sr.r39_40, kA_t h.sr.k68 h1' ha, nn_s, ck_t, h.le0 hi, bd_s]
      exact ⟨_, _, _, ad, rfl, rfl, h.up hk⟩
end M2
