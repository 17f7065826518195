section F1
variable {k : Nat} {ad : Nat → Nat → Nat} {C R : Mm}
theorem i2b_b (x : Int32) : -128 ≤ i2b x ∧ i2b x ≤ 127 := by
  have a := Int8.toInt_lt x.toInt8
  have b := Int8.le_toInt x.toInt8
  have e : (i2b x).toInt = x.toInt8.toInt := Int8.toInt_toInt32 _
  rw [I_le, I_le, e, show (-128 : Int32).toInt = -128 from rfl, show (127 : Int32).toInt = 127 from rfl]
  omega
theorem Rel.st_tape (h : Rel k ad C R) {v : Int32} (hv : -128 ≤ v ∧ v ≤ 127) (ht : mI R 39 54 < 500) : Rel k ad (sI (sI C 18 (ix (mI R 39 54)) v) 8 8 (mI R 39 54 + 1)) (sI (sI R 79 (ix (mI R 39 54)) v) 39 54 (mI R 39 54 + 1)) := by
  have hb := h.isc.taped
  have b5 : 0 ≤ mI R 39 54 + 1 ∧ mI R 39 54 + 1 ≤ 500 := by grind
  generalize mI R 39 54 + 1 = w at *
  generalize ix (mI R 39 54) = j
  obtain ⟨i1, i2, i3, i4, i5, i6, i7, i8, i9⟩ := h.isc
  have r1 : Rel k ad (sI C 18 j v) (sI R 79 j v) := Rel.mk5 h.sc h.sr h.hA h.lv (h.dt.st h.hA 118 0 j rfl (by decide) (h.lv.st (a := 18) (by decide))) h.dl h.isc ⟨h.ila.1, h.ila.2.1, fun i hi => by rw [mI_sI (b := 79)]; split; exact hv; exact h.ila.2.2 i hi⟩ h.ipe h.shp h.shs h.ist h.she h.ied h.shn h.ise h.ison (G5.s h.hA h.g5 (by decide))
  exact Rel.mk5 r1.sc r1.sr r1.hA r1.lv (r1.dt.st r1.hA 108 0 8 rfl (by decide) (r1.lv.st (a := 8) (by decide))) r1.dl ⟨i1, i2, i3, i4, i5, i6, i7, b5, i9⟩ r1.ila r1.ipe r1.shp r1.shs r1.ist r1.she r1.ied r1.shn r1.ise r1.ison (G5.s r1.hA r1.g5 (by decide))
theorem ab_1 (h : Rel k ad C R) (ht : mI R 39 54 < 500) (n : Nat) (v sh : Int32) (hs : 0 ≤ sh) : Hall_addBytes_L3 (n + 1) 8 v sh C = Hall_addBytes_L3 n 8 v (sh + -8) (sI (sI C 18 (ix (mI R 39 54)) (i2b (v >>> (sh &&& 31)))) 8 8 (mI R 39 54 + 1)) := by
  have hb := h.isc.taped
  have x5 : ix (mI R 39 54) < 500 := ix_b 500 hb.1 ht (by decide) (by decide)
  show Hall_addBytes_B3 _ _ _ _ _ = _
  unfold Hall_addBytes_B3
  have r : mI (sI C 18 (ix (mI R 39 54)) (i2b (v >>> (sh &&& 31)))) 8 8 = mI R 39 54 := h.l8_8
  simp only [if_neg (show ¬ sh < 0 by grind), h.o8, ck_t, h.l8_8, if_neg (show ¬ 500 ≤ mI R 39 54 by grind), h.sc.r8_7, nn_s, kA_t h.sc.k18 hb.1 x5, r]
theorem fd_1 (h : Rel k ad C R) (ht : mI R 39 54 < 500) (m : Nat) (a b c d e v sh x : Int32) (hB : ∀ K M, Mod_feed_B18 K 39 a b c d e x M = Mod_feed_J71 K 39 a b c d e x v M) (hs : (24 - 8 * rm x 4) &&& 31 = sh &&& 31) : Mod_feed_L18 (m + 1) 39 a b c d e x R = Mod_feed_L18 m 39 a b c d e (x + 1) (sI (sI R 79 (ix (mI R 39 54)) (i2b (v >>> (sh &&& 31)))) 39 54 (mI R 39 54 + 1)) := by
  have hb := h.isc.taped
  have x5 : ix (mI R 39 54) < 500 := ix_b 500 hb.1 ht (by decide) (by decide)
  show Mod_feed_B18 (Mod_feed_L18 m) 39 a b c d e x R = _
  rw [hB]
  unfold Mod_feed_J71
  have r : mI (sI R 79 (ix (mI R 39 54)) (i2b (v >>> (sh &&& 31)))) 39 54 = mI R 39 54 := rfl
  simp only [h.o39, ck_t, h.sr.r39_53, nn_s, kA_t h.sr.k79 hb.1 x5, hs, r]
theorem add4 (h : Rel k ad C R) (ht : mI R 39 54 ≤ 496) (a b c d e v x : Int32) (h0 : ∀ K M, Mod_feed_B18 K 39 a b c d e x M = Mod_feed_J71 K 39 a b c d e x v M) (h1 : ∀ K M, Mod_feed_B18 K 39 a b c d e (x + 1) M = Mod_feed_J71 K 39 a b c d e (x + 1) v M) (h2 : ∀ K M, Mod_feed_B18 K 39 a b c d e (x + 1 + 1) M = Mod_feed_J71 K 39 a b c d e (x + 1 + 1) v M) (h3 : ∀ K M, Mod_feed_B18 K 39 a b c d e (x + 1 + 1 + 1) M = Mod_feed_J71 K 39 a b c d e (x + 1 + 1 + 1) v M) (g0 : (24 - 8 * rm x 4) &&& 31 = (24 : Int32) &&& 31) (g1 : (24 - 8 * rm (x + 1) 4) &&& 31 = (16 : Int32) &&& 31) (g2 : (24 - 8 * rm (x + 1 + 1) 4) &&& 31 = (8 : Int32) &&& 31) (g3 : (24 - 8 * rm (x + 1 + 1 + 1) 4) &&& 31 = (0 : Int32) &&& 31) : ∃ C' R', Hall_addBytes C 8 v = some ((), C') ∧ (∀ m, Mod_feed_L18 (m + 4) 39 a b c d e x R = Mod_feed_L18 m 39 a b c d e (x + 1 + 1 + 1 + 1) R') ∧ Rel k ad C' R' ∧ mI R' 39 54 = mI R 39 54 + 4 := by
  have hb := h.isc.taped
  have t0 : mI R 39 54 < 500 := by grind
  have t1 : mI R 39 54 + 1 < 500 := by grind
  have t2 : mI R 39 54 + 1 + 1 < 500 := by grind
  have t3 : mI R 39 54 + 1 + 1 + 1 < 500 := by grind
  have t4 : mI R 39 54 + 1 + 1 + 1 + 1 = mI R 39 54 + 4 := by grind
  have q0 := h.st_tape (v := i2b (v >>> ((24 : Int32) &&& 31))) (i2b_b _) t0
  have a0 := fun n => ab_1 h t0 n v 24 (by decide)
  have f0 := fun m => fd_1 h t0 m a b c d e v 24 x h0 g0
  have e1 : mI (sI (sI R 79 (ix (mI R 39 54)) (i2b (v >>> ((24 : Int32) &&& 31)))) 39 54 (mI R 39 54 + 1)) 39 54 = mI R 39 54 + 1 := by rw [mI_sI, if_pos ⟨rfl, rfl⟩]
  generalize hC1 : sI (sI C 18 (ix (mI R 39 54)) (i2b (v >>> ((24 : Int32) &&& 31)))) 8 8 (mI R 39 54 + 1) = C1 at *
  generalize hR1 : sI (sI R 79 (ix (mI R 39 54)) (i2b (v >>> ((24 : Int32) &&& 31)))) 39 54 (mI R 39 54 + 1) = R1 at *
  have q1 := q0.st_tape (v := i2b (v >>> ((16 : Int32) &&& 31))) (i2b_b _) (by rw [e1]; exact t1)
  have a1 := fun n => ab_1 q0 (by rw [e1]; exact t1) n v 16 (by decide)
  have f1 := fun m => fd_1 q0 (by rw [e1]; exact t1) m a b c d e v 16 (x + 1) h1 g1
  have e2 : mI (sI (sI R1 79 (ix (mI R1 39 54)) (i2b (v >>> ((16 : Int32) &&& 31)))) 39 54 (mI R1 39 54 + 1)) 39 54 = mI R 39 54 + 1 + 1 := by rw [mI_sI, if_pos ⟨rfl, rfl⟩, e1]
  generalize hC2 : sI (sI C1 18 (ix (mI R1 39 54)) (i2b (v >>> ((16 : Int32) &&& 31)))) 8 8 (mI R1 39 54 + 1) = C2 at *
  generalize hR2 : sI (sI R1 79 (ix (mI R1 39 54)) (i2b (v >>> ((16 : Int32) &&& 31)))) 39 54 (mI R1 39 54 + 1) = R2 at *
  have q2 := q1.st_tape (v := i2b (v >>> ((8 : Int32) &&& 31))) (i2b_b _) (by rw [e2]; exact t2)
  have a2 := fun n => ab_1 q1 (by rw [e2]; exact t2) n v 8 (by decide)
  have f2 := fun m => fd_1 q1 (by rw [e2]; exact t2) m a b c d e v 8 (x + 1 + 1) h2 g2
  have e3 : mI (sI (sI R2 79 (ix (mI R2 39 54)) (i2b (v >>> ((8 : Int32) &&& 31)))) 39 54 (mI R2 39 54 + 1)) 39 54 = mI R 39 54 + 1 + 1 + 1 := by rw [mI_sI, if_pos ⟨rfl, rfl⟩, e2]
  generalize hC3 : sI (sI C2 18 (ix (mI R2 39 54)) (i2b (v >>> ((8 : Int32) &&& 31)))) 8 8 (mI R2 39 54 + 1) = C3 at *
  generalize hR3 : sI (sI R2 79 (ix (mI R2 39 54)) (i2b (v >>> ((8 : Int32) &&& 31)))) 39 54 (mI R2 39 54 + 1) = R3 at *
  have q3 := q2.st_tape (v := i2b (v >>> ((0 : Int32) &&& 31))) (i2b_b _) (by rw [e3]; exact t3)
  have a3 := fun n => ab_1 q2 (by rw [e3]; exact t3) n v 0 (by decide)
  have f3 := fun m => fd_1 q2 (by rw [e3]; exact t3) m a b c d e v 0 (x + 1 + 1 + 1) h3 g3
  have e4 : mI (sI (sI R3 79 (ix (mI R3 39 54)) (i2b (v >>> ((0 : Int32) &&& 31)))) 39 54 (mI R3 39 54 + 1)) 39 54 = mI R 39 54 + 4 := by rw [mI_sI, if_pos ⟨rfl, rfl⟩, e3, t4]
  refine ⟨_, _, ?_, fun m => ?_, q3, e4⟩
  · show Hall_addBytes_L3 (999995 + 1 + 1 + 1 + 1 + 1) 8 v 24 C = _
    rw [a0, show (24 : Int32) + -8 = 16 by decide, a1, show (16 : Int32) + -8 = 8 by decide, a2, show (8 : Int32) + -8 = 0 by decide, a3]
    show Hall_addBytes_B3 _ _ _ _ _ = _
    unfold Hall_addBytes_B3
    rw [if_pos (by decide)]
  · show Mod_feed_L18 (m + 1 + 1 + 1 + 1) 39 a b c d e x R = _
    rw [f0, f1, f2, f3]
theorem sim_feed (h : Rel k ad C R) (hk : k < 512) (a b c d e : Int32) : Sim k (Hall_feed C 8 a b c d e) (Mod_feed R 39 a b c d e) := by
  have s1 : ∀ r : Int32, Sim k (some (r, C)) (some (r, R)) := fun r => ⟨_, _, _, ad, rfl, rfl, h.up hk⟩
  have hb := h.isc.taped
  unfold Hall_feed Mod_feed
  simp only [h.o8, h.o39, ck_t, h.l8_8]
  refine Sim.ite (fun ht => ?_) (fun _ => s1 _)
  have t0 : mI R 39 54 ≤ 496 := by grind
  have t1 : mI R 39 54 + 4 ≤ 496 := by grind
  have t2 : mI R 39 54 + 4 + 4 ≤ 496 := by grind
  have t3 : mI R 39 54 + 4 + 4 + 4 ≤ 496 := by grind
  have t4 : mI R 39 54 + 4 + 4 + 4 + 4 ≤ 496 := by grind
  obtain ⟨C1, R1, x1, y1, r1, w1⟩ := add4 h t0 a b c d e a 0 (fun _ _ => rfl) (fun _ _ => rfl) (fun _ _ => rfl) (fun _ _ => rfl) (by decide) (by decide) (by decide) (by decide)
  obtain ⟨C2, R2, x2, y2, r2, w2⟩ := add4 r1 (by rw [w1]; exact t1) a b c d e b 4 (fun _ _ => rfl) (fun _ _ => rfl) (fun _ _ => rfl) (fun _ _ => rfl) (by decide) (by decide) (by decide) (by decide)
  obtain ⟨C3, R3, x3, y3, r3, w3⟩ := add4 r2 (by rw [w2, w1]; exact t2) a b c d e c 8 (fun _ _ => rfl) (fun _ _ => rfl) (fun _ _ => rfl) (fun _ _ => rfl) (by decide) (by decide) (by decide) (by decide)
  obtain ⟨C4, R4, x4, y4, r4, w4⟩ := add4 r3 (by rw [w3, w2, w1]; exact t3) a b c d e d 12 (fun _ _ => rfl) (fun _ _ => rfl) (fun _ _ => rfl) (fun _ _ => rfl) (by decide) (by decide) (by decide) (by decide)
  obtain ⟨C5, R5, x5, y5, r5, w5⟩ := add4 r4 (by rw [w4, w3, w2, w1]; exact t4) a b c d e e 16 (fun _ _ => rfl) (fun _ _ => rfl) (fun _ _ => rfl) (fun _ _ => rfl) (by decide) (by decide) (by decide) (by decide)
  have ref : Mod_feed_L18 fu 39 a b c d e 0 R = some (mI R5 39 54, R5) := by
    show Mod_feed_L18 (999979 + 1 + 4 + 4 + 4 + 4 + 4) 39 a b c d e 0 R = _
    rw [y1, show (0 : Int32) + 1 + 1 + 1 + 1 = 4 by decide, y2, show (4 : Int32) + 1 + 1 + 1 + 1 = 8 by decide, y3, show (8 : Int32) + 1 + 1 + 1 + 1 = 12 by decide, y4, show (12 : Int32) + 1 + 1 + 1 + 1 = 16 by decide, y5, show (16 : Int32) + 1 + 1 + 1 + 1 = 20 by decide]
    show Mod_feed_B18 _ _ _ _ _ _ _ _ _ = _
    unfold Mod_feed_B18
    rw [if_pos (by decide), r5.o39, ck_t]
  simp only [x1, x2, x3, x4, x5, bd_s, r1.o8, r2.o8, r3.o8, r4.o8, r5.o8, ck_t, ref, r5.l8_8]
  exact ⟨_, _, _, ad, rfl, rfl, r5.up hk⟩
end F1
