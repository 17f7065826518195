section Q4
variable {k : Nat} {ad : Nat → Nat → Nat} {C R : Mm}
theorem sI_self (M : Mm) (a j : Nat) : sI M a j (mI M a j) = M := by
  have e : (fun b x => if b = a ∧ x = j then mI M a j else mI M b x) = M.1 := by
    funext b x
    by_cases q : b = a ∧ x = j
    · rw [if_pos q, q.1, q.2]; rfl
    · rw [if_neg q]; rfl
  show ((fun b x => if b = a ∧ x = j then mI M a j else mI M b x), mL M, mR M, mK M, mZ M, mS M) = M
  rw [e]
  rfl
/-- one side denies, of a bargain that is there -/
theorem deny_b (h : Rel k ad C R) {s b : Nat} (hs : s < ix (mI R 39 70)) (hb : b < ix (mI R 88 s)) {z : Int32} (hz : z = 0 ∨ z = 1) : ∃ r C' R', (r = 0 ∨ r = 1) ∧ Bargain_denyBy C (ad 15 (60 * s + b)) z = some (r, C') ∧ Mod_deny_J31 39 (Int32.ofNat (60 * s + b)) (if z = 0 then 2 else 1) R = some (r, R') ∧ Rel k ad C' R' := by
  have hN := n24 h
  have h60 := n60 h (show s < 24 by omega)
  have sk := ((h.shn.1 s hs).2.2.2.2.2.2.2.2.2 b hb).2
  obtain ⟨d1, d2, d3, d4⟩ := h.den s b hs hb
  have n0 : (0 : Int32) ≤ Int32.ofNat (60 * s + b) := of_nn _ (by omega)
  have n1 : ix (Int32.ofNat (60 * s + b)) = 60 * s + b := ix_of _ (by omega)
  unfold Bargain_denyBy Bargain_denyBy_J23 Bargain_denyBy_J35 Bargain_isDenied Mod_deny_J31 Mod_deny_J64
  simp only [kO_t sk, ck_t, kO_sI, h.o39, h.sr.r39_96, h.sr.r39_97, mR_sI, kA_sI, nn_s, kA_t h.sr.k105 n0 (show ix (Int32.ofNat (60 * s + b)) < 1440 by omega), kA_t h.sr.k106 n0 (show ix (Int32.ofNat (60 * s + b)) < 1440 by omega), n1]
  have a10 : (0 : Int32) &&& 2 = 0 := by decide
  have a11 : (0 : Int32) &&& 1 = 0 := by decide
  -- the four states of the flags, for each side
  rcases hz with hz | hz <;> subst hz
  · rcases d2 with d2 | d2
    · rcases d1 with d1 | d1
      · have e5 : mI R 105 (60 * s + b) = 0 := by rw [d3, d1, d2]; decide
        have kk : kZ 0 = true := rfl
        simp only [d1, d2, e5, if_true, bd_s, kO_t sk, ck_t, kk, a10, kO_sI]
        refine ⟨1, _, _, Or.inr rfl, rfl, rfl, ?_⟩
        have e : mI (sI R 106 (60 * s + b) 2) 105 (60 * s + b) + 2 = 2 := by rw [mI_sI, if_neg (fun q => absurd q.1 (by decide)), e5]; decide
        rw [e]
        refine h.st_den hs hb rfl rfl rfl rfl rfl (fun a j q => ?_) ?_
        · rw [mI_sI, if_neg (fun w => q ⟨w.1, Or.inr (Or.inl w.2)⟩), mI_sI, if_neg (fun w => q ⟨w.1, Or.inr (Or.inr w.2)⟩)]
        · simp only [mI_sI, d1]
          simp
      · have e5 : mI R 105 (60 * s + b) = 1 := by rw [d3, d1, d2]; decide
        simp only [d1, d2, e5, if_true, if_false, i10, bd_s, kO_t sk, ck_t, show ((1 : Int32) &&& 2 = 0) = True from eq_true (by decide)]
        refine ⟨1, _, _, Or.inr rfl, rfl, rfl, ?_⟩
        have q := h.st_den (C' := sI C (ad 15 (60 * s + b)) 10 1) (d := 1 + 2) (f := mI R 106 (60 * s + b)) hs hb rfl rfl rfl rfl rfl (fun a j q => by rw [mI_sI, if_neg (fun w => q ⟨w.1, Or.inr (Or.inl w.2)⟩)]) (by
          simp only [mI_sI, d1]
          refine ⟨by simp, by simp, by simp, fun _ => ?_⟩
          have := d4 (by rw [e5]; decide)
          simpa using this)
        rw [sI_self] at q
        exact q
    · have e5 : mI R 105 (60 * s + b) = 2 ∨ mI R 105 (60 * s + b) = 3 := by
        rw [d3, d2]
        rcases d1 with d1 | d1 <;> rw [d1]
        · exact Or.inl (by decide)
        · exact Or.inr (by decide)
      refine ⟨0, C, R, Or.inl rfl, ?_, ?_, h⟩
      · rw [d2]; rfl
      · rcases e5 with e | e <;> rw [e] <;> rfl
  · rcases d1 with d1 | d1
    · rcases d2 with d2 | d2
      · have e5 : mI R 105 (60 * s + b) = 0 := by rw [d3, d1, d2]; decide
        have kk : kZ 1 = true := rfl
        simp only [d1, d2, e5, if_true, if_false, i10, bd_s, kO_t sk, ck_t, kk, a11, kO_sI]
        refine ⟨1, _, _, Or.inr rfl, rfl, rfl, ?_⟩
        have e : mI (sI R 106 (60 * s + b) 1) 105 (60 * s + b) + 1 = 1 := by rw [mI_sI, if_neg (fun q => absurd q.1 (by decide)), e5]; decide
        rw [e]
        refine h.st_den hs hb rfl rfl rfl rfl rfl (fun a j q => ?_) ?_
        · rw [mI_sI, if_neg (fun w => q ⟨w.1, Or.inl w.2⟩), mI_sI, if_neg (fun w => q ⟨w.1, Or.inr (Or.inr w.2)⟩)]
        · simp only [mI_sI, d2]
          simp
      · have e5 : mI R 105 (60 * s + b) = 2 := by rw [d3, d1, d2]; decide
        simp only [d1, d2, e5, if_true, if_false, i10, bd_s, kO_t sk, ck_t, show ((2 : Int32) &&& 1 = 0) = True from eq_true (by decide), show ((2 : Int32) = 0) = False from eq_false (by decide)]
        refine ⟨1, _, _, Or.inr rfl, rfl, rfl, ?_⟩
        have q := h.st_den (C' := sI C (ad 15 (60 * s + b)) 9 1) (d := 2 + 1) (f := mI R 106 (60 * s + b)) hs hb rfl rfl rfl rfl rfl (fun a j q => by rw [mI_sI, if_neg (fun w => q ⟨w.1, Or.inl w.2⟩)]) (by
          simp only [mI_sI, d2]
          refine ⟨by simp, by simp, by simp, fun _ => ?_⟩
          have := d4 (by rw [e5]; decide)
          simpa using this)
        rw [sI_self] at q
        exact q
    · have e5 : mI R 105 (60 * s + b) = 1 ∨ mI R 105 (60 * s + b) = 3 := by
        rw [d3, d1]
        rcases d2 with d2 | d2 <;> rw [d2]
        · exact Or.inl (by decide)
        · exact Or.inr (by decide)
      refine ⟨0, C, R, Or.inl rfl, ?_, ?_, h⟩
      · rw [d1]; rfl
      · rcases e5 with e | e <;> rw [e] <;> rfl
theorem sim_deny (h : Rel k ad C R) (hk : k < 512) (a z : Int32) (hz : z = 0 ∨ z = 1) : Sim k (Hall_deny C 8 a z) (Mod_deny R 39 a z) := by
  unfold Hall_deny Mod_deny Mod_isBargain
  have s1 : ∀ r : Int32, Sim k (some (r, C)) (some (r, R)) := fun r => ⟨_, _, _, ad, rfl, rfl, h.up hk⟩
  have hN := n24 h
  rcases h.isc.on with o | o
  · have e14 : mR C 8 14 = none := by rw [h.shn.2.1, o]; rfl
    simp only [h.o8, h.o39, ck_t, e14, nl_n, o, if_true, bd_s]
    exact s1 _
  · obtain ⟨s, t1, t2, t3, t4⟩ := on_s h o
    have hs : s < ix (mI R 39 70) := by omega
    have sh := h.shn.1 s hs
    have s0 : (0 : Int32) ≤ Int32.ofNat s := of_nn s (by omega)
    have s2 : ix (Int32.ofNat s) = s := ix_of s (by omega)
    have h60 := n60 h t2
    have bb := h.ise.1 s t2
    simp only [h.o8, h.o39, ck_t, t4, nl_s, nn_s, kO_t sh.2.1, ev_hasB h hs, bd_s, o, i10, if_false, t3, h.sr.r39_79, kA_t h.sr.k88 s0 (show ix (Int32.ofNat s) < 24 by omega), s2]
    by_cases h2 : a < 0
    · simp only [if_neg (show ¬ (0 ≤ a ∧ a < mI R 88 s) by grind), if_true, if_pos h2, bd_s]
      exact s1 _
    · by_cases h3 : mI R 88 s ≤ a
      · simp only [if_neg (show ¬ (0 ≤ a ∧ a < mI R 88 s) by grind), if_true, if_neg h2, if_pos h3, bd_s]
        exact s1 _
      · have a0 : 0 ≤ a := by grind
        have hb : ix a < ix (mI R 88 s) := ix_mo a0 (by grind)
        have sb := sh.2.2.2.2.2.2.2.2.2 (ix a) hb
        have ea : a = Int32.ofNat (ix a) := (of_ix _ a0).symm
        have ee : 60 * Int32.ofNat s + a = Int32.ofNat (60 * s + ix a) := by
          rw [ea, ix_of _ (by omega), show (60 : Int32) = Int32.ofNat 60 from rfl, of_mul, of_add]
        obtain ⟨r, C', R', r1, r2, r3, r4⟩ := deny_b (h.up hk) hs hb hz
        have kz : kZ r = true := by rcases r1 with e | e <;> rw [e] <;> rfl
        simp only [if_pos (show 0 ≤ a ∧ a < mI R 88 s by grind), i10, if_false, if_neg h2, if_neg h3, bd_s, h.o8, h.o39, ck_t, kO_t sh.2.1, sh.2.2.2.2.1, nn_s, kA_t sh.2.2.2.2.2.2.2.1 a0 (show ix a < 60 by omega), sb.1, kO_t sb.2, r2, kz, t3, ee]
        refine ⟨r, C', R', ad, rfl, ?_, r4⟩
        rcases hz with e | e
        · rw [if_pos e] at r3 ⊢; exact r3
        · rw [if_neg (by rw [e]; decide)] at r3 ⊢; exact r3
end Q4
