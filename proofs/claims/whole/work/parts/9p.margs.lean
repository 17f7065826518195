section Z7
variable {k : Nat} {ad : Nat → Nat → Nat}
theorem lp_marg {C0 R0 N : Mm} {mg g t cnt : Int32} (e0 : Law_ask C0 19 2 t = some (mg, N)) : ∀ (d n n2 p : Nat) (C R : Mm), p + d = ix (mI R 39 9) → d < n → d < n2 → Rel k ad C R → Fok C R → AG C0 C → RS2 R0 R → mI R 39 0 = t → mI R 39 9 = cnt → (-(2300000 * (mI R 39 71).toInt - 2300000 + 142560 * (p : Int)) ≤ (mI R 39 21).toInt ∧ (mI R 39 21).toInt ≤ 2300000 * (mI R 39 71).toInt - 2300000 + 142560 * (p : Int)) → (-(2000000000000 * (mI R 39 71).toInt - 1000000000000 + 50000000000 * (p : Int)) ≤ (mL R 39 18).toInt ∧ (mL R 39 18).toInt ≤ 2000000000000 * (mI R 39 71).toInt - 1000000000000 + 50000000000 * (p : Int)) → ∃ C' R', House_callMargins_L3 n 30 16 cnt mg g t (Int32.ofNat p) C = some ((), C') ∧ Mod_clears_L199 n2 39 g (Int32.ofNat p) R = (if 0 ≤ mL R' 39 18 then Mod_clears_J235 39 R' else bd (Mod_bears R' 39) (fun _ M23 => Mod_clears_J235 39 M23)) ∧ Rel k ad C' R' ∧ Fok C' R' ∧ AG C0 C' ∧ RS2 R0 R' ∧ (-(2000000000000 * (mI R' 39 71).toInt - 100000000000) ≤ (mL R' 39 18).toInt ∧ (mL R' 39 18).toInt ≤ 2000000000000 * (mI R' 39 71).toInt - 100000000000) := by
  intro d
  induction d with
  | zero =>
    intro n n2 p C R hp hn hn2 h hf ha hr ht hc bH bF
    obtain ⟨n, rfl⟩ : ∃ x, n = x + 1 := ⟨n - 1, by omega⟩
    obtain ⟨n2, rfl⟩ : ∃ x, n2 = x + 1 := ⟨n2 - 1, by omega⟩
    have h16 := p16 h
    have e9 : mI R 39 9 = Int32.ofNat p := by rw [show p = ix (mI R 39 9) by omega]; exact (of_ix _ h.isc.persons.1).symm
    have le : mI R 39 9 ≤ Int32.ofNat p := by rw [e9]; exact Int32.le_refl _
    refine ⟨C, R, ?_, ?_, h, hf, ha, hr, by omega⟩
    · show House_callMargins_B3 _ _ _ _ _ _ _ _ _ = _
      unfold House_callMargins_B3
      rw [← hc, if_pos le]
    · show Mod_clears_B199 _ _ _ _ _ = _
      unfold Mod_clears_B199
      rw [h.o39, ck_t, if_pos le]
  | succ d ih =>
    intro n n2 p C R hp hn hn2 h hf ha hr ht hc bH bF
    obtain ⟨n, rfl⟩ : ∃ x, n = x + 1 := ⟨n - 1, by omega⟩
    obtain ⟨n2, rfl⟩ : ∃ x, n2 = x + 1 := ⟨n2 - 1, by omega⟩
    have h16 := p16 h
    obtain ⟨r, r1, -, r3⟩ := ask_law h hf 2 (by decide) (by decide)
    rw [ht, ask_again ha e0] at r1
    obtain rfl : mg = r := by injection r1 with r1; exact (Prod.mk.inj r1).1
    obtain ⟨R1, x1, x2⟩ := r3 R ExR.rf
    have cl := h.isc.closes
    rw [I_le, I_le, i0T, show (24 : Int32).toInt = 24 from rfl] at cl
    obtain ⟨C', R', y1, y2, y3, y4, y5, y6, y7⟩ := marg1 (g := g) h (show p < ix (mI R 39 9) by omega) x1 x2 (by omega) (by omega)
    have f71 := y5.1 71 (by decide)
    have f9 := y5.1 9 (by decide)
    have f0 := y5.1 0 (by decide)
    obtain ⟨C2, R2, z1, z2, z3⟩ := ih n n2 (p + 1) C' R' (by rw [f9]; omega) (by omega) (by omega) y3 (hf.ag h.sc.k29 y4 y5) (ha.tr y4) (hr.tr y5) (by rw [f0]; exact ht) (by rw [f9]; exact hc) (by rw [f71]; omega) (by rw [f71]; omega)
    refine ⟨C2, R2, ?_, ?_, z3⟩
    · show House_callMargins_B3 _ _ _ _ _ _ _ _ _ = _
      rw [← hc, ← ht, y1, hc, ht]
      exact z1
    · show Mod_clears_B199 _ _ _ _ _ = _
      unfold Mod_clears_B199
      have nle : ¬ mI R 39 9 ≤ Int32.ofNat p := by
        rw [(of_ix _ h.isc.persons.1).symm]
        intro w
        have := (of_le _ p (by omega) (by omega)).mp w
        omega
      rw [h.o39, ck_t, if_neg nle, y2, bd_s]
      show Mod_clears_L199 n2 39 g (Int32.ofNat p + 1) R' = _
      rw [of_s1 p (by omega)]
      exact z2
theorem lp_settle {cnt : Int32} : ∀ (d n n2 p : Nat) (C R : Mm), p + d = ix (mI R 39 9) → d < n → d < n2 → SR R → Rel k ad C (sI R 39 21 0) → mI R 39 9 = cnt → ∃ C' R', House_settleAt_L23 n 16 cnt (Int32.ofNat p) C = some ((), C') ∧ Mod_clears_L253 n2 39 (Int32.ofNat p) R = some ((), R') ∧ Rel k ad C' R' ∧ (∀ j, j ≠ 21 → mI R' 39 j = mI R 39 j) := by
  intro d
  induction d with
  | zero =>
    intro n n2 p C R hp hn hn2 sr h hc
    obtain ⟨n, rfl⟩ : ∃ x, n = x + 1 := ⟨n - 1, by omega⟩
    obtain ⟨n2, rfl⟩ : ∃ x, n2 = x + 1 := ⟨n2 - 1, by omega⟩
    have p0 : 0 ≤ mI R 39 9 := h.isc.persons.1
    have e9 : mI R 39 9 = Int32.ofNat p := by rw [show p = ix (mI R 39 9) by omega]; exact (of_ix _ p0).symm
    have le : mI R 39 9 ≤ Int32.ofNat p := by rw [e9]; exact Int32.le_refl _
    refine ⟨C, sI R 39 21 0, ?_, ?_, h, fun j hj => by rw [mI_sI, if_neg (fun q => hj q.2)]⟩
    · show House_settleAt_B23 _ _ _ _ _ = _
      unfold House_settleAt_B23
      rw [← hc, if_pos le]
    · show Mod_clears_B253 _ _ _ _ = _
      unfold Mod_clears_B253
      rw [kO_t sr.k39, ck_t, if_pos le]
  | succ d ih =>
    intro n n2 p C R hp hn hn2 sr h hc
    obtain ⟨n, rfl⟩ : ∃ x, n = x + 1 := ⟨n - 1, by omega⟩
    obtain ⟨n2, rfl⟩ : ∃ x, n2 = x + 1 := ⟨n2 - 1, by omega⟩
    have h16 : ix (mI (sI R 39 21 0) 39 9) ≤ 16 := p16 h
    have h16 : ix (mI R 39 9) ≤ 16 := h16
    have p0 : 0 ≤ mI R 39 9 := h.isc.persons.1
    have P0 : (0 : Int32) ≤ Int32.ofNat p := of_nn _ (by omega)
    have P1 : ix (Int32.ofNat p) = p := ix_of _ (by omega)
    have Plt : ix (Int32.ofNat p) < 16 := by omega
    have nle : ¬ mI R 39 9 ≤ Int32.ofNat p := by
      rw [(of_ix _ p0).symm]
      intro w
      have := (of_le _ p (by omega) (by omega)).mp w
      omega
    have hp1 : p < ix (mI R 39 9) := by omega
    have sp := h.shp p hp1
    have cl := h.isc.closes
    rw [I_le, I_le, i0T, show (24 : Int32).toInt = 24 from rfl] at cl
    have nb := h.isc.now
    have s1 := h.wPos (i := p) hp1 (v := 0) (by unfold okP; rw [i0T]; omega)
    have s2 := s1.wCal (i := p) hp1 (v := -1) ⟨by decide, by show (-1 : Int32) ≤ mI (sI R 39 21 0) 39 0; clear h s1 sp; grind⟩
    rw [sI_cm (M := R) (show 39 ≠ 47 by decide), sI_cm (M := sI R 47 p 0) (show 39 ≠ 49 by decide)] at s2
    obtain ⟨C2, R2, z1, z2, z3⟩ := ih n n2 (p + 1) _ (sI (sI R 47 p 0) 49 p (-1)) (by show p + 1 + d = ix (mI R 39 9); omega) (by omega) (by omega) sr s2 hc
    refine ⟨C2, R2, ?_, ?_, z3⟩
    · show House_settleAt_B23 _ _ _ _ _ = _
      unfold House_settleAt_B23
      have nle' : ¬ cnt ≤ Int32.ofNat p := by rw [← hc]; exact nle
      simp only [if_neg nle', kA_t h.sc.k16 P0 Plt, ck_t, P1, sp.1, nn_s, kO_t sp.2.1, mR_sI, kO_sI, of_s1 p (by omega)]
      exact z1
    · show Mod_clears_B253 _ _ _ _ = _
      unfold Mod_clears_B253
      simp only [kO_t sr.k39, ck_t, if_neg nle, sr.r39_11, nn_s, kA_t sr.k47 P0 Plt, P1, mR_sI, kA_sI, sr.r39_13, kA_t sr.k49 P0 Plt, of_s1 p (by omega)]
      exact z2
end Z7
