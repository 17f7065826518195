/-! the lack: loops of both sides -/
section ZB
variable {k : Nat} {ad : Nat → Nat → Nat} {C R : Mm}
def hsL (R : Mm) (p : Nat) : Int64 := if 0 < mL R 52 p then mL R 52 p else 0
theorem upd_if {A B : Nat → Int64} {j p : Nat} : (if p < j + 1 then A p else B p) = updL (fun p => if p < j then A p else B p) j (A j) p := by
  show _ = if p = j then A j else if p < j then A p else B p
  by_cases e : p = j
  · rw [if_pos (by omega), if_pos e, e]
  · rw [if_neg e]
    by_cases l : p < j
    · rw [if_pos (by omega), if_pos l]
    · rw [if_neg (by omega), if_neg l]
theorem QL_s {c lk al : Int64} (c0 : 0 ≤ c.toInt) (cB : c.toInt ≤ 1000000000000) (l0 : 0 ≤ lk.toInt) (la : lk.toInt ≤ al.toInt) (a0 : 0 < al.toInt) (aB : al.toInt ≤ 10000000000000) : (QL c lk al).toInt * al.toInt + (RmL c lk al).toInt = c.toInt * lk.toInt ∧ 0 ≤ (RmL c lk al).toInt ∧ (RmL c lk al).toInt < al.toInt ∧ 0 ≤ (QL c lk al).toInt ∧ (QL c lk al).toInt ≤ c.toInt := by
  have e := Int.mul_ediv_add_emod (c.toInt * lk.toInt) al.toInt
  rw [Int.mul_comm al.toInt] at e
  have r0 := Int.emod_nonneg (c.toInt * lk.toInt) (show al.toInt ≠ 0 by omega)
  have r1 := Int.emod_lt_of_pos (c.toInt * lk.toInt) a0
  obtain ⟨q0, q1⟩ := dv_q e r0 r1 l0 la c0
  unfold QL RmL
  rw [of_L _ (by omega) (by omega), of_L _ (by omega) (by omega)]
  exact ⟨e, r0, r1, q0, q1⟩
theorem hs_b (h : Rel k ad C R) {p : Nat} (hp : p < 16) : 0 ≤ (hsL R p).toInt ∧ (hsL R p).toInt ≤ 100000000000 ∧ (0 < (mL R 52 p).toInt → (hsL R p).toInt = (mL R 52 p).toInt) ∧ ((mL R 52 p).toInt ≤ 0 → (hsL R p).toInt = 0) := by
  have b := h.okl hp
  unfold okL at b
  have cl := h.isc.closes
  rw [I_le, I_le, i0T, show (24 : Int32).toInt = 24 from rfl] at cl
  have hk := h.ipe.2.2.2.2.2
  have z0 : (0 : Int64).toInt = 0 := rfl
  unfold hsL
  by_cases c : 0 < mL R 52 p
  · rw [if_pos c]
    rw [L_lt, z0] at c
    omega
  · rw [if_neg c]
    rw [L_lt, z0] at c
    rw [z0]
    omega
theorem lp_all (h : Rel k ad C R) : ∀ (d m m2 j : Nat), j + d = ix (mI R 39 9) → d < m → d < m2 → House_partTheLack_L5 m 30 16 (mI R 39 9) (sumL (hsL R) j) (Int32.ofNat j) C = (if 0 ≤ mL R 39 18 then some ((), C) else if 0 < sumL (hsL R) (ix (mI R 39 9)) then House_partTheLack_L65 fu 30 16 (mI R 39 9) (sumL (hsL R) (ix (mI R 39 9))) (if sumL (hsL R) (ix (mI R 39 9)) < -(mL R 39 18) then sumL (hsL R) (ix (mI R 39 9)) else -(mL R 39 18)) (if sumL (hsL R) (ix (mI R 39 9)) < -(mL R 39 18) then sumL (hsL R) (ix (mI R 39 9)) else -(mL R 39 18)) 0 C else some ((), C)) ∧ Mod_bears_L4 m2 39 (sumL (hsL R) j) (Int32.ofNat j) R = Mod_bears_J57 39 (sumL (hsL R) (ix (mI R 39 9))) (if sumL (hsL R) (ix (mI R 39 9)) ≤ -(mL R 39 18) then sumL (hsL R) (ix (mI R 39 9)) else -(mL R 39 18)) R := by
  have n16 := p16 h
  have p0 := h.isc.persons.1
  have e9 : mI R 39 9 = Int32.ofNat (ix (mI R 39 9)) := (of_ix _ p0).symm
  intro d
  induction d with
  | zero =>
    intro m m2 j hj hm hm2
    obtain ⟨m, rfl⟩ : ∃ x, m = x + 1 := ⟨m - 1, by omega⟩
    obtain ⟨m2, rfl⟩ : ∃ x, m2 = x + 1 := ⟨m2 - 1, by omega⟩
    have ej : j = ix (mI R 39 9) := by omega
    have le : mI R 39 9 ≤ Int32.ofNat j := by rw [ej, ← e9]; exact Int32.le_refl _
    refine ⟨?_, ?_⟩
    · show House_partTheLack_B5 _ _ _ _ _ _ _ = _
      unfold House_partTheLack_B5 Math_min_L
      simp only [if_pos le, h.o30, ck_t, h.ll30_4]
      rw [← ej]
      by_cases c1 : 0 ≤ mL R 39 18
      · rw [if_pos c1, if_pos c1]
      · rw [if_neg c1, if_neg c1]
        by_cases c2 : 0 < sumL (hsL R) j
        · rw [if_pos c2, if_pos c2]
          by_cases c3 : sumL (hsL R) j < -mL R 39 18
          · simp only [if_pos c3, bd_s]
          · simp only [if_neg c3, bd_s]
        · rw [if_neg c2, if_neg c2]
    · show Mod_bears_B4 _ _ _ _ _ = _
      unfold Mod_bears_B4
      simp only [h.o39, ck_t, if_pos le]
      rw [← ej]
      by_cases c3 : sumL (hsL R) j ≤ -mL R 39 18
      · simp only [if_pos c3]
      · simp only [if_neg c3]
  | succ d ih =>
    intro m m2 j hj hm hm2
    obtain ⟨m, rfl⟩ : ∃ x, m = x + 1 := ⟨m - 1, by omega⟩
    obtain ⟨m2, rfl⟩ : ∃ x, m2 = x + 1 := ⟨m2 - 1, by omega⟩
    have P0 : (0 : Int32) ≤ Int32.ofNat j := of_nn _ (by omega)
    have P1 : ix (Int32.ofNat j) = j := ix_of _ (by omega)
    have Plt : ix (Int32.ofNat j) < 16 := by omega
    have nle : ¬ mI R 39 9 ≤ Int32.ofNat j := by
      rw [e9]; intro w
      have := (of_le _ j (by omega) (by omega)).mp w
      omega
    have hj1 : j < ix (mI R 39 9) := by omega
    have sp := h.shp j hj1
    obtain ⟨i1, i2⟩ := ih m m2 (j + 1) (by omega) (by omega) (by omega)
    have es : sumL (hsL R) (j + 1) = sumL (hsL R) j + hsL R j := rfl
    refine ⟨?_, ?_⟩
    · rw [← i1, es]
      show House_partTheLack_B5 _ _ _ _ _ _ _ = _
      unfold House_partTheLack_B5 Math_max_L hsL
      simp only [if_neg nle, kA_t h.sc.k16 P0 Plt, ck_t, P1, sp.1, nn_s, kO_t sp.2.1, h.llp3 hj1, of_s1 j (by omega)]
      by_cases c : 0 < mL R 52 j
      · simp only [if_pos c, bd_s]
      · simp only [if_neg c, bd_s]
    · rw [← i2, es]
      show Mod_bears_B4 _ _ _ _ _ = _
      unfold Mod_bears_B4 Mod_bears_J32
      simp only [h.o39, ck_t, if_neg nle, h.sr.r39_16, nn_s, kA_t h.sr.k52 P0 Plt, P1, of_s1 j (by omega)]
      have z0 : (0 : Int64).toInt = 0 := rfl
      unfold hsL
      by_cases c : mL R 52 j ≤ 0
      · rw [if_pos c, if_neg (by rw [L_lt]; rw [L_le] at c; omega)]
        rw [show ∀ x : Int64, x + 0 = x by intro x; grind]
      · rw [if_neg c, if_pos (by rw [L_lt]; rw [L_le] at c; omega)]
theorem pw0 {x : Int} (h0 : 0 ≤ x) (h1 : x ≤ 1000000000000000) : x / 2 ^ 63 = 0 := Int.ediv_eq_zero_of_lt h0 (by omega)
theorem lp_first (h : Rel k ad C R) {lk : Int64} (hl0 : 0 ≤ lk.toInt) (hla : lk.toInt ≤ (sumL (hsL R) (ix (mI R 39 9))).toInt) (ha : 0 < (sumL (hsL R) (ix (mI R 39 9))).toInt) : ∀ (d m j : Nat) (D : Mm), j + d = ix (mI R 39 9) → d < m → Cn ad (ix (mI R 39 9)) C D (fun p => if p < j then mL R 52 p - QL (hsL R p) lk (sumL (hsL R) (ix (mI R 39 9))) else mL R 52 p) (fun p => if p < j then RmL (hsL R p) lk (sumL (hsL R) (ix (mI R 39 9))) else mL C 32 p) → ∃ D', House_partTheLack_L65 m 30 16 (mI R 39 9) (sumL (hsL R) (ix (mI R 39 9))) lk (lk - sumL (fun p => QL (hsL R p) lk (sumL (hsL R) (ix (mI R 39 9)))) j) (Int32.ofNat j) D = House_partTheLack_L123 fu 30 16 (mI R 39 9) lk (lk - sumL (fun p => QL (hsL R p) lk (sumL (hsL R) (ix (mI R 39 9)))) (ix (mI R 39 9))) 0 D' ∧ Cn ad (ix (mI R 39 9)) C D' (fun p => mL R 52 p - QL (hsL R p) lk (sumL (hsL R) (ix (mI R 39 9)))) (fun p => if p < ix (mI R 39 9) then RmL (hsL R p) lk (sumL (hsL R) (ix (mI R 39 9))) else mL C 32 p) := by
  have n16 := p16 h
  have p0 := h.isc.persons.1
  have e9 : mI R 39 9 = Int32.ofNat (ix (mI R 39 9)) := (of_ix _ p0).symm
  obtain ⟨s1, s2, s3⟩ := sumL_t (f := hsL R) n16 (fun j hj => by have := hs_b h (show j < 16 by omega); omega)
  have sB : (sumL (hsL R) (ix (mI R 39 9))).toInt ≤ 1600000000000 := by omega
  generalize hal : sumL (hsL R) (ix (mI R 39 9)) = al at *
  intro d
  induction d with
  | zero =>
    intro m j D hj hm hD
    obtain ⟨m, rfl⟩ : ∃ x, m = x + 1 := ⟨m - 1, by omega⟩
    have ej : j = ix (mI R 39 9) := by omega
    have le : mI R 39 9 ≤ Int32.ofNat j := by rw [ej, ← e9]; exact Int32.le_refl _
    refine ⟨D, ?_, hD.cg (fun p hp => by rw [if_pos (by omega)]) (fun p hp => by rw [ej])⟩
    show House_partTheLack_B65 _ _ _ _ _ _ _ _ _ = _
    unfold House_partTheLack_B65
    rw [if_pos le, ej]
  | succ d ih =>
    intro m j D hj hm hD
    obtain ⟨m, rfl⟩ : ∃ x, m = x + 1 := ⟨m - 1, by omega⟩
    have P0 : (0 : Int32) ≤ Int32.ofNat j := of_nn _ (by omega)
    have P1 : ix (Int32.ofNat j) = j := ix_of _ (by omega)
    have Plt : ix (Int32.ofNat j) < 16 := by omega
    have nle : ¬ mI R 39 9 ≤ Int32.ofNat j := by
      rw [e9]; intro w
      have := (of_le _ j (by omega) (by omega)).mp w
      omega
    have hj1 : j < ix (mI R 39 9) := by omega
    have sp := h.shp j hj1
    have hb := hs_b h (show j < 16 by omega)
    have fj : mL D (ad 1 j) 3 = mL R 52 j := (hD.2.2.2.2.2.1 j hj1).trans (if_neg (by omega))
    have dR := hD.2.1
    have dK := hD.2.2.1
    have mx : Math_max_L D 0 (mL R 52 j) = some (hsL R j, D) := by
      unfold Math_max_L hsL
      by_cases c : 0 < mL R 52 j
      · rw [if_pos c, if_pos c]
      · rw [if_neg c, if_neg c]
    have pt : House_partOf D 30 (Int32.ofNat j) (hsL R j) lk al = some (QL (hsL R j) lk al, sL D 32 j (RmL (hsL R j) lk al)) :=
      lp_part (by rw [dK]; exact h.sc.k30) (by rw [dR]; exact h.sc.r30_1) (by rw [dK]; exact h.sc.k32) (by omega) hb.1 (by omega) hl0 hla (by omega) 63 fu 0 0 (by omega) (fu_g (by omega)) (by rw [pw0 hb.1 (by omega), show (0 : Int64).toInt = 0 from rfl]; omega) (by decide) ha
    have h2 := (hD.re (p := j) (v := RmL (hsL R j) lk al) h.hA).co (p := j) (v := mL R 52 j - QL (hsL R j) lk al) h.hA hj1
    have h3 := h2.cg (f' := fun p => if p < j + 1 then mL R 52 p - QL (hsL R p) lk al else mL R 52 p) (g' := fun p => if p < j + 1 then RmL (hsL R p) lk al else mL C 32 p) (fun p _ => upd_if (A := fun p => mL R 52 p - QL (hsL R p) lk al) (B := mL R 52)) (fun p _ => upd_if (A := fun p => RmL (hsL R p) lk al) (B := mL C 32))
    obtain ⟨D', z1, z2⟩ := ih m (j + 1) _ (by omega) (by omega) h3
    refine ⟨D', ?_, z2⟩
    rw [← z1]
    have n32 : ad 1 j ≠ 32 := by have := h.hA.1 1 j; omega
    have fj2 : mL (sL D 32 j (RmL (hsL R j) lk al)) (ad 1 j) 3 = mL R 52 j := by rw [mL_sL, if_neg (fun z => n32 z.1)]; exact fj
    have kD16 : mK D 16 = (24, 16) := by rw [dK]; exact h.sc.k16
    have kDp : mK D (ad 1 j) = (6, 9) := by rw [dK]; exact sp.2.1
    have kD30 : mK D 30 = (3, 7) := by rw [dK]; exact h.sc.k30
    have rD : mR D 16 j = some (ad 1 j) := by rw [dR]; exact sp.1
    show House_partTheLack_B65 _ _ _ _ _ _ _ _ _ = _
    unfold House_partTheLack_B65
    simp only [if_neg nle, kA_t kD16 P0 Plt, ck_t, P1, rD, nn_s, kO_t kDp, fj, mx, bd_s, kO_t kD30, pt, kA_sL, mR_sL, kO_sL, fj2, of_s1 j (by omega)]
    have es : lk - sumL (fun p => QL (hsL R p) lk al) j - QL (hsL R j) lk al = lk - sumL (fun p => QL (hsL R p) lk al) (j + 1) := by
      show lk - sumL (fun p => QL (hsL R p) lk al) j - QL (hsL R j) lk al = lk - (sumL (fun p => QL (hsL R p) lk al) j + QL (hsL R j) lk al)
      grind
    rw [es]
theorem lp_mfirst (h : Rel k ad C R) {lk : Int64} (hl0 : 0 ≤ lk.toInt) (hla : lk.toInt ≤ (sumL (hsL R) (ix (mI R 39 9))).toInt) (ha : 0 < (sumL (hsL R) (ix (mI R 39 9))).toInt) : ∀ (d m j : Nat) (E : Mm), j + d = ix (mI R 39 9) → d < m → Rn (ix (mI R 39 9)) R E (mL R 52) (fun p => if p < j then QL (hsL R p) lk (sumL (hsL R) (ix (mI R 39 9))) else mL R 110 p) (fun p => if p < j then (if hsL R p = 0 then -1 else RmL (hsL R p) lk (sumL (hsL R) (ix (mI R 39 9)))) else mL R 111 p) → ∃ E', Mod_bears_L71 m 39 (sumL (hsL R) (ix (mI R 39 9))) lk (lk - sumL (fun p => QL (hsL R p) lk (sumL (hsL R) (ix (mI R 39 9)))) j) (Int32.ofNat j) E = Mod_bears_L106 fu 39 lk (lk - sumL (fun p => QL (hsL R p) lk (sumL (hsL R) (ix (mI R 39 9)))) (ix (mI R 39 9))) E' ∧ Rn (ix (mI R 39 9)) R E' (mL R 52) (fun p => if p < ix (mI R 39 9) then QL (hsL R p) lk (sumL (hsL R) (ix (mI R 39 9))) else mL R 110 p) (fun p => if p < ix (mI R 39 9) then (if hsL R p = 0 then -1 else RmL (hsL R p) lk (sumL (hsL R) (ix (mI R 39 9)))) else mL R 111 p) := by
  have n16 := p16 h
  have p0 := h.isc.persons.1
  have e9 : mI R 39 9 = Int32.ofNat (ix (mI R 39 9)) := (of_ix _ p0).symm
  obtain ⟨s1, s2, s3⟩ := sumL_t (f := hsL R) n16 (fun j hj => by have := hs_b h (show j < 16 by omega); omega)
  have sB : (sumL (hsL R) (ix (mI R 39 9))).toInt ≤ 1600000000000 := by omega
  have hle : ∀ j, j < ix (mI R 39 9) → (hsL R j).toInt ≤ (sumL (hsL R) (ix (mI R 39 9))).toInt := fun j hj => by
    rw [s1]
    exact sumTo_le (f := fun j => (hsL R j).toInt) hj (fun i hi => (hs_b h (show i < 16 by omega)).1)
  generalize hal : sumL (hsL R) (ix (mI R 39 9)) = al at *
  intro d
  induction d with
  | zero =>
    intro m j E hj hm hE
    obtain ⟨m, rfl⟩ : ∃ x, m = x + 1 := ⟨m - 1, by omega⟩
    have ej : j = ix (mI R 39 9) := by omega
    have le : mI E 39 9 ≤ Int32.ofNat j := by rw [hE.1, ej, ← e9]; exact Int32.le_refl _
    have sr : SR E := h.sr.sm hE.2.2.1 hE.2.1
    refine ⟨E, ?_, hE.cg (fun _ _ => rfl) (fun p hp => by rw [ej]) (fun p hp => by rw [ej])⟩
    show Mod_bears_B71 _ _ _ _ _ _ _ = _
    unfold Mod_bears_B71
    rw [kO_t sr.k39, ck_t, if_pos le, ej]
  | succ d ih =>
    intro m j E hj hm hE
    obtain ⟨m, rfl⟩ : ∃ x, m = x + 1 := ⟨m - 1, by omega⟩
    have P0 : (0 : Int32) ≤ Int32.ofNat j := of_nn _ (by omega)
    have P1 : ix (Int32.ofNat j) = j := ix_of _ (by omega)
    have Plt : ix (Int32.ofNat j) < 16 := by omega
    have hj1 : j < ix (mI R 39 9) := by omega
    have nle : ¬ mI E 39 9 ≤ Int32.ofNat j := by
      rw [hE.1, e9]; intro w
      have := (of_le _ j (by omega) (by omega)).mp w
      omega
    have hb := hs_b h (show j < 16 by omega)
    have sr : SR E := h.sr.sm hE.2.2.1 hE.2.1
    have fj : mL E 52 j = mL R 52 j := hE.2.2.2.1 j hj1
    have j21 : Mod_parts_J21 39 (Int32.ofNat j) lk al (hsL R j) E = some ((), sL (sL E 110 j (QL (hsL R j) lk al)) 111 j (if hsL R j = 0 then -1 else RmL (hsL R j) lk al)) :=
      lp_parts sr.k39 sr.r39_101 sr.r39_102 sr.k110 sr.k111 (by omega) hb.1 (hle j hj1) hl0 hla (by omega) 63 fu 0 0 (by omega) (fu_g (by omega)) (by rw [pw0 hl0 (by omega), show (0 : Int64).toInt = 0 from rfl]; omega) (by decide) ha
    have pt : Mod_parts E 39 (Int32.ofNat j) lk al = some ((), sL (sL E 110 j (QL (hsL R j) lk al)) 111 j (if hsL R j = 0 then -1 else RmL (hsL R j) lk al)) := by
      unfold Mod_parts
      simp only [kO_t sr.k39, ck_t, sr.r39_16, nn_s, kA_t sr.k52 P0 Plt, P1, fj]
      rw [← j21]
      have z0 : (0 : Int64).toInt = 0 := rfl
      unfold hsL
      by_cases c : mL R 52 j ≤ 0
      · rw [if_pos c, if_neg (by rw [L_lt]; rw [L_le] at c; omega)]
      · rw [if_neg c, if_pos (by rw [L_lt]; rw [L_le] at c; omega)]
    have h2 := (hE.be (p := j) (v := QL (hsL R j) lk al)).rs (p := j) (v := if hsL R j = 0 then -1 else RmL (hsL R j) lk al)
    have h3 := h2.cg (f' := mL R 52) (b' := fun p => if p < j + 1 then QL (hsL R p) lk al else mL R 110 p) (g' := fun p => if p < j + 1 then (if hsL R p = 0 then -1 else RmL (hsL R p) lk al) else mL R 111 p) (fun p hp => rfl) (fun p _ => upd_if (A := fun p => QL (hsL R p) lk al) (B := mL R 110)) (fun p _ => upd_if (A := fun p => if hsL R p = 0 then -1 else RmL (hsL R p) lk al) (B := mL R 111))
    obtain ⟨E', z1, z2⟩ := ih m (j + 1) _ (by omega) (by omega) h3
    refine ⟨E', ?_, z2⟩
    rw [← z1]
    have q110 : mL (sL (sL E 110 j (QL (hsL R j) lk al)) 111 j (if hsL R j = 0 then -1 else RmL (hsL R j) lk al)) 110 j = QL (hsL R j) lk al := by
      rw [mL_sL, if_neg (by omega), mL_sL, if_pos ⟨rfl, rfl⟩]
    show Mod_bears_B71 _ _ _ _ _ _ _ = _
    unfold Mod_bears_B71
    simp only [kO_t sr.k39, ck_t, if_neg nle, pt, bd_s, kO_sL, mR_sL, sr.r39_101, nn_s, kA_sL, kA_t sr.k110 P0 Plt, P1, q110, of_s1 j (by omega)]
    have es : lk - sumL (fun p => QL (hsL R p) lk al) j - QL (hsL R j) lk al = lk - sumL (fun p => QL (hsL R p) lk al) (j + 1) := by
      show lk - sumL (fun p => QL (hsL R p) lk al) j - QL (hsL R j) lk al = lk - (sumL (fun p => QL (hsL R p) lk al) j + QL (hsL R j) lk al)
      grind
    rw [es]
end ZB
