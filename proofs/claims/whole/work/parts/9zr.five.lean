/-! the class keeps an edict: its five cells -/
section ZA1
variable {M B : Mm}
/-- a copy of n cells of a, held by the field f of o -/
def eA (M : Mm) (a o f n : Nat) : Mm := sR (cpy (nw M 20 n) a (mZ M) n) o f (some (mZ M))
theorem eA_K (M : Mm) (a o f n b : Nat) : mK (eA M a o f n) b = if b = mZ M then (20, n) else mK M b := rfl
theorem eA_R (M : Mm) (a o f n b j : Nat) : mR (eA M a o f n) b j = if b = o ∧ j = f then some (mZ M) else if b = mZ M then none else mR M b j := rfl
theorem eA_L (M : Mm) (a o f n b : Nat) (h : b ≠ mZ M) : mL (eA M a o f n) b = mL M b := by
  funext j
  show (if b = mZ M then 0 else mL M b j) = _
  rw [if_neg h]
theorem eA_I (M : Mm) (a o f n b : Nat) (h : b ≠ mZ M) : mI (eA M a o f n) b = mI M b := by
  funext j
  show mI (cpy (nw M 20 n) a (mZ M) n) b j = _
  rw [mI_cpy, if_neg (fun w => h w.1), mI_nw, if_neg h]
theorem eA_Iz (M : Mm) (a o f n j : Nat) (h : a ≠ mZ M) (hj : j < n) : mI (eA M a o f n) (mZ M) j = mI M a j := by
  show mI (cpy (nw M 20 n) a (mZ M) n) (mZ M) j = _
  rw [mI_cpy, if_pos ⟨rfl, hj⟩, mI_nw, if_neg h]
theorem eA_Z (M : Mm) (a o f n : Nat) : mZ (eA M a o f n) = mZ M + 1 := rfl
theorem eA_S (M : Mm) (a o f n : Nat) : mS (eA M a o f n) = mS M + n := rfl
theorem ev_copy {a n L : Nat} (hK : mK M a = (20, L)) (hn : n ≤ L) (hL : L ≤ 1000) (ha : a ≠ mZ M) : Arr_copyOf M a (Int32.ofNat n) = some (mZ M, cpy (nw M 20 n) a (mZ M) n) := by
  have t0 : kT M a 20 = true := by unfold kT; rw [hK]; rfl
  have l0 : ln M a = Int32.ofNat L := by unfold ln; rw [hK]
  have kz : ∀ x, mK (nw M 20 x) (mZ M) = (20, x) := fun x => by rw [mK_nw, if_pos rfl]
  have ka : ∀ x, mK (nw M 20 x) a = (20, L) := fun x => by rw [mK_nw, if_neg ha, hK]
  have tz : ∀ x, kT (nw M 20 x) (mZ M) 20 = true := fun x => by unfold kT; rw [kz]; rfl
  have ta : ∀ x, kT (nw M 20 x) a 20 = true := fun x => by unfold kT; rw [ka]; rfl
  have tc : ∀ x y, kT (cpy (nw M 20 x) a (mZ M) y) (mZ M) 20 = true := fun x y => tz x
  unfold Arr_copyOf
  rw [t0, ck_t, l0]
  by_cases q : n = L
  · rw [if_pos (by rw [q]), hK]
    show ck (kT (cpy (nw M 20 L) a (mZ M) L) (mZ M) 20) _ = _
    rw [tc, ck_t, q]
  · have ne : ¬ Int32.ofNat n = Int32.ofNat L := fun w => q ((of_eq n L (by omega) (by omega)).mp w)
    have n0 : (0 : Int32) ≤ Int32.ofNat n := of_nn n (by omega)
    have n1 : ix (Int32.ofNat n) = n := ix_of n (by omega)
    have kl : kL (Int32.ofNat n) = true := by
      unfold kL
      rw [decide_eq_true n0]
      exact decide_eq_true (show ix (Int32.ofNat n) ≤ 65536 by rw [n1]; omega)
    have la : ln (nw M 20 n) a = Int32.ofNat L := by unfold ln; rw [ka]
    have lt : Int32.ofNat n < Int32.ofNat L := (of_lt n L (by omega) (by omega)).mpr (by omega)
    rw [if_neg ne, kl, ck_t, n1, ta, ck_t, la, ev_min, bd_s, if_pos lt, ta, ck_t, tz, ck_t, n1]
    have e1 : (decide ((0 : Int32) ≤ Int32.ofNat n) && (decide ((Int32.ofNat n).toNatClampNeg ≤ (mK (nw M 20 n) a).2) && decide ((Int32.ofNat n).toNatClampNeg ≤ (mK (nw M 20 n) (mZ M)).2))) = true := by
      rw [ka, kz, decide_eq_true n0]
      have e2 : (Int32.ofNat n).toNatClampNeg = n := n1
      rw [e2, decide_eq_true (show n ≤ (20, L).2 from hn), decide_eq_true (show n ≤ (20, n).2 from Nat.le_refl _)]
      rfl
    rw [e1, ck_t]
def eC (B : Mm) (mn : Int32) (st c : Nat) : Mm := eA (eA (eA (eA (sI (nw B 2 5) (mZ B) 0 mn) 21 (mZ B) 1 st) 22 (mZ B) 2 st) 23 (mZ B) 3 st) 24 (mZ B) 4 c
theorem ev_edict (sc : SC B) (hz : 116 ≤ mZ B) {st c : Nat} (hst : st ≤ 24) (hc : c ≤ 250) (h4 : mI B 20 4 = Int32.ofNat st) (h5 : mI B 20 5 = Int32.ofNat c) (mn : Int32) : Edict_new (nw B 2 5) (mZ B) 20 mn = some ((), eC B mn st c) := by
  unfold Edict_new eC
  generalize h1 : sI (nw B 2 5) (mZ B) 0 mn = M1
  have z1 : mZ M1 = mZ B + 1 := by rw [← h1]; rfl
  have k1 : ∀ a, a ≠ mZ B → mK M1 a = mK B a := fun a q => by rw [← h1]; show (if a = mZ B then (2, 5) else mK B a) = _; rw [if_neg q]
  have kz1 : mK M1 (mZ B) = (2, 5) := by rw [← h1]; show (if mZ B = mZ B then (2, 5) else mK B _) = _; rw [if_pos rfl]
  have i1 : ∀ a, a ≠ mZ B → mI M1 a = mI B a := fun a q => by
    rw [← h1, row_n q]; funext j; rw [mI_nw, if_neg q]
  have r1 : ∀ a, a ≠ mZ B → mR M1 a = mR B a := fun a q => by
    rw [← h1]; funext j; show mR (nw B 2 5) a j = _; rw [mR_nw, if_neg q]
  have kz0 : kO (nw B 2 5) (mZ B) 2 5 = true := kO_t (by rw [mK_nw, if_pos rfl])
  rw [kz0, ck_t]
  show ck (kO M1 20 8 11) _ = _
  rw [kO_t (show mK M1 20 = (8, 11) by rw [k1 20 (by omega)]; exact sc.k20), ck_t, r1 20 (by omega), sc.r20_0, nn_s, i1 20 (by omega), h4, ev_copy (show mK M1 21 = (20, 24) by rw [k1 21 (by omega)]; exact sc.k21) hst (by decide) (by omega), bd_s]
  have s1 : ∀ n, mK (cpy (nw M1 20 n) 21 (mZ M1) n) (mZ B) = (2, 5) := fun n => by rw [mK_cpy, mK_nw, if_neg (by omega), kz1]
  rw [kO_t (s1 _), ck_t]
  have y1 : sR (cpy (nw M1 20 st) 21 (mZ M1) st) (mZ B) 1 (some (mZ M1)) = eA M1 21 (mZ B) 1 st := rfl
  simp only [y1]
  generalize h2 : eA M1 21 (mZ B) 1 st = M2
  have z2 : mZ M2 = mZ B + 2 := by rw [← h2, eA_Z, z1]
  have k2 : ∀ a, a < mZ B → mK M2 a = mK B a := fun a q => by rw [← h2, eA_K, if_neg (by omega), k1 a (by omega)]
  have kz2 : mK M2 (mZ B) = (2, 5) := by rw [← h2, eA_K, if_neg (by omega), kz1]
  have i2 : ∀ a, a < mZ B → mI M2 a = mI B a := fun a q => by rw [← h2, eA_I _ _ _ _ _ _ (by omega), i1 a (by omega)]
  have r2 : ∀ a j, a < mZ B → mR M2 a j = mR B a j := fun a j q => by rw [← h2, eA_R, if_neg (by omega), if_neg (by omega), r1 a (by omega)]
  rw [kO_t (show mK M2 20 = (8, 11) by rw [k2 20 (by omega)]; exact sc.k20), ck_t, r2 20 1 (by omega), sc.r20_1, nn_s, i2 20 (by omega), h4, ev_copy (show mK M2 22 = (20, 24) by rw [k2 22 (by omega)]; exact sc.k22) hst (by decide) (by omega), bd_s]
  have s2 : ∀ n, mK (cpy (nw M2 20 n) 22 (mZ M2) n) (mZ B) = (2, 5) := fun n => by rw [mK_cpy, mK_nw, if_neg (by omega), kz2]
  rw [kO_t (s2 _), ck_t]
  have y2 : sR (cpy (nw M2 20 st) 22 (mZ M2) st) (mZ B) 2 (some (mZ M2)) = eA M2 22 (mZ B) 2 st := rfl
  simp only [y2]
  generalize h3 : eA M2 22 (mZ B) 2 st = M3
  have z3 : mZ M3 = mZ B + 3 := by rw [← h3, eA_Z, z2]
  have k3 : ∀ a, a < mZ B → mK M3 a = mK B a := fun a q => by rw [← h3, eA_K, if_neg (by omega), k2 a (by omega)]
  have kz3 : mK M3 (mZ B) = (2, 5) := by rw [← h3, eA_K, if_neg (by omega), kz2]
  have i3 : ∀ a, a < mZ B → mI M3 a = mI B a := fun a q => by rw [← h3, eA_I _ _ _ _ _ _ (by omega), i2 a (by omega)]
  have r3 : ∀ a j, a < mZ B → mR M3 a j = mR B a j := fun a j q => by rw [← h3, eA_R, if_neg (by omega), if_neg (by omega), r2 a j (by omega)]
  rw [kO_t (show mK M3 20 = (8, 11) by rw [k3 20 (by omega)]; exact sc.k20), ck_t, r3 20 2 (by omega), sc.r20_2, nn_s, i3 20 (by omega), h4, ev_copy (show mK M3 23 = (20, 24) by rw [k3 23 (by omega)]; exact sc.k23) hst (by decide) (by omega), bd_s]
  have s3 : ∀ n, mK (cpy (nw M3 20 n) 23 (mZ M3) n) (mZ B) = (2, 5) := fun n => by rw [mK_cpy, mK_nw, if_neg (by omega), kz3]
  rw [kO_t (s3 _), ck_t]
  have y3 : sR (cpy (nw M3 20 st) 23 (mZ M3) st) (mZ B) 3 (some (mZ M3)) = eA M3 23 (mZ B) 3 st := rfl
  simp only [y3]
  generalize h4' : eA M3 23 (mZ B) 3 st = M4
  have z4 : mZ M4 = mZ B + 4 := by rw [← h4', eA_Z, z3]
  have k4 : ∀ a, a < mZ B → mK M4 a = mK B a := fun a q => by rw [← h4', eA_K, if_neg (by omega), k3 a (by omega)]
  have kz4 : mK M4 (mZ B) = (2, 5) := by rw [← h4', eA_K, if_neg (by omega), kz3]
  have i4 : ∀ a, a < mZ B → mI M4 a = mI B a := fun a q => by rw [← h4', eA_I _ _ _ _ _ _ (by omega), i3 a (by omega)]
  have r4 : ∀ a j, a < mZ B → mR M4 a j = mR B a j := fun a j q => by rw [← h4', eA_R, if_neg (by omega), if_neg (by omega), r3 a j (by omega)]
  rw [kO_t (show mK M4 20 = (8, 11) by rw [k4 20 (by omega)]; exact sc.k20), ck_t, r4 20 3 (by omega), sc.r20_3, nn_s, i4 20 (by omega), h5, ev_copy (show mK M4 24 = (20, 500) by rw [k4 24 (by omega)]; exact sc.k24) (by omega) (by decide) (by omega), bd_s]
  have s4 : ∀ n, mK (cpy (nw M4 20 n) 24 (mZ M4) n) (mZ B) = (2, 5) := fun n => by rw [mK_cpy, mK_nw, if_neg (by omega), kz4]
  rw [kO_t (s4 _), ck_t]
  rfl
/-- what the five cells are -/
def EdN (B D : Mm) (mn : Int32) (st c : Nat) : Prop := mZ D = mZ B + 5 ∧ mS D = mS B + (5 + 3 * st + c) ∧ (∀ a, a < mZ B ∨ mZ B + 5 ≤ a → mK D a = mK B a ∧ mI D a = mI B a ∧ mR D a = mR B a ∧ mL D a = mL B a) ∧ (mK D (mZ B) = (2, 5) ∧ mK D (mZ B + 1) = (20, st) ∧ mK D (mZ B + 2) = (20, st) ∧ mK D (mZ B + 3) = (20, st) ∧ mK D (mZ B + 4) = (20, c)) ∧ (mR D (mZ B) 1 = some (mZ B + 1) ∧ mR D (mZ B) 2 = some (mZ B + 2) ∧ mR D (mZ B) 3 = some (mZ B + 3) ∧ mR D (mZ B) 4 = some (mZ B + 4)) ∧ mI D (mZ B) 0 = mn ∧ (∀ j, j < st → mI D (mZ B + 1) j = mI B 21 j ∧ mI D (mZ B + 2) j = mI B 22 j ∧ mI D (mZ B + 3) j = mI B 23 j) ∧ (∀ j, j < c → mI D (mZ B + 4) j = mI B 24 j)
theorem eC_n (hz : 116 ≤ mZ B) (mn : Int32) (st c : Nat) : EdN B (eC B mn st c) mn st c := by
  unfold eC
  generalize h1 : sI (nw B 2 5) (mZ B) 0 mn = M1
  have z1 : mZ M1 = mZ B + 1 := by rw [← h1]; rfl
  have S1 : mS M1 = mS B + 5 := by rw [← h1]; rfl
  have k1 : ∀ a, mK M1 a = if a = mZ B then (2, 5) else mK B a := fun a => by rw [← h1]; rfl
  have i1 : ∀ a, a ≠ mZ B → mI M1 a = mI B a := fun a q => by
    rw [← h1, row_n q]; funext j; rw [mI_nw, if_neg q]
  have i10 : mI M1 (mZ B) 0 = mn := by rw [← h1, mI_sI, if_pos ⟨rfl, rfl⟩]
  have r1 : ∀ a j, mR M1 a j = if a = mZ B then none else mR B a j := fun a j => by rw [← h1]; rfl
  have l1 : ∀ a, a ≠ mZ B → mL M1 a = mL B a := fun a q => by
    rw [← h1]; funext j; show mL (nw B 2 5) a j = _; rw [mL_nw, if_neg q]
  clear h1
  generalize h2 : eA M1 21 (mZ B) 1 st = M2
  have z2 : mZ M2 = mZ B + 2 := by rw [← h2, eA_Z, z1]
  have S2 : mS M2 = mS B + 5 + st := by rw [← h2, eA_S, S1]
  have k2 : ∀ a, mK M2 a = if a = mZ B + 1 then (20, st) else mK M1 a := fun a => by rw [← h2, eA_K, z1]
  have i2 : ∀ a, a ≠ mZ B + 1 → mI M2 a = mI M1 a := fun a q => by rw [← h2, eA_I _ _ _ _ _ _ (by omega)]
  have j2 : ∀ j, j < st → mI M2 (mZ B + 1) j = mI B 21 j := fun j q => by rw [← h2, ← z1, eA_Iz _ _ _ _ _ _ (by omega) q, i1 21 (by omega)]
  have r2 : ∀ a j, mR M2 a j = if a = mZ B ∧ j = 1 then some (mZ B + 1) else if a = mZ B + 1 then none else mR M1 a j := fun a j => by rw [← h2, eA_R, z1]
  have l2 : ∀ a, a ≠ mZ B + 1 → mL M2 a = mL M1 a := fun a q => by rw [← h2, eA_L _ _ _ _ _ _ (by omega)]
  clear h2
  generalize h3 : eA M2 22 (mZ B) 2 st = M3
  have z3 : mZ M3 = mZ B + 3 := by rw [← h3, eA_Z, z2]
  have S3 : mS M3 = mS B + 5 + st + st := by rw [← h3, eA_S, S2]
  have k3 : ∀ a, mK M3 a = if a = mZ B + 2 then (20, st) else mK M2 a := fun a => by rw [← h3, eA_K, z2]
  have i3 : ∀ a, a ≠ mZ B + 2 → mI M3 a = mI M2 a := fun a q => by rw [← h3, eA_I _ _ _ _ _ _ (by omega)]
  have j3 : ∀ j, j < st → mI M3 (mZ B + 2) j = mI B 22 j := fun j q => by rw [← h3, ← z2, eA_Iz _ _ _ _ _ _ (by omega) q, i2 22 (by omega), i1 22 (by omega)]
  have r3 : ∀ a j, mR M3 a j = if a = mZ B ∧ j = 2 then some (mZ B + 2) else if a = mZ B + 2 then none else mR M2 a j := fun a j => by rw [← h3, eA_R, z2]
  have l3 : ∀ a, a ≠ mZ B + 2 → mL M3 a = mL M2 a := fun a q => by rw [← h3, eA_L _ _ _ _ _ _ (by omega)]
  clear h3
  generalize h4 : eA M3 23 (mZ B) 3 st = M4
  have z4 : mZ M4 = mZ B + 4 := by rw [← h4, eA_Z, z3]
  have S4 : mS M4 = mS B + 5 + st + st + st := by rw [← h4, eA_S, S3]
  have k4 : ∀ a, mK M4 a = if a = mZ B + 3 then (20, st) else mK M3 a := fun a => by rw [← h4, eA_K, z3]
  have i4 : ∀ a, a ≠ mZ B + 3 → mI M4 a = mI M3 a := fun a q => by rw [← h4, eA_I _ _ _ _ _ _ (by omega)]
  have j4 : ∀ j, j < st → mI M4 (mZ B + 3) j = mI B 23 j := fun j q => by rw [← h4, ← z3, eA_Iz _ _ _ _ _ _ (by omega) q, i3 23 (by omega), i2 23 (by omega), i1 23 (by omega)]
  have r4 : ∀ a j, mR M4 a j = if a = mZ B ∧ j = 3 then some (mZ B + 3) else if a = mZ B + 3 then none else mR M3 a j := fun a j => by rw [← h4, eA_R, z3]
  have l4 : ∀ a, a ≠ mZ B + 3 → mL M4 a = mL M3 a := fun a q => by rw [← h4, eA_L _ _ _ _ _ _ (by omega)]
  clear h4
  generalize h5 : eA M4 24 (mZ B) 4 c = M5
  have z5 : mZ M5 = mZ B + 5 := by rw [← h5, eA_Z, z4]
  have S5 : mS M5 = mS B + 5 + st + st + st + c := by rw [← h5, eA_S, S4]
  have k5 : ∀ a, mK M5 a = if a = mZ B + 4 then (20, c) else mK M4 a := fun a => by rw [← h5, eA_K, z4]
  have i5 : ∀ a, a ≠ mZ B + 4 → mI M5 a = mI M4 a := fun a q => by rw [← h5, eA_I _ _ _ _ _ _ (by omega)]
  have j5 : ∀ j, j < c → mI M5 (mZ B + 4) j = mI B 24 j := fun j q => by rw [← h5, ← z4, eA_Iz _ _ _ _ _ _ (by omega) q, i4 24 (by omega), i3 24 (by omega), i2 24 (by omega), i1 24 (by omega)]
  have r5 : ∀ a j, mR M5 a j = if a = mZ B ∧ j = 4 then some (mZ B + 4) else if a = mZ B + 4 then none else mR M4 a j := fun a j => by rw [← h5, eA_R, z4]
  have l5 : ∀ a, a ≠ mZ B + 4 → mL M5 a = mL M4 a := fun a q => by rw [← h5, eA_L _ _ _ _ _ _ (by omega)]
  clear h5
  refine ⟨z5, by omega, fun a q => ⟨?_, ?_, ?_, ?_⟩, ⟨?_, ?_, ?_, ?_, ?_⟩, ⟨?_, ?_, ?_, ?_⟩, ?_, fun j q => ⟨?_, ?_, ?_⟩, j5⟩
  · rw [k5, if_neg (by omega), k4, if_neg (by omega), k3, if_neg (by omega), k2, if_neg (by omega), k1, if_neg (by omega)]
  · rw [i5 a (by omega), i4 a (by omega), i3 a (by omega), i2 a (by omega), i1 a (by omega)]
  · funext j
    rw [r5, if_neg (by omega), if_neg (by omega), r4, if_neg (by omega), if_neg (by omega), r3, if_neg (by omega), if_neg (by omega), r2, if_neg (by omega), if_neg (by omega), r1, if_neg (by omega)]
  · rw [l5 a (by omega), l4 a (by omega), l3 a (by omega), l2 a (by omega), l1 a (by omega)]
  · rw [k5, if_neg (by omega), k4, if_neg (by omega), k3, if_neg (by omega), k2, if_neg (by omega), k1, if_pos rfl]
  · rw [k5, if_neg (by omega), k4, if_neg (by omega), k3, if_neg (by omega), k2, if_pos rfl]
  · rw [k5, if_neg (by omega), k4, if_neg (by omega), k3, if_pos rfl]
  · rw [k5, if_neg (by omega), k4, if_pos rfl]
  · rw [k5, if_pos rfl]
  · rw [r5, if_neg (by omega), if_neg (by omega), r4, if_neg (by omega), if_neg (by omega), r3, if_neg (by omega), if_neg (by omega), r2, if_pos ⟨rfl, rfl⟩]
  · rw [r5, if_neg (by omega), if_neg (by omega), r4, if_neg (by omega), if_neg (by omega), r3, if_pos ⟨rfl, rfl⟩]
  · rw [r5, if_neg (by omega), if_neg (by omega), r4, if_pos ⟨rfl, rfl⟩]
  · rw [r5, if_pos ⟨rfl, rfl⟩]
  · rw [i5 _ (by omega), i4 _ (by omega), i3 _ (by omega), i2 _ (by omega), i10]
  · rw [i5 _ (by omega), i4 _ (by omega), i3 _ (by omega)]; exact j2 j q
  · rw [i5 _ (by omega), i4 _ (by omega)]; exact j3 j q
  · rw [i5 _ (by omega)]; exact j4 j q
end ZA1
