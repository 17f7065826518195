section Y5
variable {k : Nat} {ad : Nat → Nat → Nat} {C R : Mm}
theorem ev_strike {M : Mm} {T c : Nat} {r u v : Int32} (kT : mK M T = (20, 60)) (c60 : c < 60) (r0 : 0 ≤ r) (r60 : ix r < 60) (ne : ix r ≠ c) (eu : mI M T c = u) (ev : mI M T (ix r) = v) : Session_strike M (Int32.ofNat c) r T = some (if v < u then v else u, sI (sI M T c (u - (if v < u then v else u))) T (ix r) (v - (if v < u then v else u))) := by
  have C0 : (0 : Int32) ≤ Int32.ofNat c := of_nn _ (by omega)
  have C1 : ix (Int32.ofNat c) = c := ix_of _ (by omega)
  have a2 : ∀ x, mI (sI M T c x) T (ix r) = v := fun x => by rw [mI_sI, if_neg (fun z => ne z.2), ev]
  unfold Session_strike
  simp only [kA_t kT C0 (show ix (Int32.ofNat c) < 60 by omega), kA_t kT r0 r60, ck_t, C1, ev_min, bd_s, kA_sI, eu, ev, a2]
theorem ev_bnew {M : Mm} {z X Y : Nat} {n : Int32} (kz : mK M z = (0, 14)) (kX : mK M X = (1, 6)) (kY : mK M Y = (1, 6)) (zX : X ≠ z) (zY : Y ≠ z) : Bargain_new M z X Y n = some ((), sI (sI (sI (sI (sI M z 0 (if mI M X 1 = 0 then mI M Y 0 else mI M X 0)) z 1 (if mI M X 1 = 0 then mI M X 0 else mI M Y 0)) z 2 n) z 3 (mI M Y 3)) z 4 (mI M X 4)) := by
  unfold Bargain_new Bargain_new_J23 Bargain_new_J45
  simp only [kO_sI, kO_t kz, kO_t kX, kO_t kY, ck_t, row_n zX, row_n zY]
  by_cases c : mI M X 1 = 0
  · simp only [if_pos c]
  · simp only [if_neg c]
theorem turn_C {C M N P : Mm} {X T S11 S13 X1 Y1 z c i : Nat} {r n q : Int32} (K : Nat → Int32 → Int32 → Mm → Option (Unit × Mm)) (kX : mK C X = (9, 11)) (i4 : ¬ mI C X 4 ≤ Int32.ofNat i) (rT : mR C X 2 = some T) (kT : mK C T = (20, 60)) (c60 : c < 60) (st : ¬ mI C T c ≤ 0) (e1 : Session_bestPartner C X (Int32.ofNat c) T = some (r, C)) (r0 : 0 ≤ r) (r60 : ix r < 60) (i5 : mI C X 5 < 60) (e2 : Session_strike C (Int32.ofNat c) r T = some (n, M)) (kM : mK M X = (9, 11)) (m3 : mR M X 3 = some S13) (m5 : mI M X 5 = q) (mz : mZ M = z) (eN : nw M 0 14 = N) (kN : mK N X = (9, 11)) (n1 : mR N X 1 = some S11) (k11 : mK N S11 = (28, 60)) (nc : mR N S11 c = some X1) (nr : mR N S11 (ix r) = some Y1) (e3 : Bargain_new N z X1 Y1 n = some ((), P)) (q0 : 0 ≤ q) (q60 : ix q < 60) (k13 : mK P S13 = (29, 60)) (kz : mK P z = (0, 14)) (kP : mK P X = (9, 11)) (p5 : mI P X 5 = q) (i60 : i < 60) : Session_meet_B30 K X (Int32.ofNat c) (Int32.ofNat i) C = K X (Int32.ofNat c) (Int32.ofNat (i + 1)) (sI (sR P S13 (ix q) (some z)) X 5 (q + 1)) := by
  have C0 : (0 : Int32) ≤ Int32.ofNat c := of_nn _ (by omega)
  have C1 : ix (Int32.ofNat c) = c := ix_of _ (by omega)
  have rn : ¬ r = -1 := by grind
  have kP' : kO (sR P S13 (ix q) (some z)) X 9 11 = true := kO_t kP
  have p5' : mI (sR P S13 (ix q) (some z)) X 5 = q := p5
  unfold Session_meet_B30
  simp only [kO_t kX, ck_t, if_neg i4, rT, nn_s, kA_t kT C0 (show ix (Int32.ofNat c) < 60 by omega), C1, if_neg st, e1, bd_s, if_neg rn, if_pos i5, e2, kO_t kM, m3, mz, eN, kO_t kN, n1, kA_t k11 C0 (show ix (Int32.ofNat c) < 60 by omega), nc, kA_t k11 r0 r60, nr, e3, m5, kA_t k13 q0 q60, kO_t kz, kP', p5', of_s1 i (by omega)]
/-- behind the two names, the reference's turn -/
theorem turn_R2 {M : Mm} {s c y x : Nat} {p b r n s0 : Int32} (K : Nat → Int32 → Int32 → Int32 → Int32 → Int32 → Mm → Option (Int32 × Mm)) (sM : SR M) (s24 : s < 24) (c60 : c < 60) (hy : y < 1440) (hx : 60 * Int32.ofNat s + r = Int32.ofNat x) (x1 : x < 1440) : Mod_cry_J362 K 39 p b (Int32.ofNat s) (Int32.ofNat c) r n (Int32.ofNat y) s0 (Int32.ofNat y) 99 M = (fun M' => if mI M 109 c = 0 then K 39 p b (Int32.ofNat s) (Int32.ofNat c) (-1) M' else bd (Mod_against M' 39 (Int32.ofNat s) (Int32.ofNat c) (Int32.ofNat c)) (fun r' M'' => K 39 p b (Int32.ofNat s) (Int32.ofNat c) r' M'')) (sI (sI (sI (sI (sI M 99 y s0) 100 y n) 101 y (mI M 94 x)) 102 y (mI M 39 0)) 88 s (mI M 88 s + 1)) := by
  have S0 : (0 : Int32) ≤ Int32.ofNat s := of_nn _ (by omega)
  have S1 : ix (Int32.ofNat s) = s := ix_of _ (by omega)
  have C0 : (0 : Int32) ≤ Int32.ofNat c := of_nn _ (by omega)
  have C1 : ix (Int32.ofNat c) = c := ix_of _ (by omega)
  have Y0 : (0 : Int32) ≤ Int32.ofNat y := of_nn _ (by omega)
  have Y1 : ix (Int32.ofNat y) = y := ix_of _ (by omega)
  have X0 : (0 : Int32) ≤ Int32.ofNat x := of_nn _ (by omega)
  have X1 : ix (Int32.ofNat x) = x := ix_of _ (by omega)
  unfold Mod_cry_J362 Mod_cry_J438
  simp only [kO_sI, kA_sI, mR_sI, kO_t sM.k39, ck_t, kA_t sM.k99 Y0 (show ix (Int32.ofNat y) < 1440 by omega), Y1, sM.r39_91, nn_s, kA_t sM.k100 Y0 (show ix (Int32.ofNat y) < 1440 by omega), sM.r39_92, sM.r39_85, hx, kA_t sM.k94 X0 (show ix (Int32.ofNat x) < 1440 by omega), kA_t sM.k101 Y0 (show ix (Int32.ofNat y) < 1440 by omega), X1, sM.r39_93, kA_t sM.k102 Y0 (show ix (Int32.ofNat y) < 1440 by omega), sM.r39_79, kA_t sM.k88 S0 (show ix (Int32.ofNat s) < 24 by omega), S1, sM.r39_100, kA_t sM.k109 C0 (show ix (Int32.ofNat c) < 60 by omega), C1, row_n (show 94 ≠ 99 by decide), row_n (show 94 ≠ 100 by decide), row_n (show 39 ≠ 99 by decide), row_n (show 39 ≠ 100 by decide), row_n (show 39 ≠ 101 by decide), row_n (show 88 ≠ 99 by decide), row_n (show 88 ≠ 100 by decide), row_n (show 88 ≠ 101 by decide), row_n (show 88 ≠ 102 by decide), row_n (show 109 ≠ 99 by decide), row_n (show 109 ≠ 100 by decide), row_n (show 109 ≠ 101 by decide), row_n (show 109 ≠ 102 by decide), row_n (show 109 ≠ 88 by decide)]
theorem turn_R1 {M : Mm} {s c y x : Nat} {p b r n s0 : Int32} (K : Nat → Int32 → Int32 → Int32 → Int32 → Int32 → Mm → Option (Int32 × Mm)) (sM : SR M) (s24 : s < 24) (c60 : c < 60) (hy : y < 1440) (hx : 60 * Int32.ofNat s + r = Int32.ofNat x) (x1 : x < 1440) : Mod_cry_J334 K 39 p b (Int32.ofNat s) (Int32.ofNat c) r n (Int32.ofNat y) s0 (Int32.ofNat y) 98 M = (fun M' => if mI M 109 c = 0 then K 39 p b (Int32.ofNat s) (Int32.ofNat c) (-1) M' else bd (Mod_against M' 39 (Int32.ofNat s) (Int32.ofNat c) (Int32.ofNat c)) (fun r' M'' => K 39 p b (Int32.ofNat s) (Int32.ofNat c) r' M'')) (sI (sI (sI (sI (sI (sI M 98 y s0) 99 y (if b = 0 then p else mI M 92 x)) 100 y n) 101 y (mI M 94 x)) 102 y (mI M 39 0)) 88 s (mI M 88 s + 1)) := by
  have Y0 : (0 : Int32) ≤ Int32.ofNat y := of_nn _ (by omega)
  have Y1 : ix (Int32.ofNat y) = y := ix_of _ (by omega)
  have X0 : (0 : Int32) ≤ Int32.ofNat x := of_nn _ (by omega)
  have X1 : ix (Int32.ofNat x) = x := ix_of _ (by omega)
  have s1 : SR (sI M 98 y s0) := sM
  have e := fun s0' => turn_R2 (M := sI M 98 y s0) (s := s) (c := c) (y := y) (x := x) (p := p) (b := b) (r := r) (n := n) (s0 := s0') K s1 s24 c60 hy hx x1
  have a1 : mI (sI M 98 y s0) 109 = mI M 109 := row_n (by decide)
  have a2 : mI (sI M 98 y s0) 94 = mI M 94 := row_n (by decide)
  have a3 : mI (sI M 98 y s0) 39 = mI M 39 := row_n (by decide)
  have a4 : mI (sI M 98 y s0) 88 = mI M 88 := row_n (by decide)
  have a5 : mI (sI M 98 y s0) 92 = mI M 92 := row_n (by decide)
  simp only [a1, a2, a3, a4] at e
  unfold Mod_cry_J334
  simp only [kO_sI, kA_sI, mR_sI, kO_t sM.k39, ck_t, kA_t sM.k98 Y0 (show ix (Int32.ofNat y) < 1440 by omega), Y1, sM.r39_90, nn_s, sM.r39_83, hx, kA_t sM.k92 X0 (show ix (Int32.ofNat x) < 1440 by omega), X1, a5, e]
  by_cases w : b = 0
  · simp only [if_pos w]
  · simp only [if_neg w]
/-- the reference's memory behind a turn -/
def tR' (R : Mm) (s c j0 q : Nat) (p b n u w : Int32) : Mm := sI (sI (sI (sI (sI (sI (sI (sI R 109 c u) 109 j0 w) 98 (60 * s + q) (if b = 0 then mI R 92 (60 * s + j0) else p)) 99 (60 * s + q) (if b = 0 then p else mI R 92 (60 * s + j0))) 100 (60 * s + q) n) 101 (60 * s + q) (mI R 94 (60 * s + j0))) 102 (60 * s + q) (mI R 39 0)) 88 s (Int32.ofNat (q + 1))
theorem turn_R {s c q : Nat} {p b r u v : Int32} (K : Nat → Int32 → Int32 → Int32 → Int32 → Int32 → Mm → Option (Int32 × Mm)) (sM : SR R) (s24 : s < 24) (c60 : c < 60) (q60 : q < 60) (hq : mI R 88 s = Int32.ofNat q) (r0 : 0 ≤ r) (r60 : ix r < c) (eu : mI R 109 c = u) (ev : mI R 109 (ix r) = v) : Mod_cry_B244 K 39 p b (Int32.ofNat s) (Int32.ofNat c) r R = (fun M' => if u - (if v < u then v else u) = 0 then K 39 p b (Int32.ofNat s) (Int32.ofNat c) (-1) M' else bd (Mod_against M' 39 (Int32.ofNat s) (Int32.ofNat c) (Int32.ofNat c)) (fun r' M'' => K 39 p b (Int32.ofNat s) (Int32.ofNat c) r' M'')) (tR' R s c (ix r) q p b (if v < u then v else u) (u - (if v < u then v else u)) (v - (if v < u then v else u))) := by
  have S0 : (0 : Int32) ≤ Int32.ofNat s := of_nn _ (by omega)
  have S1 : ix (Int32.ofNat s) = s := ix_of _ (by omega)
  have C0 : (0 : Int32) ≤ Int32.ofNat c := of_nn _ (by omega)
  have C1 : ix (Int32.ofNat c) = c := ix_of _ (by omega)
  have ex : 60 * Int32.ofNat s + r = Int32.ofNat (60 * s + ix r) := by rw [← of_add, of_ix r r0, show (60 : Int32) = Int32.ofNat 60 from rfl, of_mul]
  have ey : 60 * Int32.ofNat s + Int32.ofNat q = Int32.ofNat (60 * s + q) := by rw [show (60 : Int32) = Int32.ofNat 60 from rfl, of_mul, of_add]
  have X0 : (0 : Int32) ≤ Int32.ofNat (60 * s + ix r) := of_nn _ (by omega)
  have X1 : ix (Int32.ofNat (60 * s + ix r)) = 60 * s + ix r := ix_of _ (by omega)
  have nlt : ¬ r < 0 := by grind
  generalize hn : (if v < u then v else u) = n
  have sN : SR (sI (sI R 109 c (u - n)) 109 (ix r) (v - n)) := sM
  have e := fun s0' => turn_R1 (M := sI (sI R 109 c (u - n)) 109 (ix r) (v - n)) (s := s) (c := c) (y := 60 * s + q) (x := 60 * s + ix r) (p := p) (b := b) (r := r) (n := n) (s0 := s0') K sN s24 c60 (by omega) ex (by omega)
  have a0 : ∀ a, a ≠ 109 → mI (sI (sI R 109 c (u - n)) 109 (ix r) (v - n)) a = mI R a := fun a h => (row_n h).trans (row_n h)
  have a1 : mI (sI (sI R 109 c (u - n)) 109 (ix r) (v - n)) 109 c = u - n := by rw [mI_sI, if_neg (by omega), mI_sI, if_pos ⟨rfl, rfl⟩]
  have a2 : mI (sI R 109 c (u - n)) 109 (ix r) = v := by rw [mI_sI, if_neg (by omega)]; exact ev
  simp only [a1, a0 94 (by decide), a0 39 (by decide), a0 88 (by decide), a0 92 (by decide), hq, of_s1 q (by omega)] at e
  unfold Mod_cry_B244
  simp only [if_neg nlt, kO_sI, kA_sI, mR_sI, kO_t sM.k39, ck_t, sM.r39_100, nn_s, kA_t sM.k109 C0 (show ix (Int32.ofNat c) < 60 by omega), kA_t sM.k109 r0 (show ix r < 60 by omega), C1, eu, ev, ev_mmin, hn, bd_s, a2, sM.r39_79, kA_t sM.k88 S0 (show ix (Int32.ofNat s) < 24 by omega), S1, a0 88 (by decide), hq, ey, sM.r39_89, sM.r39_83, ex, kA_t sM.k92 X0 (show ix (Int32.ofNat (60 * s + ix r)) < 1440 by omega), X1, a0 92 (by decide), e]
  unfold tR'
  by_cases w : b = 0
  · simp only [if_pos w]
  · simp only [if_neg w]
end Y5
