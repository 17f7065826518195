section Z1
variable {ad : Nat → Nat → Nat} {C R : Mm}
theorem again_R {s c x : Nat} {fl ce x4 x5 ev r u v : Int32} (k1 : Nat → Int32 → Int32 → Int32 → Int32 → Int32 → Int32 → Mm → Option (Int32 × Mm)) (K : Nat → Int32 → Int32 → Int32 → Int32 → Int32 → Int32 → Int32 → Int32 → Int32 → Mm → Option (Int32 × Mm)) (sM : SR R) (s24 : s < 24) (c60 : c < 60) (ex0 : x = 60 * s + c) (r0 : 0 ≤ r) (r60 : ix r < c) (eu : mI R 109 c = u) (ev0 : mI R 109 (ix r) = v) : Mod_other_B220 k1 K 39 (Int32.ofNat s) fl ce x4 x5 ev (Int32.ofNat c) (Int32.ofNat x) r R = (fun M' => if u - (if v < u then v else u) = 0 then K 39 (Int32.ofNat s) fl ce (mI R 94 (60 * s + ix r)) (mI R 95 x) ev (Int32.ofNat c) (Int32.ofNat x) (-1) M' else bd (Mod_against M' 39 (Int32.ofNat s) (Int32.ofNat c) (Int32.ofNat c)) (fun r' M'' => K 39 (Int32.ofNat s) fl ce (mI R 94 (60 * s + ix r)) (mI R 95 x) ev (Int32.ofNat c) (Int32.ofNat x) r' M'')) (sI (sI R 109 c (u - (if v < u then v else u))) 109 (ix r) (v - (if v < u then v else u))) := by
  have C0 : (0 : Int32) ≤ Int32.ofNat c := of_nn _ (by omega)
  have C1 : ix (Int32.ofNat c) = c := ix_of _ (by omega)
  have ex : 60 * Int32.ofNat s + r = Int32.ofNat (60 * s + ix r) := by rw [← of_add, of_ix r r0, show (60 : Int32) = Int32.ofNat 60 from rfl, of_mul]
  have X0 : (0 : Int32) ≤ Int32.ofNat (60 * s + ix r) := of_nn _ (by omega)
  have X1 : ix (Int32.ofNat (60 * s + ix r)) = 60 * s + ix r := ix_of _ (by omega)
  have Y0 : (0 : Int32) ≤ Int32.ofNat x := of_nn _ (by omega)
  have Y1 : ix (Int32.ofNat x) = x := ix_of _ (by omega)
  have nlt : ¬ r < 0 := by grind
  generalize hn : (if v < u then v else u) = n
  have a0 : ∀ a, a ≠ 109 → mI (sI (sI R 109 c (u - n)) 109 (ix r) (v - n)) a = mI R a := fun a h => (row_n h).trans (row_n h)
  have a1 : mI (sI (sI R 109 c (u - n)) 109 (ix r) (v - n)) 109 c = u - n := by rw [mI_sI, if_neg (by omega), mI_sI, if_pos ⟨rfl, rfl⟩]
  have a2 : mI (sI R 109 c (u - n)) 109 (ix r) = v := by rw [mI_sI, if_neg (by omega)]; exact ev0
  unfold Mod_other_B220 Mod_other_J314
  simp only [if_neg nlt, kO_sI, kA_sI, mR_sI, kO_t sM.k39, ck_t, sM.r39_100, nn_s, kA_t sM.k109 C0 (show ix (Int32.ofNat c) < 60 by omega), kA_t sM.k109 r0 (show ix r < 60 by omega), C1, eu, ev0, ev_mmin, hn, bd_s, a2, sM.r39_85, ex, kA_t sM.k94 X0 (show ix (Int32.ofNat (60 * s + ix r)) < 1440 by omega), X1, sM.r39_86, kA_t sM.k95 Y0 (show ix (Int32.ofNat x) < 1440 by omega), Y1, a0 94 (by decide), a0 95 (by decide), a1]
theorem again_C {C M : Mm} {X S11 Y1 c i : Nat} {r n x3 pr : Int32} (K : Nat → Int32 → Nat → Int32 → Int32 → Mm → Option (Int32 × Mm)) (kX : mK C X = (9, 11)) (i4 : ¬ mI C X 4 ≤ Int32.ofNat i) (kT : mK C 38 = (20, 60)) (c60 : c < 60) (st : ¬ mI C 38 c ≤ 0) (e1 : Session_bestPartner C X (Int32.ofNat c) 38 = some (r, C)) (r0 : 0 ≤ r) (r60 : ix r < 60) (e2 : Session_strike C (Int32.ofNat c) r 38 = some (n, M)) (kM : mK M X = (9, 11)) (m1 : mR M X 1 = some S11) (k11 : mK M S11 = (28, 60)) (nr : mR M S11 (ix r) = some Y1) (kY : mK M Y1 = (1, 6)) (p3 : mI M Y1 3 = pr) (i60 : i < 60) : Session_meetAgain_B5 K X (Int32.ofNat c) 38 x3 (Int32.ofNat i) C = K X (Int32.ofNat c) 38 pr (Int32.ofNat (i + 1)) M := by
  have C0 : (0 : Int32) ≤ Int32.ofNat c := of_nn _ (by omega)
  have C1 : ix (Int32.ofNat c) = c := ix_of _ (by omega)
  have rn : ¬ r = -1 := by grind
  unfold Session_meetAgain_B5
  simp only [kO_t kX, ck_t, if_neg i4, kA_t kT C0 (show ix (Int32.ofNat c) < 60 by omega), C1, if_neg st, e1, bd_s, if_neg rn, e2, kO_t kM, m1, nn_s, kA_t k11 r0 r60, nr, kO_t kY, p3, of_s1 i (by omega)]
/-- how many of the first n stand -/
def nzs (R : Mm) (n : Nat) : Int := sumTo (fun j => if mI R 109 j = 0 then 0 else 1) n
theorem nzs_pos {c n : Nat} (hc : c < n) (z : mI R 109 c ≠ 0) : 1 ≤ nzs R n := by
  have s1 := sumTo_one (f := fun i => if mI R 109 i = 0 then (0 : Int) else 1) (g := fun i => if i = c then 0 else if mI R 109 i = 0 then (0 : Int) else 1) (n := n) (i := c) hc (fun j _ w => by show _ = if j = c then (0 : Int) else _; rw [if_neg w])
  have s2 := sumTo_nn (f := fun i => if i = c then 0 else if mI R 109 i = 0 then (0 : Int) else 1) (n := n) (fun j _ => by show (0 : Int) ≤ if j = c then 0 else if mI R 109 j = 0 then (0 : Int) else 1; split <;> (try split) <;> omega)
  have s3 : (if mI R 109 c = 0 then (0 : Int) else 1) - (if c = c then 0 else if mI R 109 c = 0 then (0 : Int) else 1) = 1 := by rw [if_neg z, if_pos rfl]; rfl
  have s1 : nzs R n = sumTo (fun i => if i = c then 0 else if mI R 109 i = 0 then (0 : Int) else 1) n + ((if mI R 109 c = 0 then (0 : Int) else 1) - (if c = c then 0 else if mI R 109 c = 0 then (0 : Int) else 1)) := s1
  rw [s3] at s1
  omega
theorem nzs_two {R' : Mm} {c j0 n : Nat} {u w : Int32} (hc : c < n) (hj : j0 < n) (ne : j0 ≠ c) (q : ∀ j, mI R' 109 j = if j = j0 then w else if j = c then u else mI R 109 j) (c0 : mI R 109 c ≠ 0) (d0 : mI R 109 j0 ≠ 0) (hz : u = 0 ∨ w = 0) : nzs R' n + 1 ≤ nzs R n := by
  have s1 := sumTo_one (f := fun i => if (if i = c then u else mI R 109 i) = 0 then (0 : Int) else 1) (g := fun i => if mI R 109 i = 0 then (0 : Int) else 1) (n := n) (i := c) hc (fun j _ w => by
    show (if (if j = c then u else mI R 109 j) = 0 then (0 : Int) else 1) = _
    rw [if_neg w])
  have s2 := sumTo_one (f := fun i => if mI R' 109 i = 0 then (0 : Int) else 1) (g := fun i => if (if i = c then u else mI R 109 i) = 0 then (0 : Int) else 1) (n := n) (i := j0) hj (fun j _ w => by
    show (if mI R' 109 j = 0 then (0 : Int) else 1) = (if (if j = c then u else mI R 109 j) = 0 then (0 : Int) else 1)
    rw [q, if_neg w])
  have v1 : (if (if c = c then u else mI R 109 c) = 0 then (0 : Int) else 1) = if u = 0 then 0 else 1 := by rw [if_pos rfl]
  have v2 : (if mI R 109 c = 0 then (0 : Int) else 1) = 1 := if_neg c0
  have v3 : (if mI R' 109 j0 = 0 then (0 : Int) else 1) = if w = 0 then 0 else 1 := by rw [q, if_pos rfl]
  have v4 : (if (if j0 = c then u else mI R 109 j0) = 0 then (0 : Int) else 1) = 1 := by rw [if_neg ne, if_neg d0]
  simp only [v1, v2] at s1
  simp only [v3, v4] at s2
  unfold nzs
  rw [s2, s1]
  simp only [if_true]
  rcases hz with z | z
  · rw [if_pos z]; split <;> omega
  · rw [if_pos z]; split <;> omega
theorem lp_again {s c : Nat} {fl ce ev : Int32} (hA : Ad ad) (K : Nat → Int32 → Int32 → Int32 → Int32 → Int32 → Int32 → Mm → Option (Int32 × Mm)) : ∀ (d n n2 i : Nat) (C R : Mm) (x3 x4 x5 r : Int32), WR ad C R → s < ix (mI R 39 70) → c < ix (mI R 87 s) → mK C 38 = (20, 60) → (∀ j, j ≤ c → mI C 38 j = mI R 109 j ∧ 0 ≤ mI R 109 j ∧ mI R 109 j ≤ 50) → nzs R (c + 1) ≤ d → i + d ≤ ix (mI R 87 s) → d < n → d < n2 → (mI R 109 c = 0 → r = -1) → (mI R 109 c ≠ 0 → Mod_against R 39 (Int32.ofNat s) (Int32.ofNat c) (Int32.ofNat c) = some (r, R)) → ∃ C' R' x3' x4' x5', Session_meetAgain_L5 n (ad 10 s) (Int32.ofNat c) 38 x3 (Int32.ofNat i) C = some (x3', C') ∧ Mod_other_L220 K n2 39 (Int32.ofNat s) fl ce x4 x5 ev (Int32.ofNat c) (Int32.ofNat (60 * s + c)) r R = K 39 (Int32.ofNat s) fl ce x4' x5' (ev + 1) R' ∧ ExC C C' ∧ EO R R' ∧ (∀ j, j ≤ c → mI C' 38 j = mI R' 109 j ∧ 0 ≤ mI R' 109 j ∧ mI R' 109 j ≤ 50) ∧ (∀ j, c < j → mI R' 109 j = mI R 109 j) ∧ ((x3' = x3 ∧ x4' = x4 ∧ x5' = x5) ∨ (x3' = x4' ∧ 1 ≤ x4' ∧ x5' = mI R 95 (60 * s + c))) := by
  have stop : ∀ (n n2 i : Nat) (C R : Mm) (x3 x4 x5 r : Int32), WR ad C R → s < ix (mI R 39 70) → c < ix (mI R 87 s) → mK C 38 = (20, 60) → (∀ j, j ≤ c → mI C 38 j = mI R 109 j ∧ 0 ≤ mI R 109 j ∧ mI R 109 j ≤ 50) → mI R 109 c = 0 → r = -1 → Session_meetAgain_L5 (n + 1) (ad 10 s) (Int32.ofNat c) 38 x3 (Int32.ofNat i) C = some (x3, C) ∧ Mod_other_L220 K (n2 + 1) 39 (Int32.ofNat s) fl ce x4 x5 ev (Int32.ofNat c) (Int32.ofNat (60 * s + c)) r R = K 39 (Int32.ofNat s) fl ce x4 x5 (ev + 1) R := by
    intro n n2 i C R x3 x4 x5 r w hs hc kT st z hr
    have h60 := (w.2.2 s hs).1
    have sh := (w.2.2 s hs).2
    have C0 : (0 : Int32) ≤ Int32.ofNat c := of_nn _ (by omega)
    have C1 : ix (Int32.ofNat c) = c := ix_of _ (by omega)
    refine ⟨?_, ?_⟩
    · show Session_meetAgain_B5 _ _ _ _ _ _ _ = _
      unfold Session_meetAgain_B5
      simp only [kO_t sh.1, ck_t, kA_t kT C0 (show ix (Int32.ofNat c) < 60 by omega), C1, (st c (Nat.le_refl _)).1, z, if_pos (show (0 : Int32) ≤ 0 by decide)]
      split <;> rfl
    · show Mod_other_B220 _ _ _ _ _ _ _ _ _ _ _ _ _ = _
      unfold Mod_other_B220 Mod_other_J319
      rw [hr, if_pos (by decide)]
  intro d
  induction d with
  | zero =>
    intro n n2 i C R x3 x4 x5 r w hs hc kT st nz hi hn hn2 r1 r2
    obtain ⟨n, rfl⟩ : ∃ x, n = x + 1 := ⟨n - 1, by omega⟩
    obtain ⟨n2, rfl⟩ : ∃ x, n2 = x + 1 := ⟨n2 - 1, by omega⟩
    have z : mI R 109 c = 0 := by
      apply Classical.byContradiction
      intro y
      have := nzs_pos (R := R) (c := c) (n := c + 1) (by omega) y
      omega
    obtain ⟨e1, e2⟩ := stop n n2 i C R x3 x4 x5 r w hs hc kT st z (r1 z)
    exact ⟨C, R, x3, x4, x5, e1, e2, ExC.rf, EO.rf, st, fun _ _ => rfl, Or.inl ⟨rfl, rfl, rfl⟩⟩
  | succ d ih =>
    intro n n2 i C R x3 x4 x5 r w hs hc kT st nz hi hn hn2 r1 r2
    obtain ⟨n, rfl⟩ : ∃ x, n = x + 1 := ⟨n - 1, by omega⟩
    obtain ⟨n2, rfl⟩ : ∃ x, n2 = x + 1 := ⟨n2 - 1, by omega⟩
    have hN := w.2.1
    have h60 := (w.2.2 s hs).1
    have sh := (w.2.2 s hs).2
    by_cases z : mI R 109 c = 0
    · obtain ⟨e1, e2⟩ := stop n n2 i C R x3 x4 x5 r w hs hc kT st z (r1 z)
      exact ⟨C, R, x3, x4, x5, e1, e2, ExC.rf, EO.rf, st, fun _ _ => rfl, Or.inl ⟨rfl, rfl, rfl⟩⟩
    · have ra := r2 z
      obtain ⟨r', b1, b2, b3⟩ := wv_part w hs hc kT (fun j hj => ⟨(st j (by omega)).1, (st j (by omega)).2.1⟩)
      obtain rfl : r' = r := by rw [ra] at b2; injection b2 with b2; exact (Prod.mk.inj b2).1.symm
      have bc := st c (Nat.le_refl _)
      have pos : ¬ mI C 38 c ≤ 0 := by rw [bc.1]; clear w ih sh; grind
      have e87 : mI R 87 s = Int32.ofNat (ix (mI R 87 s)) := (of_ix _ h60.2).symm
      have i4 : ¬ mI C (ad 10 s) 4 ≤ Int32.ofNat i := by
        rw [sh.2.2.2.1, e87]
        intro y
        have := (of_le _ i (by omega) (by omega)).mp y
        omega
      have C0 : (0 : Int32) ≤ Int32.ofNat c := of_nn _ (by omega)
      have C1 : ix (Int32.ofNat c) = c := ix_of _ (by omega)
      rcases b3 with y | ⟨w0, w1, w2⟩
      · subst y
        refine ⟨C, R, x3, x4, x5, ?_, ?_, ExC.rf, EO.rf, st, fun _ _ => rfl, Or.inl ⟨rfl, rfl, rfl⟩⟩
        · show Session_meetAgain_B5 _ _ _ _ _ _ _ = _
          unfold Session_meetAgain_B5
          simp only [kO_t sh.1, ck_t, if_neg i4, kA_t kT C0 (show ix (Int32.ofNat c) < 60 by omega), C1, if_neg pos, b1, bd_s, if_true]
        · show Mod_other_B220 _ _ _ _ _ _ _ _ _ _ _ _ _ = _
          unfold Mod_other_B220 Mod_other_J319
          rw [if_pos (by decide)]
      · have j60 : ix r' < 60 := by omega
        have bj := st (ix r') (by omega)
        have tR := again_R (R := R) (s := s) (c := c) (x := 60 * s + c) (fl := fl) (ce := ce) (x4 := x4) (x5 := x5) (ev := ev) (r := r') (u := mI R 109 c) (v := mI R 109 (ix r')) K (Mod_other_L220 K n2) w.1 (by omega) (by omega) rfl w0 w1 rfl rfl
        have eS := ev_strike (M := C) (T := 38) (c := c) (r := r') (u := mI R 109 c) (v := mI R 109 (ix r')) kT (by omega) w0 j60 (by omega) bc.1 bj.1
        have un : ∃ nn0 u w : Int32, (if mI R 109 (ix r') < mI R 109 c then mI R 109 (ix r') else mI R 109 c) = nn0 ∧ mI R 109 c - nn0 = u ∧ mI R 109 (ix r') - nn0 = w ∧ (0 ≤ u ∧ u ≤ 50) ∧ (0 ≤ w ∧ w ≤ 50) ∧ (u = 0 ∨ w = 0) := by
          refine ⟨_, _, _, rfl, rfl, rfl, ?_⟩
          have x1 := bc.2
          have x2 := bj.2
          have x3 := z
          have x4 := w2
          generalize mI R 109 c = a1 at x1 x3 ⊢
          generalize mI R 109 (ix r') = a2 at x2 x4 ⊢
          clear tR eS ra b1 b2 r1 r2 sh w ih stop st
          split <;> grind
        obtain ⟨n0, u, v, en, eu, ew, hu, hv, huw⟩ := un
        rw [en, eu, ew] at tR eS
        have ex1 : ExC C (sI (sI C 38 c u) 38 (ix r') v) := (ExC.rf.s (by unfold tC; omega)).s (by unfold tC; omega)
        have ex2 : EO R (sI (sI R 109 c u) 109 (ix r') v) := EO.rf.s.s
        have q38 : ∀ j, mI (sI (sI C 38 c u) 38 (ix r') v) 38 j = if j = ix r' then v else if j = c then u else mI C 38 j := fun j => by
          rw [mI_sI, mI_sI]
          by_cases y : j = ix r'
          · rw [if_pos ⟨rfl, y⟩, if_pos y]
          · rw [if_neg (fun z => y z.2), if_neg y]
            by_cases y : j = c
            · rw [if_pos ⟨rfl, y⟩, if_pos y]
            · rw [if_neg (fun z => y z.2), if_neg y]
        have q109 : ∀ j, mI (sI (sI R 109 c u) 109 (ix r') v) 109 j = if j = ix r' then v else if j = c then u else mI R 109 j := fun j => by
          rw [mI_sI, mI_sI]
          by_cases y : j = ix r'
          · rw [if_pos ⟨rfl, y⟩, if_pos y]
          · rw [if_neg (fun z => y z.2), if_neg y]
            by_cases y : j = c
            · rw [if_pos ⟨rfl, y⟩, if_pos y]
            · rw [if_neg (fun z => y z.2), if_neg y]
        generalize sI (sI C 38 c u) 38 (ix r') v = C1' at *
        generalize sI (sI R 109 c u) 109 (ix r') v = R1' at *
        have wr := w.ch hA ex1 ex2
        have g39 := ex2.1 39 (by decide)
        have g87 := ex2.1 87 (by decide)
        have kT1 : mK C1' 38 = (20, 60) := by rw [ex1.2.2.2.1]; exact kT
        have st1 : ∀ j, j ≤ c → mI C1' 38 j = mI R1' 109 j ∧ 0 ≤ mI R1' 109 j ∧ mI R1' 109 j ≤ 50 := fun j hj => by
          rw [q38, q109]
          split
          · exact ⟨rfl, hv⟩
          · split
            · exact ⟨rfl, hu⟩
            · exact st j hj
        have nz1 := nzs_two (R := R) (R' := R1') (n := c + 1) (show c < c + 1 by omega) (show ix r' < c + 1 by omega) (by omega) q109 z w2 huw
        have n109 : mI R1' 109 c = u := by rw [q109, if_neg (by omega), if_pos rfl]
        have sj := (sh.2.2.2.2 (ix r') (by omega))
        have p3 : mI C1' (ad 14 (60 * s + ix r')) 3 = mI R 94 (60 * s + ix r') := by rw [ex1.atA hA]; exact sj.2.2.2.2.1
        have tC := again_C (C := C) (M := C1') (X := ad 10 s) (S11 := ad 11 s) (Y1 := ad 14 (60 * s + ix r')) (c := c) (i := i) (r := r') (n := n0) (x3 := x3) (pr := mI R 94 (60 * s + ix r')) (Session_meetAgain_L5 n) sh.1 i4 kT (by omega) pos b1 w0 j60 eS (by rw [ex1.2.2.2.1]; exact sh.1) (by rw [ex1.2.2.1]; exact sh.2.1) (by rw [ex1.2.2.2.1]; exact sh.2.2.1) (by rw [ex1.2.2.1]; exact sj.1.1) (by rw [ex1.2.2.2.1]; exact sj.1.2) p3 (by omega)
        have hs1 : s < ix (mI R1' 39 70) := by rw [g39]; exact hs
        have hc1 : c < ix (mI R1' 87 s) := by rw [g87]; exact hc
        have go : ∀ r2, (mI R1' 109 c = 0 → r2 = -1) → (mI R1' 109 c ≠ 0 → Mod_against R1' 39 (Int32.ofNat s) (Int32.ofNat c) (Int32.ofNat c) = some (r2, R1')) → _ := fun r2 y1 y2 => ih n n2 (i + 1) C1' R1' (mI R 94 (60 * s + ix r')) (mI R 94 (60 * s + ix r')) (mI R 95 (60 * s + c)) r2 wr hs1 hc1 kT1 st1 (by omega) (by rw [g87]; omega) (by omega) (by omega) y1 y2
        have fin : ∀ r2, (mI R1' 109 c = 0 → r2 = -1) → (mI R1' 109 c ≠ 0 → Mod_against R1' 39 (Int32.ofNat s) (Int32.ofNat c) (Int32.ofNat c) = some (r2, R1')) → ∃ C' R' x3' x4' x5', Session_meetAgain_L5 (n + 1) (ad 10 s) (Int32.ofNat c) 38 x3 (Int32.ofNat i) C = some (x3', C') ∧ Mod_other_L220 K n2 39 (Int32.ofNat s) fl ce (mI R 94 (60 * s + ix r')) (mI R 95 (60 * s + c)) ev (Int32.ofNat c) (Int32.ofNat (60 * s + c)) r2 R1' = K 39 (Int32.ofNat s) fl ce x4' x5' (ev + 1) R' ∧ ExC C C' ∧ EO R R' ∧ (∀ j, j ≤ c → mI C' 38 j = mI R' 109 j ∧ 0 ≤ mI R' 109 j ∧ mI R' 109 j ≤ 50) ∧ (∀ j, c < j → mI R' 109 j = mI R 109 j) ∧ ((x3' = x3 ∧ x4' = x4 ∧ x5' = x5) ∨ (x3' = x4' ∧ 1 ≤ x4' ∧ x5' = mI R 95 (60 * s + c))) := fun r2 y1 y2 => by
          obtain ⟨C', R', x3', x4', x5', f1, f2, f3, f4, f5, f6, f7⟩ := go r2 y1 y2
          refine ⟨C', R', x3', x4', x5', ?_, f2, ex1.tr f3, ex2.tr f4, f5, fun j hj => ?_, ?_⟩
          · show Session_meetAgain_B5 _ _ _ _ _ _ _ = _
            rw [tC]; exact f1
          · rw [f6 j hj, q109, if_neg (by omega), if_neg (by omega)]
          · right
            rw [ex2.1 95 (by decide)] at f7
            rcases f7 with ⟨g1, g2, g3⟩ | ⟨g1, g2, g3⟩
            · exact ⟨g1.trans g2.symm, by rw [g2]; exact sj.2.2.2.2.2.2.2.2.1, g3⟩
            · exact ⟨g1, g2, g3⟩
        by_cases u0 : u = 0
        · obtain ⟨C', R', x3', x4', x5', f1, f2, f3⟩ := fin (-1) (fun _ => rfl) (fun y => absurd (n109.trans u0) y)
          refine ⟨C', R', x3', x4', x5', f1, ?_, f3⟩
          show Mod_other_B220 _ _ _ _ _ _ _ _ _ _ _ _ _ = _
          rw [tR]
          show (if u = 0 then _ else _) = _
          rw [if_pos u0]; exact f2
        · obtain ⟨r2, v1, v2, -⟩ := wv_part wr hs1 hc1 kT1 (fun j hj => ⟨(st1 j (by omega)).1, (st1 j (by omega)).2.1⟩)
          obtain ⟨C', R', x3', x4', x5', f1, f2, f3⟩ := fin r2 (fun y => absurd (n109.symm.trans y) u0) (fun _ => v2)
          refine ⟨C', R', x3', x4', x5', f1, ?_, f3⟩
          show Mod_other_B220 _ _ _ _ _ _ _ _ _ _ _ _ _ = _
          rw [tR]
          show (if u = 0 then _ else _) = _
          rw [if_neg u0, v2, bd_s]; exact f2
end Z1
