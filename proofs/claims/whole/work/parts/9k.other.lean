section Z2
variable {k : Nat} {ad : Nat → Nat → Nat} {C R : Mm}
theorem lp_drop (hA : Ad ad) (w : WR ad C R) {s c : Nat} (hs : s < ix (mI R 39 70)) (hc : c ≤ ix (mI R 87 s)) (kT : mK C 38 = (20, 60)) : ∀ (d n j : Nat) (C1 : Mm), j + d = c → d < n → ExC C C1 → ∃ C2, Session_dropTakenBack_L2 n (ad 10 s) (Int32.ofNat c) 38 (Int32.ofNat j) C1 = some ((), C2) ∧ ExC C C2 ∧ ∀ i, mI C2 38 i = if j ≤ i ∧ i < c ∧ mI C (ad 14 (60 * s + i)) 5 = Int32.ofNat c then 0 else mI C1 38 i := by
  have h60 := (w.2.2 s hs).1
  have sh := (w.2.2 s hs).2
  intro d
  induction d with
  | zero =>
    intro n j C1 hj hn hx
    obtain ⟨n, rfl⟩ : ∃ x, n = x + 1 := ⟨n - 1, by omega⟩
    refine ⟨C1, ?_, hx, fun i => by rw [if_neg (by omega)]⟩
    show Session_dropTakenBack_B2 _ _ _ _ _ _ = _
    unfold Session_dropTakenBack_B2
    rw [if_pos ((of_le c j (by omega) (by omega)).mpr (by omega))]
  | succ d ih =>
    intro n j C1 hj hn hx
    obtain ⟨n, rfl⟩ : ∃ x, n = x + 1 := ⟨n - 1, by omega⟩
    have J0 : (0 : Int32) ≤ Int32.ofNat j := of_nn _ (by omega)
    have J1 : ix (Int32.ofNat j) = j := ix_of _ (by omega)
    have sj := (sh.2.2.2.2 j (by omega)).1
    have nle : ¬ Int32.ofNat c ≤ Int32.ofNat j := fun z => by have := (of_le c j (by omega) (by omega)).mp z; omega
    have kX : mK C1 (ad 10 s) = (9, 11) := by rw [hx.2.2.2.1]; exact sh.1
    have r1 : mR C1 (ad 10 s) 1 = some (ad 11 s) := by rw [hx.2.2.1]; exact sh.2.1
    have k11 : mK C1 (ad 11 s) = (28, 60) := by rw [hx.2.2.2.1]; exact sh.2.2.1
    have rj : mR C1 (ad 11 s) j = some (ad 14 (60 * s + j)) := by rw [hx.2.2.1]; exact sj.1
    have kj : mK C1 (ad 14 (60 * s + j)) = (1, 6) := by rw [hx.2.2.2.1]; exact sj.2
    have i5 : mI C1 (ad 14 (60 * s + j)) 5 = mI C (ad 14 (60 * s + j)) 5 := by rw [hx.atA hA]
    have kT1 : mK C1 38 = (20, 60) := by rw [hx.2.2.2.1]; exact kT
    by_cases q : mI C (ad 14 (60 * s + j)) 5 = Int32.ofNat c
    · obtain ⟨C2, e1, e2, e3⟩ := ih n (j + 1) (sI C1 38 j 0) (by omega) (by omega) (hx.s (by unfold tC; omega))
      refine ⟨C2, ?_, e2, fun i => ?_⟩
      · show Session_dropTakenBack_B2 _ _ _ _ _ _ = _
        unfold Session_dropTakenBack_B2 Session_dropTakenBack_J24
        simp only [if_neg nle, kO_t kX, ck_t, r1, nn_s, kA_t k11 J0 (show ix (Int32.ofNat j) < 60 by omega), J1, rj, kO_t kj, i5, if_pos q, kA_t kT1 J0 (show ix (Int32.ofNat j) < 60 by omega), of_s1 j (by omega)]
        exact e1
      · rw [e3, mI_sI]
        by_cases y : i = j
        · rw [if_neg (by omega), if_pos ⟨rfl, y⟩, if_pos ⟨by omega, by omega, by rw [y]; exact q⟩]
        · rw [if_neg (show ¬ (38 = 38 ∧ i = j) from fun z => y z.2)]
          by_cases y2 : j ≤ i ∧ i < c ∧ mI C (ad 14 (60 * s + i)) 5 = Int32.ofNat c
          · rw [if_pos y2, if_pos ⟨by omega, y2.2⟩]
          · rw [if_neg y2, if_neg (fun z => y2 ⟨by omega, z.2⟩)]
    · obtain ⟨C2, e1, e2, e3⟩ := ih n (j + 1) C1 (by omega) (by omega) hx
      refine ⟨C2, ?_, e2, fun i => ?_⟩
      · show Session_dropTakenBack_B2 _ _ _ _ _ _ = _
        unfold Session_dropTakenBack_B2 Session_dropTakenBack_J24
        simp only [if_neg nle, kO_t kX, ck_t, r1, nn_s, kA_t k11 J0 (show ix (Int32.ofNat j) < 60 by omega), J1, rj, kO_t kj, i5, if_neg q, of_s1 j (by omega)]
        exact e1
      · rw [e3]
        by_cases y : i = j
        · rw [if_neg (by omega), if_neg (fun z => q (by rw [← y]; exact z.2.2))]
        · by_cases y2 : j ≤ i ∧ i < c ∧ mI C (ad 14 (60 * s + i)) 5 = Int32.ofNat c
          · rw [if_pos y2, if_pos ⟨by omega, y2.2⟩]
          · rw [if_neg y2, if_neg (fun z => y2 ⟨by omega, z.2⟩)]
theorem again_0 {C : Mm} {X c : Nat} {x3 : Int32} (kX : mK C X = (9, 11)) (kT : mK C 38 = (20, 60)) (c60 : c < 60) (z : mI C 38 c = 0) : Session_meetAgain_L5 fu X (Int32.ofNat c) 38 x3 0 C = some (x3, C) := by
  have C0 : (0 : Int32) ≤ Int32.ofNat c := of_nn _ (by omega)
  have C1 : ix (Int32.ofNat c) = c := ix_of _ (by omega)
  obtain ⟨n, hn⟩ : ∃ x, fu = x + 1 := ⟨fu - 1, by have := fu_g (n := 0) (by decide); omega⟩
  rw [hn]
  show Session_meetAgain_B5 _ _ _ _ _ _ _ = _
  unfold Session_meetAgain_B5
  simp only [kO_t kX, ck_t, kA_t kT C0 (show ix (Int32.ofNat c) < 60 by omega), C1, z, if_pos (show (0 : Int32) ≤ 0 by decide)]
  split <;> rfl
/-- the close that the last bargain gives -/
def fin0 (lim x4 x5 : Int32) : Int32 := if x4 < 0 then -1 else if x5 < lim then -1 else x4
theorem lp_other (h : Rel k ad C R) {s : Nat} (hs : s < ix (mI R 39 70)) {fl ce : Int32} : ∀ (d n n2 j : Nat) (C1 R1 : Mm) (x4 x5 : Int32), j + d = ix (mI R 90 s) → d < n → d < n2 → ExC C C1 → EO R R1 → (∀ c, c < cc (mI R 96) (120 * s) j → mI R1 109 c = mI C1 38 c ∨ (mI R1 109 c = 0 ∧ mI C (ad 14 (60 * s + c)) 5 = Int32.ofNat (cc (mI R 96) (120 * s) j))) → (∀ c, c < 60 → 0 ≤ mI R1 109 c ∧ mI R1 109 c ≤ 50) → (∀ i c, i < j → mI R 96 (120 * s + i) = Int32.ofNat (100 + c) → cc (mI R 96) (120 * s) i = cc (mI R 96) (120 * s) j → c < 60 → mI R1 109 c = 0) → (∀ c, cc (mI R 96) (120 * s) j ≤ c → c < 60 → mI R1 109 c = 0) → ∃ C2 R2 x4' x5', Session_otherClose_L6 n (ad 10 s) fl ce 38 (fin0 (mI R 84 s - mI R 86 s) x4 x5) (Int32.ofNat (cc (mI R 96) (120 * s) j)) C1 = some (fin0 (mI R 84 s - mI R 86 s) x4' x5', C2) ∧ Mod_other_L115 n2 39 (Int32.ofNat s) fl ce x4 x5 (Int32.ofNat j) R1 = Mod_other_L328 fu 39 (Int32.ofNat s) x4' x5' 0 R2 ∧ ExC C C2 ∧ EO R R2 := by
  have hN := n24 h
  have s24 : s < 24 := by omega
  have h60 := n60 h s24
  have hA := h.hA
  obtain ⟨v1, v2, v3, v4, -⟩ := h.evs s hs
  have b90 := (h.ise.1 s s24).2.2.1
  have e120 : ix (mI R 90 s) ≤ 120 := by clear v2 v3; grind [ix_t]
  have i90 : mI R 90 s = Int32.ofNat (ix (mI R 90 s)) := (of_ix _ b90.1).symm
  have i87 : mI R 87 s = Int32.ofNat (ix (mI R 87 s)) := (of_ix _ h60.2.2.1).symm
  have S0 : (0 : Int32) ≤ Int32.ofNat s := of_nn _ (by omega)
  have S1 : ix (Int32.ofNat s) = s := ix_of _ (by omega)
  have k38 := h.sc.k38
  intro d
  induction d with
  | zero =>
    intro n n2 j C1 R1 x4 x5 hj hn hn2 hx hr i1 i2 i3 i4
    obtain ⟨n, rfl⟩ : ∃ x, n = x + 1 := ⟨n - 1, by omega⟩
    obtain ⟨n2, rfl⟩ : ∃ x, n2 = x + 1 := ⟨n2 - 1, by omega⟩
    have ej : j = ix (mI R 90 s) := by omega
    have wr := h.wr.ch hA hx hr
    have g39 := hr.1 39 (by decide)
    have hs1 : s < ix (mI R1 39 70) := by rw [g39]; exact hs
    have sh := (wr.2.2 s hs1).2
    refine ⟨C1, R1, x4, x5, ?_, ?_, hx, hr⟩
    · show Session_otherClose_B6 _ _ _ _ _ _ _ _ = _
      unfold Session_otherClose_B6
      rw [kO_t sh.1, ck_t, sh.2.2.2.1, hr.1 87 (by decide), if_pos (by rw [ej, v1, ← i87]; exact Int32.le_refl _)]
    · show Mod_other_B115 _ _ _ _ _ _ _ _ _ = _
      unfold Mod_other_B115
      simp only [kO_t wr.1.k39, ck_t, wr.1.r39_81, nn_s, kA_t wr.1.k90 S0 (show ix (Int32.ofNat s) < 24 by omega), S1, hr.1 90 (show 90 ≠ 109 by decide)]
      rw [if_pos (by rw [ej, ← i90]; exact Int32.le_refl _)]
  | succ d ih =>
    intro n n2 j C1 R1 x4 x5 hj hn hn2 hx hr i1 i2 i3 i4
    have wr := h.wr.ch hA hx hr
    have g39 := hr.1 39 (by decide)
    have g87 := hr.1 87 (by decide)
    have hs1 : s < ix (mI R1 39 70) := by rw [g39]; exact hs
    have sh := (wr.2.2 s hs1).2
    have jE : j < ix (mI R 90 s) := by omega
    have mo := cc_mo (f := mI R 96) (b := 120 * s) (n := ix (mI R 90 s)) (j := j) (by omega)
    have mo1 := cc_mo (f := mI R 96) (b := 120 * s) (n := ix (mI R 90 s)) (j := j + 1) (by omega)
    have cs : cc (mI R 96) (120 * s) (j + 1) = cc (mI R 96) (120 * s) j + (if mI R 96 (120 * s + j) < 100 then 1 else 0) := rfl
    obtain ⟨n2, rfl⟩ : ∃ x, n2 = x + 1 := ⟨n2 - 1, by omega⟩
    have ex : 120 * Int32.ofNat s + Int32.ofNat j = Int32.ofNat (120 * s + j) := by rw [show (120 : Int32) = Int32.ofNat 120 from rfl, of_mul, of_add]
    have X0 : (0 : Int32) ≤ Int32.ofNat (120 * s + j) := of_nn _ (by omega)
    have X1 : ix (Int32.ofNat (120 * s + j)) = 120 * s + j := ix_of _ (by omega)
    have nle90 : ¬ mI R 90 s ≤ Int32.ofNat j := by
      rw [i90]
      intro z
      have := (of_le _ j (by omega) (by omega)).mp z
      omega
    generalize hcj : cc (mI R 96) (120 * s) j = c at *
    rcases v2 j jE with ⟨f0, f1, f2⟩ | ⟨c', z1, z2, z3⟩
    · -- a cry
      rw [hcj] at f2
      rw [if_pos f1] at cs
      have ef : mI R 96 (120 * s + j) = Int32.ofNat c := by rw [← f2]; exact (of_ix _ f0).symm
      have c87 : c < ix (mI R 87 s) := by omega
      have c60 : c < 60 := by omega
      have c87' : c < ix (mI R1 87 s) := by rw [g87]; exact c87
      have lt100 : Int32.ofNat c < 100 := (of_lt c 100 (by omega) (by omega)).mpr (by omega)
      have C0 : (0 : Int32) ≤ Int32.ofNat c := of_nn _ (by omega)
      have Cx : ix (Int32.ofNat c) = c := ix_of _ (by omega)
      have kT1 : mK C1 38 = (20, 60) := by rw [hx.2.2.2.1]; exact k38
      obtain ⟨C2, d1, d2, d3⟩ := lp_drop hA wr hs1 (show c ≤ ix (mI R1 87 s) by omega) kT1 c fu 0 C1 (by omega) (fu_g (by omega)) ExC.rf
      have b5 : ∀ i, mI C1 (ad 14 (60 * s + i)) 5 = mI C (ad 14 (60 * s + i)) 5 := fun i => by rw [hx.atA hA]
      have st : ∀ i, i < c → mI C2 38 i = mI R1 109 i := fun i hi => by
        rw [d3, b5]
        by_cases y : mI C (ad 14 (60 * s + i)) 5 = Int32.ofNat c
        · rw [if_pos ⟨by omega, hi, y⟩]
          have ne : mI C (ad 14 (60 * s + i)) 5 ≠ -1 := by
            rw [y]; intro z
            have := of_nn c (by omega)
            rw [z] at this
            exact absurd this (by decide)
          obtain ⟨j', p1, p2⟩ := v3 i (by omega) ne
          have p3 : mI C (ad 14 (60 * s + i)) 5 = Int32.ofNat (cc (mI R 96) (120 * s) j') := by
            rcases v2 j' p1 with ⟨u0, u1, u2⟩ | ⟨c2, u1, u2, u3⟩
            · rw [p2] at u1
              have := (of_lt (100 + i) 100 (by omega) (by omega)).mp u1
              omega
            · rw [p2] at u2
              have mo' := cc_mo (f := mI R 96) (b := 120 * s) (n := ix (mI R 90 s)) (j := j') (by omega)
              have := (of_eq (100 + i) (100 + c2) (by omega) (by omega)).mp u2
              rw [show i = c2 by omega]; exact u3
          have mo' := cc_mo (f := mI R 96) (b := 120 * s) (n := ix (mI R 90 s)) (j := j') (by omega)
          have p4 : c = cc (mI R 96) (120 * s) j' := (of_eq _ _ (by omega) (by omega)).mp (y.symm.trans p3)
          have p5 : j' < j := by
            apply Classical.byContradiction
            intro z
            by_cases z2 : j' = j
            · rw [z2, ef] at p2
              have := (of_eq c (100 + i) (by omega) (by omega)).mp p2
              omega
            · have := cc_mo (f := mI R 96) (b := 120 * s) (n := j') (j := j + 1) (by omega)
              omega
          exact (i3 j' i p5 p2 p4.symm (by omega)).symm
        · rw [if_neg (fun z => y z.2.2)]
          rcases i1 i hi with z | ⟨-, z⟩
          · exact z.symm
          · exact absurd z y
      obtain ⟨n, rfl⟩ : ∃ x, n = x + 1 := ⟨n - 1, by omega⟩
      have sc := sh.2.2.2.2 c c87'
      have ex60 : 60 * Int32.ofNat s + Int32.ofNat c = Int32.ofNat (60 * s + c) := by rw [show (60 : Int32) = Int32.ofNat 60 from rfl, of_mul, of_add]
      have Y0 : (0 : Int32) ≤ Int32.ofNat (60 * s + c) := of_nn _ (by omega)
      have Y1 : ix (Int32.ofNat (60 * s + c)) = 60 * s + c := ix_of _ (by omega)
      have nle87 : ¬ mI R1 87 s ≤ Int32.ofNat c := by
        rw [g87, i87]
        intro z
        have := (of_le _ c (by omega) (by omega)).mp z
        omega
      have g94 := hr.1 94 (by decide)
      have g93 := hr.1 93 (by decide)
      have g95 := hr.1 95 (by decide)
      have kX2 : mK C2 (ad 10 s) = (9, 11) := by rw [d2.2.2.2.1]; exact sh.1
      have r2 : mR C2 (ad 10 s) 1 = some (ad 11 s) := by rw [d2.2.2.1]; exact sh.2.1
      have k112 : mK C2 (ad 11 s) = (28, 60) := by rw [d2.2.2.2.1]; exact sh.2.2.1
      have rc2 : mR C2 (ad 11 s) c = some (ad 14 (60 * s + c)) := by rw [d2.2.2.1]; exact sc.1.1
      have kc2 : mK C2 (ad 14 (60 * s + c)) = (1, 6) := by rw [d2.2.2.2.1]; exact sc.1.2
      have i32 : mI C2 (ad 14 (60 * s + c)) 3 = mI R 94 (60 * s + c) := by rw [d2.atA hA, sc.2.2.2.2.1, g94]
      have i22 : mI C2 (ad 14 (60 * s + c)) 2 = mI R 93 (60 * s + c) := by rw [d2.atA hA, sc.2.2.2.1, g93]
      have kT2 : mK C2 38 = (20, 60) := by rw [d2.2.2.2.1]; exact kT1
      have hx2 : ExC C C2 := hx.tr d2
      have dB : Session_dropTakenBack C1 (ad 10 s) (Int32.ofNat c) 38 = some ((), C2) := d1
      by_cases w : fl ≤ mI R 94 (60 * s + c) ∧ mI R 94 (60 * s + c) ≤ ce
      · -- it stands
        have q109 : ∀ i, mI (sI R1 109 c (mI R 93 (60 * s + c))) 109 i = if i = c then mI R 93 (60 * s + c) else mI R1 109 i := fun i => by
          rw [mI_sI]
          by_cases y : i = c
          · rw [if_pos ⟨rfl, y⟩, if_pos y]
          · rw [if_neg (fun z => y z.2), if_neg y]
        have q38 : ∀ i, mI (sI C2 38 c (mI R 93 (60 * s + c))) 38 i = if i = c then mI R 93 (60 * s + c) else mI C2 38 i := fun i => by
          rw [mI_sI]
          by_cases y : i = c
          · rw [if_pos ⟨rfl, y⟩, if_pos y]
          · rw [if_neg (fun z => y z.2), if_neg y]
        have b93 := (h.ise.2.2.2.2.1 s c s24 c87).2.2.1
        have hr3 : EO R (sI R1 109 c (mI R 93 (60 * s + c))) := hr.s
        have hx3 : ExC C (sI C2 38 c (mI R 93 (60 * s + c))) := hx2.s (by unfold tC; omega)
        have kX3 : kO (sI C2 38 c (mI R 93 (60 * s + c))) (ad 10 s) 9 11 = true := kO_t kX2
        have mB : Mod_other_B115 (Mod_other_L115 n2) 39 (Int32.ofNat s) fl ce x4 x5 (Int32.ofNat j) R1 = bd (Mod_against (sI R1 109 c (mI R 93 (60 * s + c))) 39 (Int32.ofNat s) (Int32.ofNat c) (Int32.ofNat c)) (fun r38 M39 => Mod_other_L220 (Mod_other_L115 n2) fu 39 (Int32.ofNat s) fl ce x4 x5 (Int32.ofNat j) (Int32.ofNat c) (Int32.ofNat (60 * s + c)) r38 M39) := by
          unfold Mod_other_B115
          simp only [kO_t wr.1.k39, ck_t, wr.1.r39_81, nn_s, kA_t wr.1.k90 S0 (show ix (Int32.ofNat s) < 24 by omega), S1, hr.1 90 (show 90 ≠ 109 by decide), if_neg nle90, wr.1.r39_87, ex, kA_t wr.1.k96 X0 (show ix (Int32.ofNat (120 * s + j)) < 2880 by omega), X1, hr.1 96 (show 96 ≠ 109 by decide), ef, if_pos lt100, ex60, wr.1.r39_85, kA_t wr.1.k94 Y0 (show ix (Int32.ofNat (60 * s + c)) < 1440 by omega), Y1, g94, if_neg (show ¬ mI R 94 (60 * s + c) < fl by have := w.1; clear h wr sh sc i1 i2 i3 i4 ih v2 v3; grind), if_pos w.2, wr.1.r39_100, wr.1.r39_84, kA_t wr.1.k93 Y0 (show ix (Int32.ofNat (60 * s + c)) < 1440 by omega), g93, kA_t wr.1.k109 C0 (show ix (Int32.ofNat c) < 60 by omega), Cx]
        have cB : ∀ x4c, Session_otherClose_B6 (Session_otherClose_L6 n) (ad 10 s) fl ce 38 x4c (Int32.ofNat c) C1 = bd (Session_meetAgain_L5 fu (ad 10 s) (Int32.ofNat c) 38 (-1) 0 (sI C2 38 c (mI R 93 (60 * s + c)))) (fun r14 M15 => if r14 = -1 then Session_otherClose_L6 n (ad 10 s) fl ce 38 x4c (Int32.ofNat (c + 1)) M15 else ck (kO M15 (ad 10 s) 9 11) (nn (mR M15 (ad 10 s) 1) (fun b18 => ck (kA M15 b18 28 (Int32.ofNat c)) (nn (mR M15 b18 (ix (Int32.ofNat c))) (fun b20 => ck (kO M15 b20 1 6) (if mI M15 b20 4 < mI M15 (ad 10 s) 8 - mI M15 (ad 10 s) 10 then Session_otherClose_L6 n (ad 10 s) fl ce 38 (-1) (Int32.ofNat (c + 1)) M15 else Session_otherClose_L6 n (ad 10 s) fl ce 38 r14 (Int32.ofNat (c + 1)) M15)))))) := fun x4c => by
          unfold Session_otherClose_B6 Session_otherClose_J57 Session_otherClose_J101 Session_otherClose_J103 Session_meetAgain
          simp only [kO_t sh.1, ck_t, sh.2.2.2.1, if_neg nle87, dB, bd_s, kO_t kX2, r2, nn_s, kA_t k112 C0 (show ix (Int32.ofNat c) < 60 by omega), Cx, rc2, kO_t kc2, i32, ev_within, if_pos w, i10, if_false, i22, kA_t kT2 C0 (show ix (Int32.ofNat c) < 60 by omega), kX3, of_s1 c (by omega)]
        have kT3 : mK (sI C2 38 c (mI R 93 (60 * s + c))) 38 = (20, 60) := kT2
        generalize sI R1 109 c (mI R 93 (60 * s + c)) = R3 at *
        generalize sI C2 38 c (mI R 93 (60 * s + c)) = C3 at *
        have wr3 := h.wr.ch hA hx3 hr3
        have g39' := hr3.1 39 (by decide)
        have g87' := hr3.1 87 (by decide)
        have hs3 : s < ix (mI R3 39 70) := by rw [g39']; exact hs
        have hc3 : c < ix (mI R3 87 s) := by rw [g87']; exact c87
        have st3 : ∀ i, i ≤ c → mI C3 38 i = mI R3 109 i ∧ 0 ≤ mI R3 109 i ∧ mI R3 109 i ≤ 50 := fun i hi => by
          rw [q38, q109]
          by_cases y : i = c
          · rw [if_pos y, if_pos y]
            exact ⟨rfl, by have := b93.1; clear h wr sh sc i1 i2 i3 i4 ih v2 v3; grind, b93.2⟩
          · rw [if_neg y, if_neg y]
            exact ⟨st i (by omega), i2 i (by omega)⟩
        obtain ⟨r, p1, p2, -⟩ := wv_part wr3 hs3 hc3 kT3 (fun i hi => ⟨(st3 i (by omega)).1, (st3 i (by omega)).2.1⟩)
        have n0 : mI R3 109 c ≠ 0 := by rw [q109, if_pos rfl]; have := b93.1; clear h wr sh sc i1 i2 i3 i4 ih v2 v3; grind
        have nzb : nzs R3 (c + 1) ≤ ((c + 1 : Nat) : Int) := sumTo_ub (fun j _ => by show (if mI R3 109 j = 0 then (0 : Int) else 1) ≤ 1; split <;> omega)
        obtain ⟨C4, R4, y3, y4, y5, a1, a2, a3, a4, a5, a6, a7⟩ := lp_again (s := s) (c := c) (fl := fl) (ce := ce) (ev := Int32.ofNat j) hA (Mod_other_L115 n2) (c + 1) fu fu 0 C3 R3 (-1) x4 x5 r wr3 hs3 hc3 kT3 st3 nzb (by rw [g87']; omega) (fu_g (by omega)) (fu_g (by omega)) (fun y => absurd y n0) (fun _ => p2)
        have hx4 : ExC C C4 := hx3.tr a3
        have hr4 : EO R R4 := hr3.tr a4
        have wr4 := h.wr.ch hA hx4 hr4
        have sh4 := (wr4.2.2 s (by rw [hr4.1 39 (by decide)]; exact hs)).2
        have sc4 := sh4.2.2.2.2 c (by rw [hr4.1 87 (by decide)]; exact c87)
        have a1' : Session_meetAgain_L5 fu (ad 10 s) (Int32.ofNat c) 38 (-1) 0 C3 = some (y3, C4) := a1
        obtain ⟨C5, R5, x4', x5', b1, b2, b3, b4⟩ := ih n n2 (j + 1) C4 R4 y4 y5 (by omega) (by omega) (by omega) hx4 hr4 (fun i hi => Or.inl (a5 i (by omega)).1.symm) (fun i hi => by
          by_cases y : i ≤ c
          · exact (a5 i y).2
          · rw [a6 i (by omega), q109, if_neg (by omega)]; exact i2 i hi) (fun i i' p q t u => by
          exfalso
          have := cc_mo (f := mI R 96) (b := 120 * s) (n := j) (j := i) (by omega)
          omega) (fun i hi q => by
          rw [a6 i (by omega), q109, if_neg (by omega)]
          exact i4 i (by omega) q)
        rw [cs] at b1
        refine ⟨C5, R5, x4', x5', ?_, ?_, b3, b4⟩
        · show Session_otherClose_B6 _ _ _ _ _ _ _ _ = _
          rw [cB, a1', bd_s]
          rcases a7 with ⟨g1, g2, g3⟩ | ⟨g1, g2, g3⟩
          · rw [if_pos g1]
            rw [g2, g3] at b1
            exact b1
          · have nm : ¬ y3 = -1 := by rw [g1]; clear h wr sh sc i1 i2 i3 i4 ih v2 v3; grind
            have i84 : mI C4 (ad 10 s) 8 = mI R 84 s := by rw [hx4.atA hA]; exact h.ln8 hs
            have i86 : mI C4 (ad 10 s) 10 = mI R 86 s := by rw [hx4.atA hA]; exact h.ln10 hs
            have i95 : mI C4 (ad 14 (60 * s + c)) 4 = mI R 95 (60 * s + c) := by rw [hx4.atA hA]; exact h.lc4 hs c87
            rw [if_neg nm, kO_t sh4.1, ck_t, sh4.2.1, nn_s, kA_t sh4.2.2.1 C0 (show ix (Int32.ofNat c) < 60 by omega), ck_t, Cx, sc4.1.1, nn_s, kO_t sc4.1.2, ck_t, i95, i84, i86]
            rw [hr3.1 95 (by decide)] at g3
            have ef0 : fin0 (mI R 84 s - mI R 86 s) y4 y5 = if mI R 95 (60 * s + c) < mI R 84 s - mI R 86 s then -1 else y4 := by
              unfold fin0
              rw [if_neg (show ¬ y4 < 0 by clear h wr sh sc i1 i2 i3 i4 ih v2 v3; grind), g3]
            rw [ef0] at b1
            by_cases y : mI R 95 (60 * s + c) < mI R 84 s - mI R 86 s
            · rw [if_pos y] at b1 ⊢
              exact b1
            · rw [if_neg y] at b1 ⊢
              rw [g1]
              exact b1
        · show Mod_other_B115 _ _ _ _ _ _ _ _ _ = _
          rw [mB, p2, bd_s, a2, of_s1 j (by omega)]
          exact b2
      · -- its price is refused
        have q38 : ∀ i, mI (sI C2 38 c 0) 38 i = if i = c then 0 else mI C2 38 i := fun i => by
          rw [mI_sI]
          by_cases y : i = c
          · rw [if_pos ⟨rfl, y⟩, if_pos y]
          · rw [if_neg (fun z => y z.2), if_neg y]
        have hx3 : ExC C (sI C2 38 c 0) := hx2.s (by unfold tC; omega)
        have kX3 : kO (sI C2 38 c 0) (ad 10 s) 9 11 = true := kO_t kX2
        have mB : Mod_other_B115 (Mod_other_L115 n2) 39 (Int32.ofNat s) fl ce x4 x5 (Int32.ofNat j) R1 = Mod_other_L115 n2 39 (Int32.ofNat s) fl ce x4 x5 (Int32.ofNat (j + 1)) R1 := by
          unfold Mod_other_B115 Mod_other_J319
          simp only [kO_t wr.1.k39, ck_t, wr.1.r39_81, nn_s, kA_t wr.1.k90 S0 (show ix (Int32.ofNat s) < 24 by omega), S1, hr.1 90 (show 90 ≠ 109 by decide), if_neg nle90, wr.1.r39_87, ex, kA_t wr.1.k96 X0 (show ix (Int32.ofNat (120 * s + j)) < 2880 by omega), X1, hr.1 96 (show 96 ≠ 109 by decide), ef, if_pos lt100, ex60, wr.1.r39_85, kA_t wr.1.k94 Y0 (show ix (Int32.ofNat (60 * s + c)) < 1440 by omega), Y1, g94, of_s1 j (by omega)]
          by_cases y : mI R 94 (60 * s + c) < fl
          · rw [if_pos y]
          · rw [if_neg y, if_neg (fun z => w ⟨by clear h wr sh sc i1 i2 i3 i4 ih v2 v3; grind, z⟩)]
        have a0 := again_0 (C := sI C2 38 c 0) (X := ad 10 s) (c := c) (x3 := -1) kX2 kT2 c60 (by rw [q38, if_pos rfl])
        have cB : ∀ x4c, Session_otherClose_B6 (Session_otherClose_L6 n) (ad 10 s) fl ce 38 x4c (Int32.ofNat c) C1 = Session_otherClose_L6 n (ad 10 s) fl ce 38 x4c (Int32.ofNat (c + 1)) (sI C2 38 c 0) := fun x4c => by
          unfold Session_otherClose_B6 Session_otherClose_J57 Session_otherClose_J103 Session_meetAgain
          simp only [kO_t sh.1, ck_t, sh.2.2.2.1, if_neg nle87, dB, bd_s, kO_t kX2, r2, nn_s, kA_t k112 C0 (show ix (Int32.ofNat c) < 60 by omega), Cx, rc2, kO_t kc2, i32, ev_within, if_neg w, if_true, kA_t kT2 C0 (show ix (Int32.ofNat c) < 60 by omega), kX3, a0, of_s1 c (by omega)]
        generalize sI C2 38 c 0 = C3 at *
        obtain ⟨C5, R5, x4', x5', b1, b2, b3, b4⟩ := ih n n2 (j + 1) C3 R1 x4 x5 (by omega) (by omega) (by omega) hx3 hr (fun i hi => by
          left
          rw [q38]
          by_cases y : i = c
          · rw [if_pos y, y]; exact i4 c (Nat.le_refl _) c60
          · rw [if_neg y]; exact (st i (by omega)).symm) i2 (fun i i' p q t u => by
          exfalso
          have := cc_mo (f := mI R 96) (b := 120 * s) (n := j) (j := i) (by omega)
          omega) (fun i hi q => i4 i (by omega) q)
        rw [cs] at b1
        refine ⟨C5, R5, x4', x5', ?_, ?_, b3, b4⟩
        · show Session_otherClose_B6 _ _ _ _ _ _ _ _ = _
          rw [cB]; exact b1
        · show Mod_other_B115 _ _ _ _ _ _ _ _ _ = _
          rw [mB]; exact b2
    · -- one is taken back
      rw [hcj] at z1 z3
      have nlt : ¬ mI R 96 (120 * s + j) < 100 := by
        rw [z2]
        intro z
        have := (of_lt (100 + c') 100 (by omega) (by omega)).mp z
        omega
      rw [if_neg nlt, Nat.add_zero] at cs
      have c60 : c' < 60 := by omega
      have sub : mI R 96 (120 * s + j) - 100 = Int32.ofNat c' := by rw [z2]; exact (of_sub (100 + c') 100 (by omega)).trans (by congr 1; omega)
      have C0 : (0 : Int32) ≤ Int32.ofNat c' := of_nn _ (by omega)
      have Cx : ix (Int32.ofNat c') = c' := ix_of _ (by omega)
      have mB : Mod_other_B115 (Mod_other_L115 n2) 39 (Int32.ofNat s) fl ce x4 x5 (Int32.ofNat j) R1 = Mod_other_L115 n2 39 (Int32.ofNat s) fl ce x4 x5 (Int32.ofNat (j + 1)) (sI R1 109 c' 0) := by
        unfold Mod_other_B115 Mod_other_J319
        simp only [kO_t wr.1.k39, ck_t, wr.1.r39_81, nn_s, kA_t wr.1.k90 S0 (show ix (Int32.ofNat s) < 24 by omega), S1, hr.1 90 (show 90 ≠ 109 by decide), if_neg nle90, wr.1.r39_87, ex, kA_t wr.1.k96 X0 (show ix (Int32.ofNat (120 * s + j)) < 2880 by omega), X1, hr.1 96 (show 96 ≠ 109 by decide), if_neg nlt, sub, wr.1.r39_100, kA_t wr.1.k109 C0 (show ix (Int32.ofNat c') < 60 by omega), Cx, of_s1 j (by omega)]
      have q109 : ∀ i, mI (sI R1 109 c' 0) 109 i = if i = c' then 0 else mI R1 109 i := fun i => by
        rw [mI_sI]
        by_cases y : i = c'
        · rw [if_pos ⟨rfl, y⟩, if_pos y]
        · rw [if_neg (fun z => y z.2), if_neg y]
      have hr3 : EO R (sI R1 109 c' 0) := hr.s
      generalize sI R1 109 c' 0 = R3 at *
      obtain ⟨C5, R5, x4', x5', b1, b2, b3, b4⟩ := ih n n2 (j + 1) C1 R3 x4 x5 (by omega) (by omega) (by omega) hx hr3 (fun i hi => by
        rw [cs] at hi ⊢
        rw [q109]
        by_cases y : i = c'
        · right; rw [if_pos y, y]; exact ⟨rfl, z3⟩
        · rw [if_neg y]; exact i1 i hi) (fun i hi => by
        rw [q109]; split
        · decide
        · exact i2 i hi) (fun i i' p q t u => by
        rw [cs] at t
        rw [q109]
        by_cases y : i' = c'
        · rw [if_pos y]
        · rw [if_neg y]
          refine i3 i i' ?_ q t u
          apply Classical.byContradiction
          intro z
          have : i = j := by omega
          rw [this, z2] at q
          have := (of_eq (100 + c') (100 + i') (by omega) (by omega)).mp q
          omega) (fun i hi q => by
        rw [cs] at hi
        rw [q109]; split
        · rfl
        · exact i4 i hi q)
      rw [cs] at b1
      refine ⟨C5, R5, x4', x5', b1, ?_, b3, b4⟩
      show Mod_other_B115 _ _ _ _ _ _ _ _ _ = _
      rw [mB]; exact b2
end Z2
