/-! what holds of the session's rows while what stands is reckoned anew -/
section Y9
variable {k : Nat} {ad : Nat → Nat → Nat} {C R C' R' : Mm}
def WR (ad : Nat → Nat → Nat) (C R : Mm) : Prop := SR R ∧ ix (mI R 39 70) ≤ 24 ∧ ∀ s, s < ix (mI R 39 70) → (ix (mI R 87 s) ≤ 60 ∧ 0 ≤ mI R 87 s) ∧ mK C (ad 10 s) = (9, 11) ∧ mR C (ad 10 s) 1 = some (ad 11 s) ∧ mK C (ad 11 s) = (28, 60) ∧ mI C (ad 10 s) 4 = mI R 87 s ∧ ∀ c, c < ix (mI R 87 s) → (mR C (ad 11 s) c = some (ad 14 (60 * s + c)) ∧ mK C (ad 14 (60 * s + c)) = (1, 6)) ∧ mI C (ad 14 (60 * s + c)) 0 = mI R 92 (60 * s + c) ∧ mI C (ad 14 (60 * s + c)) 1 = mI R 97 (60 * s + c) ∧ mI C (ad 14 (60 * s + c)) 2 = mI R 93 (60 * s + c) ∧ mI C (ad 14 (60 * s + c)) 3 = mI R 94 (60 * s + c) ∧ mI C (ad 14 (60 * s + c)) 4 = mI R 95 (60 * s + c) ∧ (mI R 97 (60 * s + c) = 0 ∨ mI R 97 (60 * s + c) = 1) ∧ (1 ≤ mI R 93 (60 * s + c) ∧ mI R 93 (60 * s + c) ≤ 50) ∧ (1 ≤ mI R 94 (60 * s + c) ∧ mI R 94 (60 * s + c) ≤ 9999)
theorem Rel.wr (h : Rel k ad C R) : WR ad C R := by
  have hN := n24 h
  refine ⟨h.sr, hN, fun s hs => ?_⟩
  have h60 := n60 h (show s < 24 by omega)
  have sh := h.shn.1 s hs
  refine ⟨⟨h60.1, h60.2.2.1⟩, sh.2.1, sh.2.2.1, sh.2.2.2.2.2.1, h.ln4 hs, fun c hc => ?_⟩
  have z5 := h.ise.2.2.2.2.1 s c (by omega) hc
  exact ⟨sh.2.2.2.2.2.2.2.2.1 c hc, h.lc0 hs hc, h.lc1 hs hc, h.lc2 hs hc, h.lc3 hs hc, h.lc4 hs hc, z5.2.1, z5.2.2.1, z5.2.2.2.1⟩
/-- the second memory but for what stands -/
def EO (R R' : Mm) : Prop := (∀ a, a ≠ 109 → mI R' a = mI R a) ∧ mL R' = mL R ∧ mR R' = mR R ∧ mK R' = mK R
theorem EO.rf : EO R R := ⟨fun _ _ => rfl, rfl, rfl, rfl⟩
theorem EO.tr {R2 : Mm} (h : EO R R') (h2 : EO R' R2) : EO R R2 := ⟨fun a q => (h2.1 a q).trans (h.1 a q), h2.2.1.trans h.2.1, h2.2.2.1.trans h.2.2.1, h2.2.2.2.trans h.2.2.2⟩
theorem EO.s (h : EO R R') {j : Nat} {v : Int32} : EO R (sI R' 109 j v) := ⟨fun a q => (row_n q).trans (h.1 a q), h.2⟩
theorem WR.ch (hA : Ad ad) (w : WR ad C R) (hc : ExC C C') (hr : EO R R') : WR ad C' R' := by
  unfold WR at w ⊢
  rw [hr.1 39 (by decide), hr.1 87 (by decide), hr.1 92 (by decide), hr.1 93 (by decide), hr.1 94 (by decide), hr.1 95 (by decide), hr.1 97 (by decide), hc.2.2.1, hc.2.2.2.1]
  simp only [hc.atA hA]
  exact ⟨w.1.sm hr.2.2.2 hr.2.2.1, w.2⟩
theorem wv_meet (h : WR ad C R) {s c j : Nat} (hs : s < ix (mI R 39 70)) (hc : c < ix (mI R 87 s)) (hj : j < ix (mI R 87 s)) : Cry_meets C (ad 14 (60 * s + c)) (ad 14 (60 * s + j)) = some (mtr R s c j, C) := by
  obtain ⟨⟨-, sc⟩, c0, c1, -, c3, -⟩ := (h.2.2 s hs).2.2.2.2.2 c hc
  obtain ⟨⟨-, sj⟩, j0, j1, -, j3, -⟩ := (h.2.2 s hs).2.2.2.2.2 j hj
  unfold Cry_meets mtr
  simp only [kO_t sc, kO_t sj, ck_t, c0, j0, c1, j1, c3, j3]
  repeat' split
  all_goals rfl
theorem wv_bett (h : WR ad C R) {s c j : Nat} (hs : s < ix (mI R 39 70)) (hc : c < ix (mI R 87 s)) (hj : j < ix (mI R 87 s)) : Cry_isBetterThan C (ad 14 (60 * s + c)) (ad 14 (60 * s + j)) = some (btr R s c j, C) := by
  obtain ⟨⟨-, sc⟩, c0, c1, -, c3, -⟩ := (h.2.2 s hs).2.2.2.2.2 c hc
  obtain ⟨⟨-, sj⟩, j0, j1, -, j3, -⟩ := (h.2.2 s hs).2.2.2.2.2 j hj
  unfold Cry_isBetterThan btr
  simp only [kO_t sc, kO_t sj, ck_t, c1, c3, j3]
  repeat' split
  all_goals rfl
theorem wp_C (h : WR ad C R) {s c j T : Nat} {b : Int32} (K : Nat → Int32 → Nat → Int32 → Int32 → Mm → Option (Int32 × Mm)) (hs : s < ix (mI R 39 70)) (hc : c < ix (mI R 87 s)) (hj : j < c) (kT : mK C T = (20, 60)) (st : mI C T j = mI R 109 j ∧ 0 ≤ mI R 109 j) (hb : b = -1 ∨ (0 ≤ b ∧ ix b < c)) : Session_bestPartner_B5 K (ad 10 s) (Int32.ofNat c) T b (Int32.ofNat j) C = K (ad 10 s) (Int32.ofNat c) T (nxtr R s c j b) (Int32.ofNat (j + 1)) C := by
  have hN := h.2.1
  have h60 := (h.2.2 s hs).1
  have sh := (h.2.2 s hs).2
  have J0 : (0 : Int32) ≤ Int32.ofNat j := of_nn _ (by omega)
  have J1 : ix (Int32.ofNat j) = j := ix_of _ (by omega)
  have C0 : (0 : Int32) ≤ Int32.ofNat c := of_nn _ (by omega)
  have C1 : ix (Int32.ofNat c) = c := ix_of _ (by omega)
  have sc := (sh.2.2.2.2 c hc).1
  have sj := (sh.2.2.2.2 j (by omega)).1
  have nle : ¬ Int32.ofNat c ≤ Int32.ofNat j := fun z => by have := (of_le c j (by omega) (by omega)).mp z; omega
  unfold Session_bestPartner_B5 Session_bestPartner_J61 Session_bestPartner_J64 nxtr
  simp only [if_neg nle, kA_t kT J0 (show ix (Int32.ofNat j) < 60 by omega), ck_t, J1, st.1, of_s1 j (by omega)]
  by_cases c1 : mI R 109 j = 0
  · rw [if_pos (by rw [c1]; decide), if_pos c1]
  · rw [if_neg (by have := st.2; clear h; grind), if_neg c1]
    simp only [kO_t sh.1, ck_t, sh.2.1, nn_s, kA_t sh.2.2.1 C0 (show ix (Int32.ofNat c) < 60 by omega), kA_t sh.2.2.1 J0 (show ix (Int32.ofNat j) < 60 by omega), C1, J1, sc.1, sj.1, kO_t sc.2, kO_t sj.2, wv_meet h hs hc (show j < ix (mI R 87 s) by omega), bd_s]
    by_cases c2 : mtr R s c j = 0
    · rw [if_pos c2, if_pos c2]
    · rw [if_neg c2, if_neg c2]
      by_cases c3 : b = -1
      · rw [if_pos c3, if_pos c3]
      · obtain ⟨b0, b1⟩ := hb.resolve_left c3
        have sb := (sh.2.2.2.2 (ix b) (by omega)).1
        rw [if_neg c3, if_neg c3]
        simp only [kA_t sh.2.2.1 b0 (show ix b < 60 by omega), ck_t, sb.1, nn_s, wv_bett h hs (show j < ix (mI R 87 s) by omega) (show ix b < ix (mI R 87 s) by omega), bd_s]
        by_cases c4 : btr R s j (ix b) = 0
        · rw [if_pos c4, if_pos c4]
        · rw [if_neg c4, if_neg c4]
theorem wp_R (h : WR ad C R) {s c j : Nat} {b : Int32} (K : Nat → Int32 → Int32 → Int32 → Int32 → Int32 → Mm → Option (Int32 × Mm)) (hs : s < ix (mI R 39 70)) (hc : c < ix (mI R 87 s)) (hj : j < c) (hb : b = -1 ∨ (0 ≤ b ∧ ix b < c)) : Mod_against_B6 K 39 (Int32.ofNat s) (Int32.ofNat c) (Int32.ofNat c) b (Int32.ofNat j) R = K 39 (Int32.ofNat s) (Int32.ofNat c) (Int32.ofNat c) (nxtr R s c j b) (Int32.ofNat (j + 1)) R := by
  have hN := h.2.1
  have h60 := (h.2.2 s hs).1
  have J0 : (0 : Int32) ≤ Int32.ofNat j := of_nn _ (by omega)
  have J1 : ix (Int32.ofNat j) = j := ix_of _ (by omega)
  have xj : 60 * Int32.ofNat s + Int32.ofNat j = Int32.ofNat (60 * s + j) := by rw [show (60 : Int32) = Int32.ofNat 60 from rfl, of_mul, of_add]
  have xc : 60 * Int32.ofNat s + Int32.ofNat c = Int32.ofNat (60 * s + c) := by rw [show (60 : Int32) = Int32.ofNat 60 from rfl, of_mul, of_add]
  have X0 : (0 : Int32) ≤ Int32.ofNat (60 * s + j) := of_nn _ (by omega)
  have X1 : ix (Int32.ofNat (60 * s + j)) = 60 * s + j := ix_of _ (by omega)
  have Y0 : (0 : Int32) ≤ Int32.ofNat (60 * s + c) := of_nn _ (by omega)
  have Y1 : ix (Int32.ofNat (60 * s + c)) = 60 * s + c := ix_of _ (by omega)
  have nle : ¬ Int32.ofNat c ≤ Int32.ofNat j := fun z => by have := (of_le c j (by omega) (by omega)).mp z; omega
  have bc := ((h.2.2 s hs).2.2.2.2.2 c hc).2.2.2.2.2.2.1
  have bj := ((h.2.2 s hs).2.2.2.2.2 j (by omega)).2.2.2.2.2.2.1
  unfold Mod_against_B6 Mod_against_J141 Mod_against_J213 Mod_against_J217 nxtr
  simp only [if_neg nle, kO_t h.1.k39, ck_t, h.1.r39_100, nn_s, kA_t h.1.k109 J0 (show ix (Int32.ofNat j) < 60 by omega), J1, of_s1 j (by omega), xj, xc]
  by_cases c1 : mI R 109 j = 0
  · rw [if_pos c1, if_pos c1]
  · rw [if_neg c1, if_neg c1]
    simp only [h.1.r39_88, nn_s, kA_t h.1.k97 X0 (show ix (Int32.ofNat (60 * s + j)) < 1440 by omega), kA_t h.1.k97 Y0 (show ix (Int32.ofNat (60 * s + c)) < 1440 by omega), ck_t, X1, Y1]
    by_cases c2 : mI R 97 (60 * s + c) = mI R 97 (60 * s + j)
    · rw [if_pos c2.symm]
      have : mtr R s c j = 0 := by unfold mtr; rw [if_pos c2]
      rw [if_pos this]
    · rw [if_neg (fun z => c2 z.symm)]
      simp only [h.1.r39_83, nn_s, kA_t h.1.k92 X0 (show ix (Int32.ofNat (60 * s + j)) < 1440 by omega), kA_t h.1.k92 Y0 (show ix (Int32.ofNat (60 * s + c)) < 1440 by omega), ck_t, X1, Y1]
      by_cases c3 : mI R 92 (60 * s + c) = mI R 92 (60 * s + j)
      · rw [if_pos c3.symm]
        have : mtr R s c j = 0 := by unfold mtr; rw [if_neg c2, if_pos c3]
        rw [if_pos this]
      · rw [if_neg (fun z => c3 z.symm)]
        simp only [h.1.r39_85, nn_s, kA_t h.1.k94 X0 (show ix (Int32.ofNat (60 * s + j)) < 1440 by omega), kA_t h.1.k94 Y0 (show ix (Int32.ofNat (60 * s + c)) < 1440 by omega), ck_t, X1, Y1, if_true, i10, if_false]
        have m1 : mtr R s c j = if mI R 97 (60 * s + c) = 0 then (if mI R 94 (60 * s + j) < mI R 94 (60 * s + c) then 0 else 1) else (if mI R 94 (60 * s + c) < mI R 94 (60 * s + j) then 0 else 1) := by unfold mtr; rw [if_neg c2, if_neg c3]
        rw [m1]
        have lt0 : ∀ x : Int32, x < 0 ↔ ¬ (0 ≤ x) := fun x => by clear h; grind
        by_cases c4 : mI R 97 (60 * s + j) = 0
        · have c5 : ¬ mI R 97 (60 * s + c) = 0 := fun z => c2 (z.trans c4.symm)
          rw [if_neg c5]
          simp only [if_pos c4]
          by_cases c6 : mI R 94 (60 * s + c) < mI R 94 (60 * s + j)
          · simp only [if_pos c6, if_true]
          · simp only [if_neg c6, i10, if_false]
            by_cases c7 : b = -1
            · subst c7
              simp only [if_pos (show (-1 : Int32) < 0 by decide), if_true]
            · obtain ⟨b0, b1⟩ := hb.resolve_left c7
              have eb : 60 * Int32.ofNat s + b = Int32.ofNat (60 * s + ix b) := by rw [← of_add, of_ix b b0, show (60 : Int32) = Int32.ofNat 60 from rfl, of_mul]
              have B0 : (0 : Int32) ≤ Int32.ofNat (60 * s + ix b) := of_nn _ (by omega)
              have B1 : ix (Int32.ofNat (60 * s + ix b)) = 60 * s + ix b := ix_of _ (by omega)
              simp only [if_neg (show ¬ b < 0 from fun z => (lt0 b).mp z b0), if_neg c7, eb, kA_t h.1.k94 B0 (show ix (Int32.ofNat (60 * s + ix b)) < 1440 by omega), ck_t, B1]
              have : btr R s j (ix b) = if mI R 94 (60 * s + ix b) ≤ mI R 94 (60 * s + j) then 0 else 1 := by unfold btr; rw [if_pos c4]
              rw [this]
              by_cases c8 : mI R 94 (60 * s + ix b) ≤ mI R 94 (60 * s + j)
              · simp only [if_pos c8, if_true]
              · simp only [if_neg c8, i10, if_false]
        · have c5 : mI R 97 (60 * s + c) = 0 := by
            rcases bc with z | z
            · exact z
            · rcases bj with z2 | z2
              · exact absurd z2 c4
              · exact absurd (z.trans z2.symm) c2
          rw [if_pos c5]
          simp only [if_neg c4]
          by_cases c6 : mI R 94 (60 * s + j) < mI R 94 (60 * s + c)
          · simp only [if_pos c6, if_true]
          · simp only [if_neg c6, i10, if_false]
            by_cases c7 : b = -1
            · subst c7
              simp only [if_pos (show (-1 : Int32) < 0 by decide), if_true]
            · obtain ⟨b0, b1⟩ := hb.resolve_left c7
              have eb : 60 * Int32.ofNat s + b = Int32.ofNat (60 * s + ix b) := by rw [← of_add, of_ix b b0, show (60 : Int32) = Int32.ofNat 60 from rfl, of_mul]
              have B0 : (0 : Int32) ≤ Int32.ofNat (60 * s + ix b) := of_nn _ (by omega)
              have B1 : ix (Int32.ofNat (60 * s + ix b)) = 60 * s + ix b := ix_of _ (by omega)
              simp only [if_neg (show ¬ b < 0 from fun z => (lt0 b).mp z b0), if_neg c7, eb, kA_t h.1.k94 B0 (show ix (Int32.ofNat (60 * s + ix b)) < 1440 by omega), ck_t, B1]
              have : btr R s j (ix b) = if mI R 94 (60 * s + j) ≤ mI R 94 (60 * s + ix b) then 0 else 1 := by unfold btr; rw [if_neg c4]
              rw [this]
              by_cases c8 : mI R 94 (60 * s + j) ≤ mI R 94 (60 * s + ix b)
              · simp only [if_pos c8, if_true]
              · simp only [if_neg c8, i10, if_false]
theorem wp_lp (h : WR ad C R) {s c T : Nat} (hs : s < ix (mI R 39 70)) (hc : c < ix (mI R 87 s)) (kT : mK C T = (20, 60)) (st : ∀ j, j < c → mI C T j = mI R 109 j ∧ 0 ≤ mI R 109 j) : ∀ (d n n2 j : Nat) (b : Int32), j + d = c → d < n → d < n2 → (b = -1 ∨ (0 ≤ b ∧ ix b < j ∧ mI R 109 (ix b) ≠ 0)) → ∃ r, Session_bestPartner_L5 n (ad 10 s) (Int32.ofNat c) T b (Int32.ofNat j) C = some (r, C) ∧ Mod_against_L6 n2 39 (Int32.ofNat s) (Int32.ofNat c) (Int32.ofNat c) b (Int32.ofNat j) R = some (r, R) ∧ (r = -1 ∨ (0 ≤ r ∧ ix r < c ∧ mI R 109 (ix r) ≠ 0)) := by
  have hN := h.2.1
  have h60 := (h.2.2 s hs).1
  intro d
  induction d with
  | zero =>
    intro n n2 j b hj hn hn2 hb
    obtain ⟨n, rfl⟩ : ∃ x, n = x + 1 := ⟨n - 1, by omega⟩
    obtain ⟨n2, rfl⟩ : ∃ x, n2 = x + 1 := ⟨n2 - 1, by omega⟩
    have e : j = c := by omega
    subst e
    have le : Int32.ofNat j ≤ Int32.ofNat j := (of_le j j (by omega) (by omega)).mpr (Nat.le_refl _)
    refine ⟨b, ?_, ?_, hb⟩
    · show Session_bestPartner_B5 _ _ _ _ _ _ _ = _
      unfold Session_bestPartner_B5
      rw [if_pos le]
    · show Mod_against_B6 _ _ _ _ _ _ _ _ = _
      unfold Mod_against_B6
      rw [if_pos le]
  | succ d ih =>
    intro n n2 j b hj hn hn2 hb
    obtain ⟨n, rfl⟩ : ∃ x, n = x + 1 := ⟨n - 1, by omega⟩
    obtain ⟨n2, rfl⟩ : ∃ x, n2 = x + 1 := ⟨n2 - 1, by omega⟩
    have hb2 : b = -1 ∨ (0 ≤ b ∧ ix b < c) := by
      rcases hb with z | z
      · exact Or.inl z
      · exact Or.inr ⟨z.1, by omega⟩
    have J0 : (0 : Int32) ≤ Int32.ofNat j := of_nn _ (by omega)
    have J1 : ix (Int32.ofNat j) = j := ix_of _ (by omega)
    obtain ⟨r, r1, r2, r3⟩ := ih n n2 (j + 1) (nxtr R s c j b) (by omega) (by omega) (by omega) (by
      unfold nxtr
      have w : b = -1 ∨ (0 ≤ b ∧ ix b < j + 1 ∧ mI R 109 (ix b) ≠ 0) := by
        rcases hb with z | z
        · exact Or.inl z
        · exact Or.inr ⟨z.1, by omega, z.2.2⟩
      by_cases c1 : mI R 109 j = 0
      · rw [if_pos c1]; exact w
      · rw [if_neg c1]
        have w2 : Int32.ofNat j = -1 ∨ (0 ≤ Int32.ofNat j ∧ ix (Int32.ofNat j) < j + 1 ∧ mI R 109 (ix (Int32.ofNat j)) ≠ 0) := Or.inr ⟨J0, by omega, by rw [J1]; exact c1⟩
        split
        · exact w
        · split
          · exact w2
          · split
            · exact w
            · exact w2)
    refine ⟨r, ?_, ?_, r3⟩
    · rw [← r1]
      exact wp_C h _ hs hc (by omega) kT (st j (by omega)) hb2
    · rw [← r2]
      exact wp_R h _ hs hc (by omega) hb2
/-- both sides find the same partner -/
theorem wv_part (h : WR ad C R) {s c T : Nat} (hs : s < ix (mI R 39 70)) (hc : c < ix (mI R 87 s)) (kT : mK C T = (20, 60)) (st : ∀ j, j < c → mI C T j = mI R 109 j ∧ 0 ≤ mI R 109 j) : ∃ r, Session_bestPartner C (ad 10 s) (Int32.ofNat c) T = some (r, C) ∧ Mod_against R 39 (Int32.ofNat s) (Int32.ofNat c) (Int32.ofNat c) = some (r, R) ∧ (r = -1 ∨ (0 ≤ r ∧ ix r < c ∧ mI R 109 (ix r) ≠ 0)) := by
  have hN := h.2.1
  have h60 := (h.2.2 s hs).1
  exact wp_lp h hs hc kT st c fu fu 0 (-1) (by omega) (fu_g (by omega)) (fu_g (by omega)) (Or.inl rfl)
end Y9
