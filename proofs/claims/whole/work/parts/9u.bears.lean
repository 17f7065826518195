/-! the rest, one by one; the lack is borne alike -/
section ZC
variable {k : Nat} {ad : Nat → Nat → Nat} {C R : Mm}
theorem lp_take (h : Rel k ad C R) {lk : Int64} {b g : Nat → Int64} : ∀ (d m j : Nat) (E : Mm), j + d = ix (mI R 39 9) → d < m → Rn (ix (mI R 39 9)) R E (fun p => if p < j then mL R 52 p - b p else mL R 52 p) b g → ∃ E', Mod_bears_L189 m 39 lk (Int32.ofNat j) E = some ((), sL E' 39 18 (mL R 39 18 + lk)) ∧ Rn (ix (mI R 39 9)) R E' (fun p => mL R 52 p - b p) b g := by
  have n16 := p16 h
  have p0 := h.isc.persons.1
  have e9 : mI R 39 9 = Int32.ofNat (ix (mI R 39 9)) := (of_ix _ p0).symm
  intro d
  induction d with
  | zero =>
    intro m j E hj hm hE
    obtain ⟨m, rfl⟩ : ∃ x, m = x + 1 := ⟨m - 1, by omega⟩
    have ej : j = ix (mI R 39 9) := by omega
    have le : mI E 39 9 ≤ Int32.ofNat j := by rw [hE.1, ej, ← e9]; exact Int32.le_refl _
    have sr : SR E := h.sr.sm hE.2.2.1 hE.2.1
    have fu18 : mL E 39 18 = mL R 39 18 := hE.2.2.2.2.2.2 39 18 (by decide) (by decide) (fun z => by omega)
    refine ⟨E, ?_, hE.cg (fun p hp => by rw [if_pos (by omega)]) (fun _ _ => rfl) (fun _ _ => rfl)⟩
    show Mod_bears_B189 _ _ _ _ _ = _
    unfold Mod_bears_B189
    simp only [kO_t sr.k39, ck_t, if_pos le, fu18]
  | succ d ih =>
    intro m j E hj hm hE
    obtain ⟨m, rfl⟩ : ∃ x, m = x + 1 := ⟨m - 1, by omega⟩
    have P0 : (0 : Int32) ≤ Int32.ofNat j := of_nn _ (by omega)
    have P1 : ix (Int32.ofNat j) = j := ix_of _ (by omega)
    have Plt : ix (Int32.ofNat j) < 16 := by omega
    have hj1 : j < ix (mI R 39 9) := by omega
    have nle : ¬ mI E 39 9 ≤ Int32.ofNat j := by
      rw [hE.1, e9]; intro w
      have := (of_le _ j (by omega) (by omega)).mp w
      omega
    have sr : SR E := h.sr.sm hE.2.2.1 hE.2.1
    have fj : mL E 52 j = mL R 52 j := (hE.2.2.2.1 j hj1).trans (if_neg (by omega))
    have bj : mL E 110 j = b j := hE.2.2.2.2.1 j (by omega)
    have h3 := (hE.co (p := j) (v := mL R 52 j - b j) hj1).cg (f' := fun p => if p < j + 1 then mL R 52 p - b p else mL R 52 p) (b' := b) (g' := g) (fun p _ => upd_if (A := fun p => mL R 52 p - b p) (B := mL R 52)) (fun _ _ => rfl) (fun _ _ => rfl)
    obtain ⟨E', z1, z2⟩ := ih m (j + 1) _ (by omega) (by omega) h3
    refine ⟨E', ?_, z2⟩
    rw [← z1]
    show Mod_bears_B189 _ _ _ _ _ = _
    unfold Mod_bears_B189
    simp only [kO_t sr.k39, ck_t, if_neg nle, sr.r39_16, nn_s, kA_t sr.k52 P0 Plt, sr.r39_101, kA_t sr.k110 P0 Plt, P1, fj, bj, of_s1 j (by omega)]
theorem lp_lack (h : Rel k ad C R) {n : Nat} (hn : n = ix (mI R 39 9)) {lk al : Int64} {Q Rm : Nat → Int64} (H : ∀ p, p < n → 0 ≤ (Rm p).toInt ∧ (Rm p).toInt < al.toInt) (a0 : 0 < al.toInt) (aB : al.toInt ≤ 1600000000000) : ∀ (l m m2 i : Nat) (left : Int64) (D E : Mm) (f g b g' : Nat → Int64), left.toInt = l → i + l ≤ n → l < m → l < m2 → Cn ad n C D f g → Rn n R E (mL R 52) b g' → (∀ p, p < n → f p = mL R 52 p - b p) → (∀ p, p < n → (b p = Q p ∧ g p = Rm p ∧ ((g' p).toInt = (Rm p).toInt ∨ ((g' p).toInt = -1 ∧ (Rm p).toInt = 0))) ∨ (b p = Q p + 1 ∧ (g p).toInt = 0 ∧ (g' p).toInt = -1 ∧ 0 < (Rm p).toInt)) → (l : Int) * al.toInt ≤ sumTo (fun p => (g p).toInt) n → ∃ D' E' f' g2 b2 g2', House_partTheLack_L123 m 30 16 (mI R 39 9) lk left (Int32.ofNat i) D = some ((), sL D' 30 4 (mL R 39 18 + lk)) ∧ Mod_bears_L106 m2 39 lk left E = some ((), sL E' 39 18 (mL R 39 18 + lk)) ∧ Cn ad n C D' f' g2 ∧ Rn n R E' f' b2 g2' ∧ ∀ p, p < n → f' p = mL R 52 p - Q p ∨ (f' p = mL R 52 p - (Q p + 1) ∧ 0 < (Rm p).toInt) := by
  have n16 : n ≤ 16 := by rw [hn]; exact p16 h
  have p0 := h.isc.persons.1
  have e9 : mI R 39 9 = Int32.ofNat n := by rw [hn]; exact (of_ix _ p0).symm
  have z0 : (0 : Int64).toInt = 0 := rfl
  have one1 : (1 : Int64).toInt = 1 := rfl
  intro l
  induction l with
  | zero =>
    intro m m2 i left D E f g b g' hl hi hm hm2 hD hE hf hJ hS
    obtain ⟨m, rfl⟩ : ∃ x, m = x + 1 := ⟨m - 1, by omega⟩
    obtain ⟨m2, rfl⟩ : ∃ x, m2 = x + 1 := ⟨m2 - 1, by omega⟩
    have l0 : left ≤ 0 := by rw [L_le, z0]; omega
    subst hn
    obtain ⟨E', t1, t2⟩ := lp_take (lk := lk) (b := b) (g := g') h (ix (mI R 39 9)) fu 0 E (by omega) (fu_g (by omega)) (hE.cg (fun p _ => by rw [if_neg (by omega)]) (fun _ _ => rfl) (fun _ _ => rfl))
    have kD30 : mK D 30 = (3, 7) := by rw [hD.2.2.1]; exact h.sc.k30
    have l304 : mL D 30 4 = mL R 39 18 := by
      rw [hD.2.2.2.2.2.2.2 30 4 (by decide) (fun p _ e => by have := h.hA.1 1 p; omega)]
      exact h.ll30_4
    refine ⟨D, E', fun p => mL R 52 p - b p, g, b, g', ?_, ?_, hD.cg (fun p hp => (hf p hp).symm) (fun _ _ => rfl), t2, fun p hp => ?_⟩
    · show House_partTheLack_B123 _ _ _ _ _ _ _ _ = _
      unfold House_partTheLack_B123 House_partTheLack_J176
      simp only [if_pos l0, kO_t kD30, ck_t, l304]
      split <;> rfl
    · show Mod_bears_B106 _ _ _ _ _ = _
      unfold Mod_bears_B106
      rw [if_pos l0]
      exact t1
    · rcases hJ p hp with q | q
      · exact Or.inl (by show mL R 52 p - b p = _; rw [q.1])
      · exact Or.inr ⟨by show mL R 52 p - b p = _; rw [q.1], q.2.2.2⟩
  | succ l ih =>
    intro m m2 i left D E f g b g' hl hi hm hm2 hD hE hf hJ hS
    obtain ⟨m, rfl⟩ : ∃ x, m = x + 1 := ⟨m - 1, by omega⟩
    obtain ⟨m2, rfl⟩ : ∃ x, m2 = x + 1 := ⟨m2 - 1, by omega⟩
    have l0 : ¬ left ≤ 0 := by rw [L_le, z0]; omega
    have nle : ¬ mI R 39 9 ≤ Int32.ofNat i := by
      rw [e9]; intro w
      have := (of_le _ i (by omega) (by omega)).mp w
      omega
    have kD30 : mK D 30 = (3, 7) := by rw [hD.2.2.1]; exact h.sc.k30
    have kD32 : mK D 32 = (23, 16) := by rw [hD.2.2.1]; exact h.sc.k32
    have kD16 : mK D 16 = (24, 16) := by rw [hD.2.2.1]; exact h.sc.k16
    have rD : mR D 30 1 = some 32 := by rw [hD.2.1]; exact h.sc.r30_1
    have sr : SR E := h.sr.sm hE.2.2.1 hE.2.1
    have eS : ((l + 1 : Nat) : Int) * al.toInt = (l : Int) * al.toInt + al.toInt := by
      rw [show ((l + 1 : Nat) : Int) = (l : Int) + 1 from rfl, Int.add_mul, Int.one_mul]
    have lnn : 0 ≤ (l : Int) * al.toInt := Int.mul_nonneg (by omega) (by omega)
    have HG : ∀ p, p < n → 0 ≤ (g p).toInt ∧ ((g p).toInt = (g' p).toInt ∨ ((g p).toInt = 0 ∧ (g' p).toInt = -1)) := fun p hp => by
      have a := H p hp
      rcases hJ p hp with ⟨q1, q2, q3⟩ | ⟨q1, q2, q3, q4⟩
      · rw [q2]; omega
      · omega
    have ex : ∃ q, q < n ∧ 0 < (g q).toInt := by
      apply Classical.byContradiction
      intro no
      have : sumTo (fun p => (g p).toInt) n = 0 := sumTo_0 (fun j hj => by
        have a := (HG j hj).1
        apply Classical.byContradiction
        intro ne
        exact no ⟨j, hj, by have ne : ¬ (g j).toInt = 0 := ne; omega⟩)
      omega
    have ne0 : 0 < n := by omega
    obtain ⟨x1, x2⟩ := amx_sim HG ex (d := n - 1) (p := 1) (c := 0) (c' := 0) (by omega) ne0 ne0 (fun x hx => by rw [show x = 0 by omega]; exact Int.le_refl _) (Or.inl rfl)
    have xlt : amx g (n - 1) 1 0 < n := amx_lt (by omega) ne0
    have gr : House_greatestRemainder D 30 (mI R 39 9) = some (Int32.ofNat (amx g (n - 1) 1 0), D) := by
      rw [e9]
      exact lp_amc kD30 rD kD32 hD.2.2.2.2.2.2.1 n16 (n - 1) fu 1 0 (by omega) (fu_g (by omega)) ne0
    have ma := lp_amr (E := E) (g := g') sr hE.2.2.2.2.2.1 (n := n) (by rw [hE.1]; exact e9) n16 (Mod_bears_L106 m2) lk left (n - 1) fu 1 0 (by omega) (fu_g (by omega)) ne0
    rw [← x1] at ma
    generalize amx g (n - 1) 1 0 = x at *
    have X0 : (0 : Int32) ≤ Int32.ofNat x := of_nn _ (by omega)
    have X1 : ix (Int32.ofNat x) = x := ix_of _ (by omega)
    have Xlt : ix (Int32.ofNat x) < 16 := by omega
    have hx1 : x < ix (mI R 39 9) := by omega
    have sp := h.shp x hx1
    have rDx : mR D 16 x = some (ad 1 x) := by rw [hD.2.1]; exact sp.1
    have kDp : mK D (ad 1 x) = (6, 9) := by rw [hD.2.2.1]; exact sp.2.1
    have fx : mL D (ad 1 x) 3 = f x := hD.2.2.2.2.2.1 x xlt
    have bx : mL E 110 x = b x := hE.2.2.2.2.1 x (by omega)
    rw [bx] at ma
    have jx : b x = Q x ∧ g x = Rm x := by
      rcases hJ x xlt with ⟨q1, q2, q3⟩ | ⟨q1, q2, q3, q4⟩
      · exact ⟨q1, q2⟩
      · omega
    have hx := H x xlt
    have D1 := (hD.co (p := x) (v := f x - 1) h.hA xlt).re (p := x) (v := 0) h.hA
    have E1 := (hE.be (p := x) (v := b x + 1)).rs (p := x) (v := -1)
    have lf : (left - 1).toInt = l := by rw [L_sub _ _ (by omega) (by omega) (by rw [one1]; omega) (by rw [one1]; omega), one1, hl]; omega
    have sm : sumTo (fun p => (updL g x 0 p).toInt) n = sumTo (fun p => (g p).toInt) n + (0 - (g x).toInt) := by
      rw [sumTo_one (f := fun p => (updL g x 0 p).toInt) (g := fun p => (g p).toInt) xlt (fun j hj ne => by unfold updL; rw [if_neg ne])]
      unfold updL
      simp only [if_pos trivial, z0]
    obtain ⟨D', E', f', g2, b2, g2', y1, y2, y3⟩ := ih m m2 (i + 1) (left - 1) _ _ _ _ _ _ lf (by omega) (by omega) (by omega) D1 E1 (fun p hp => by
        unfold updL
        by_cases e : p = x
        · subst e
          rw [if_pos rfl, if_pos rfl, hf p hp]; grind
        · rw [if_neg e, if_neg e]; exact hf p hp) (fun p hp => by
        unfold updL
        by_cases e : p = x
        · subst e
          rw [if_pos rfl, if_pos rfl, if_pos rfl, jx.1]
          rw [jx.2] at x2
          exact Or.inr ⟨rfl, rfl, rfl, x2⟩
        · rw [if_neg e, if_neg e, if_neg e]; exact hJ p hp) (by
        rw [sm, jx.2]
        omega)
    refine ⟨D', E', f', g2, b2, g2', ?_, ?_, y3⟩
    · rw [← y1]
      show House_partTheLack_B123 _ _ _ _ _ _ _ _ = _
      unfold House_partTheLack_B123
      simp only [if_neg nle, if_neg l0, kO_t kD30, ck_t, gr, bd_s, kA_t kD16 X0 Xlt, X1, rDx, nn_s, kO_t kDp, kO_sL, mR_sL, rD, kA_sL, kA_t kD32 X0 Xlt, fx, of_s1 i (by omega)]
    · rw [← y2]
      show Mod_bears_B106 _ _ _ _ _ = _
      unfold Mod_bears_B106
      rw [if_neg l0]
      exact ma
theorem lack_sim (h : Rel k ad C R) (neg : ¬ 0 ≤ mL R 39 18) : ∃ C' R', House_partTheLack C 30 16 (mI R 39 9) = some ((), C') ∧ Mod_bears R 39 = some ((), R') ∧ Rel k ad C' R' ∧ mI C' = mI C ∧ mR C' = mR C ∧ mK C' = mK C ∧ mI R' = mI R := by
  have n16 := p16 h
  have z0 : (0 : Int64).toInt = 0 := rfl
  have cl := h.isc.closes
  rw [I_le, I_le, i0T, show (24 : Int32).toInt = 24 from rfl] at cl
  have hk := h.ipe.2.2.2.2.2
  have bF := h.ipe.2.2.2.1
  obtain ⟨a1, a2⟩ := lp_all h (ix (mI R 39 9)) fu fu 0 (by omega) (fu_g (by omega)) (fu_g (by omega))
  have a1 : House_partTheLack C 30 16 (mI R 39 9) = _ := a1
  have a2 : Mod_bears R 39 = _ := a2
  rw [if_neg neg] at a1
  rw [L_le, z0] at neg
  have nF : (-(mL R 39 18)).toInt = -(mL R 39 18).toInt := L_neg _ (by omega) (by omega)
  have hsb : ∀ j, j < ix (mI R 39 9) → 0 ≤ (hsL R j).toInt ∧ (hsL R j).toInt ≤ 100000000000 := fun j hj => by have := hs_b h (show j < 16 by omega); omega
  obtain ⟨s1, s2, s3⟩ := sumL_t (f := hsL R) n16 hsb
  have sB : (sumL (hsL R) (ix (mI R 39 9))).toInt ≤ 1600000000000 := by omega
  have q1 := fun (lk : Int64) (hl0 : 0 ≤ lk.toInt) (hla : lk.toInt ≤ (sumL (hsL R) (ix (mI R 39 9))).toInt) (ha : 0 < (sumL (hsL R) (ix (mI R 39 9))).toInt) => lp_first h hl0 hla ha (ix (mI R 39 9)) fu 0 C (by omega) (fu_g (by omega)) ⟨rfl, rfl, rfl, rfl, rfl, fun p hp => (h.llp3 hp).trans (if_neg (by omega)).symm, fun p hp => (if_neg (by omega)).symm, fun _ _ _ _ => rfl⟩
  have q2 := fun (lk : Int64) (hl0 : 0 ≤ lk.toInt) (hla : lk.toInt ≤ (sumL (hsL R) (ix (mI R 39 9))).toInt) (ha : 0 < (sumL (hsL R) (ix (mI R 39 9))).toInt) => lp_mfirst h hl0 hla ha (ix (mI R 39 9)) fu 0 R (by omega) (fu_g (by omega)) ⟨rfl, rfl, rfl, fun p hp => rfl, fun p hp => (if_neg (by omega)).symm, fun p hp => (if_neg (by omega)).symm, fun _ _ _ _ _ => rfl⟩
  generalize hal : sumL (hsL R) (ix (mI R 39 9)) = al at *
  by_cases c1 : 0 < al
  · rw [if_pos c1] at a1
    rw [L_lt, z0] at c1
    -- what is parted
    obtain ⟨lk, e1, e2, e3, e4, e5⟩ : ∃ lk : Int64, (if al < -(mL R 39 18) then al else -(mL R 39 18)) = lk ∧ (if al ≤ -(mL R 39 18) then al else -(mL R 39 18)) = lk ∧ 0 < lk.toInt ∧ lk.toInt ≤ al.toInt ∧ lk.toInt ≤ -(mL R 39 18).toInt := by
      by_cases c2 : al < -(mL R 39 18)
      · refine ⟨al, if_pos c2, ?_, c1, Int.le_refl _, ?_⟩
        · rw [if_pos (by rw [L_le]; rw [L_lt] at c2; omega)]
        · rw [L_lt, nF] at c2; omega
      · refine ⟨-(mL R 39 18), if_neg c2, ?_, by rw [nF]; omega, ?_, by rw [nF]; exact Int.le_refl _⟩
        · by_cases c3 : al ≤ -(mL R 39 18)
          · rw [if_pos c3]
            apply L_eq
            rw [L_le] at c3; rw [L_lt] at c2; omega
          · rw [if_neg c3]
        · rw [L_lt] at c2; omega
    rw [e1] at a1
    rw [e2] at a2
    obtain ⟨D, d1, d2⟩ := q1 lk (by omega) e4 c1
    obtain ⟨E, f1, f2⟩ := q2 lk (by omega) e4 c1
    have sl0 : lk - sumL (fun p => QL (hsL R p) lk al) 0 = lk := by show lk - 0 = lk; grind
    have qs : ∀ p, p < ix (mI R 39 9) → (QL (hsL R p) lk al).toInt * al.toInt + (RmL (hsL R p) lk al).toInt = (hsL R p).toInt * lk.toInt ∧ 0 ≤ (RmL (hsL R p) lk al).toInt ∧ (RmL (hsL R p) lk al).toInt < al.toInt ∧ 0 ≤ (QL (hsL R p) lk al).toInt ∧ (QL (hsL R p) lk al).toInt ≤ (hsL R p).toInt := fun p hp => by
      have := hsb p hp
      exact QL_s (by omega) (by omega) (by omega) e4 c1 (by omega)
    obtain ⟨t1, t2, t3⟩ := sumL_t (f := fun p => QL (hsL R p) lk al) n16 (fun j hj => by have := qs j hj; have := hsb j hj; show 0 ≤ (QL (hsL R j) lk al).toInt ∧ (QL (hsL R j) lk al).toInt ≤ 100000000000; omega)
    have lin := sumTo_lin (q := fun p => (QL (hsL R p) lk al).toInt) (r := fun p => (RmL (hsL R p) lk al).toInt) (h := fun p => (hsL R p).toInt) (al := al.toInt) (lk := lk.toInt) (n := ix (mI R 39 9)) (fun p hp => (qs p hp).1)
    rw [← t1, ← s1] at lin
    have lt := sumTo_lt (r := fun p => (RmL (hsL R p) lk al).toInt) (al := al.toInt) (n := ix (mI R 39 9)) (fun p hp => by have := (qs p hp).2.2.1; show (RmL (hsL R p) lk al).toInt + 1 ≤ al.toInt; omega)
    have nn := sumTo_nn (f := fun p => (RmL (hsL R p) lk al).toInt) (n := ix (mI R 39 9)) (fun p hp => (qs p hp).2.1)
    have lef : (lk - sumL (fun p => QL (hsL R p) lk al) (ix (mI R 39 9))).toInt = lk.toInt - (sumL (fun p => QL (hsL R p) lk al) (ix (mI R 39 9))).toInt := L_sub _ _ (by omega) (by omega) (by omega) (by omega)
    generalize sumL (fun p => QL (hsL R p) lk al) (ix (mI R 39 9)) = SQ at *
    have prod : (lk.toInt - SQ.toInt) * al.toInt = sumTo (fun p => (RmL (hsL R p) lk al).toInt) (ix (mI R 39 9)) := by
      rw [Int.sub_mul, Int.mul_comm lk.toInt]
      omega
    have lo : 0 ≤ lk.toInt - SQ.toInt := by
      apply Classical.byContradiction
      intro q
      have := Int.mul_le_mul_of_nonneg_right (show lk.toInt - SQ.toInt ≤ -1 by omega) (show 0 ≤ al.toInt by omega)
      omega
    have hi : lk.toInt - SQ.toInt ≤ ix (mI R 39 9) := by
      apply Classical.byContradiction
      intro q
      have := Int.mul_le_mul_of_nonneg_right (show (ix (mI R 39 9) : Int) ≤ lk.toInt - SQ.toInt by omega) (show 0 ≤ al.toInt by omega)
      have h9 : ix (mI R 39 9) = 0 := by omega
      rw [h9] at hal
      have : al.toInt = 0 := by rw [← hal]; rfl
      omega
    obtain ⟨l, hl⟩ : ∃ l : Nat, lk.toInt - SQ.toInt = l := ⟨(lk.toInt - SQ.toInt).toNat, by omega⟩
    obtain ⟨D', E', f', g2, b2, g2', y1, y2, y3, y4, y5⟩ := lp_lack h (n := ix (mI R 39 9)) rfl (lk := lk) (al := al) (Q := fun p => QL (hsL R p) lk al) (Rm := fun p => RmL (hsL R p) lk al) (fun p hp => ⟨(qs p hp).2.1, (qs p hp).2.2.1⟩) c1 sB l fu fu 0 (lk - SQ) D E _ _ _ _ (by rw [lef]; exact hl) (by omega) (fu_g (by omega)) (fu_g (by omega)) d2 f2 (fun p hp => by rw [if_pos hp]) (fun p hp => Or.inl ⟨by rw [if_pos hp], by rw [if_pos hp], by
        rw [if_pos hp]
        by_cases c : hsL R p = 0
        · rw [if_pos c]
          have b := qs p hp
          have : (hsL R p).toInt = 0 := by rw [c]; rfl
          rw [this, Int.zero_mul] at b
          right
          refine ⟨rfl, ?_⟩
          have q0 : (QL (hsL R p) lk al).toInt = 0 := by omega
          rw [q0] at b
          omega
        · rw [if_neg c]
          exact Or.inl rfl⟩) (by
        rw [← hl, prod]
        rw [sumTo_cg (f := fun p => (RmL (hsL R p) lk al).toInt) (g := fun p => (if p < ix (mI R 39 9) then RmL (hsL R p) lk al else mL C 32 p).toInt) (fun j hj => by show (RmL (hsL R j) lk al).toInt = (if j < ix (mI R 39 9) then RmL (hsL R j) lk al else mL C 32 j).toInt; rw [if_pos hj])]
        exact Int.le_refl _)
    have rel := h.coins rfl y3 y4 (fun p hp => by
      have b := h.okl (show p < 16 by omega)
      unfold okL at b ⊢
      have hs := hs_b h (show p < 16 by omega)
      have qp := qs p hp
      rcases y5 p hp with e | ⟨e, pos⟩
      · rw [e, L_sub _ _ (by omega) (by omega) (by omega) (by omega)]
        omega
      · have hq : (QL (hsL R p) lk al).toInt + 1 ≤ (hsL R p).toInt := by
          apply Classical.byContradiction
          intro q
          have e2 : (QL (hsL R p) lk al).toInt = (hsL R p).toInt := by omega
          rw [e2] at qp
          have := Int.mul_le_mul_of_nonneg_left e4 (show 0 ≤ (hsL R p).toInt by omega)
          have pos : 0 < (RmL (hsL R p) lk al).toInt := pos
          omega
        have one1 : (1 : Int64).toInt = 1 := rfl
        have t : (QL (hsL R p) lk al + 1).toInt = (QL (hsL R p) lk al).toInt + 1 := by rw [L_add _ _ (by omega) (by omega) (by rw [one1]; omega) (by rw [one1]; omega), one1]
        rw [e, L_sub _ _ (by omega) (by omega) (by omega) (by omega), t]
        omega)
    have i71 : mI E' = mI R := y4.1
    have w := rel.wFu (v := mL R 39 18 + lk) (by
      rw [i71, L_add _ _ (by omega) (by omega) (by omega) (by omega)]
      omega)
    refine ⟨_, _, ?_, ?_, w, y3.1, y3.2.1, y3.2.2.1, i71⟩
    · rw [a1]
      rw [sl0] at d1
      have d1 : House_partTheLack_L65 fu 30 16 (mI R 39 9) al lk lk 0 C = _ := d1
      rw [d1]
      exact y1
    · rw [a2]
      unfold Mod_bears_J57
      rw [if_neg (fun q => by rw [q, z0] at e3; omega)]
      rw [sl0] at f1
      have f1 : Mod_bears_L71 fu 39 al lk lk 0 R = _ := f1
      rw [f1]
      exact y2
  · rw [if_neg c1] at a1
    rw [L_lt, z0] at c1
    refine ⟨C, R, a1, ?_, h, rfl, rfl, rfl, rfl⟩
    rw [a2]
    unfold Mod_bears_J57
    have e0 : al = 0 := L_eq (by rw [z0]; omega)
    rw [e0]
    have : (if (0 : Int64) ≤ -mL R 39 18 then (0 : Int64) else -mL R 39 18) = 0 := by
      rw [if_pos (by rw [L_le, z0, nF]; omega)]
    rw [this, if_pos rfl]
end ZC
