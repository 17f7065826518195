section W4
variable {k : Nat} {ad : Nat → Nat → Nat} {C R : Mm}
def finF (x1 x2 al rd : Int32) (R : Mm) : Option (Int32 × Mm) := if x2 = 0 then some (mI R 113 (ix x1), R) else if x2 = 1 then some (mI R 114 (ix x1), R) else if x2 = 2 then some (al, R) else some (rd, R)
theorem ev_finF (h : Rel k ad C R) {x1 x2 : Int32} (hx : 0 ≤ x1 ∧ x1 < mI R 39 9) (m : Nat) (al rd x6 : Int32) : Mod_fails_L61 (m + 1) 39 x1 x2 al rd 0 x6 R = finF x1 x2 al rd R := by
  have n16 : ix x1 < 16 := ix_b 16 hx.1 hx.2 (by have := h.isc.persons; grind) (by decide)
  show Mod_fails_B61 _ _ _ _ _ _ _ _ _ = _
  unfold Mod_fails_B61 finF
  simp only [if_true, h.o39, ck_t, h.sr.r39_104, h.sr.r39_105, nn_s, kA_t h.sr.k113 hx.1 n16, kA_t h.sr.k114 hx.1 n16]
theorem lp_rounds (x1 x2 N : Int32) (hx : 0 ≤ x1 ∧ x1 < N) : ∀ (e n m r : Nat) (C R : Mm) (all rds : Int32), Rel k ad C R → mI R 39 9 = N → FS C R → all.toInt = nfI R → mI C 33 3 = all → mI C 33 4 = rds → r + e = ix N + 1 → 1 ≤ r → (r : Int) ≤ nfI R + 1 → e < n → e + 1 < m → ∃ C' R' all' rds', Ruin_reckon_L117 n 33 16 N (Int32.ofNat r) C = some ((), C') ∧ Mod_fails_L61 m 39 x1 x2 all rds 1 (Int32.ofNat r) R = finF x1 x2 all' rds' R' ∧ ExC C C' ∧ ExR R R' ∧ TRf C' R' ∧ mI C' 33 3 = all' ∧ mI C' 33 4 = rds' := by
  intro e
  induction e with
  | zero =>
    intro n m r C R all rds h hN hf ha hc hd hr h1 hb hn hm
    subst hN
    obtain ⟨n, rfl⟩ : ∃ x, n = x + 1 := ⟨n - 1, by omega⟩
    obtain ⟨m, rfl⟩ : ∃ x, m = x + 2 := ⟨m - 2, by omega⟩
    have h16 := p16 h
    have hP := h.isc.persons
    have nb := nf_b h
    refine ⟨C, R, all, rds, ?_, ?_, ExC.rf, ExR.rf, hf.1, hc, hd⟩
    · show Ruin_reckon_B117 _ _ _ _ _ _ = _
      unfold Ruin_reckon_B117
      rw [if_pos (by grind [ix_t, of_t])]
    · show Mod_fails_B61 (Mod_fails_L61 (m + 1)) 39 x1 x2 all rds 1 (Int32.ofNat r) R = _
      unfold Mod_fails_B61
      have hall : ∀ i, i < ix (mI R 39 9) → mI R 113 i ≠ 0 := fun i hi q => by
        have := sumTo_ub1 (f := fun q => if mI R 113 q = 0 then (0 : Int) else 1) (n := ix (mI R 39 9)) hi (by show (if mI R 113 i = 0 then (0 : Int) else 1) = 0; rw [if_pos q]) (fun j _ => by show (if mI R 113 j = 0 then (0 : Int) else 1) ≤ 1; split <;> omega)
        have e2 : sumTo (fun q => if mI R 113 q = 0 then (0 : Int) else 1) (ix (mI R 39 9)) = nfI R := rfl
        omega
      have z := lp_none h hf (rd := Int32.ofNat r) (Mod_fails_L61 (m + 1)) x1 x2 all rds hall (ix (mI R 39 9)) fu 0 (by omega) (fu_g (by omega))
      have z' : Mod_fails_L72 (Mod_fails_L61 (m + 1)) fu 39 x1 x2 all rds 0 (Int32.ofNat r) 0 R = Mod_fails_L61 (m + 1) 39 x1 x2 all rds 0 (Int32.ofNat r + 1) R := z
      rw [if_neg (by decide), z', ev_finF h hx]
  | succ e ih =>
    intro n m r C R all rds h hN hf ha hc hd hr h1 hb hn hm
    obtain ⟨n, rfl⟩ : ∃ x, n = x + 1 := ⟨n - 1, by omega⟩
    obtain ⟨m, rfl⟩ : ∃ x, m = x + 2 := ⟨m - 2, by omega⟩
    have h16 := p16 h
    have hP := h.isc.persons
    rw [hN] at h16 hP
    have nb := nf_b h
    rw [hN] at nb
    obtain ⟨C1, R1, all1, more1, y1, y2, y3, y4, y5, y6, y7, y8, y9, y10⟩ := lp_fail (rd := Int32.ofNat r) ⟨(of_le 1 r (by omega) (by omega)).mpr h1, (of_le r 100 (by omega) (by omega)).mpr (by omega)⟩ (Mod_fails_L61 (m + 1)) x1 x2 rds N (ix N) fu fu 0 C R all 0 (nfI R) h hN hf ha hc (Int.le_refl _) (by rw [if_pos rfl]) (by omega) (fu_g (by omega)) (fu_g (by omega))
    have y1' : Ruin_failAll C 33 16 N (Int32.ofNat r) = some ((), C1) := y1
    have y2' : Mod_fails_L72 (Mod_fails_L61 (m + 1)) fu 39 x1 x2 all rds 0 (Int32.ofNat r) 0 R = Mod_fails_L61 (m + 1) 39 x1 x2 all1 (if more1 = 0 then rds else Int32.ofNat r) more1 (Int32.ofNat r + 1) R1 := y2
    have hh := h.tmp y3 y4
    have e39 : mI R1 39 = mI R 39 := y4.1 39 (by unfold tR; omega)
    have hN1 : mI R1 39 9 = N := by rw [e39]; exact hN
    have nb1 := nf_b hh
    rw [hN1] at nb1
    have nlt : ¬ N < Int32.ofNat r := by grind [ix_t, of_t]
    show ∃ C' R' all' rds', Ruin_reckon_B117 (Ruin_reckon_L117 n) 33 16 N (Int32.ofNat r) C = some ((), C') ∧ Mod_fails_B61 (Mod_fails_L61 (m + 1)) 39 x1 x2 all rds 1 (Int32.ofNat r) R = _ ∧ _
    unfold Ruin_reckon_B117 Mod_fails_B61
    simp only [if_neg nlt, h.o33, ck_t, y1', bd_s, hh.o33, hc, y7, i10, if_false, y2', of_s1 r (by omega)]
    by_cases c : nfI R1 = nfI R
    · have em : more1 = 0 := by rw [y9, if_pos c]
      have ea : all1 = all := I_eq (by rw [y6, ha, c])
      rw [if_pos ea, em, if_pos rfl, ev_finF hh (by rw [hN1]; exact hx)]
      exact ⟨C1, R1, all1, rds, rfl, rfl, y3, y4, y5.1, y7, y10.trans hd⟩
    · have em : more1 = 1 := by rw [y9, if_neg c]
      have ea : ¬ all1 = all := fun q => c (by rw [← y6, ← ha, q])
      rw [if_neg ea, em, if_neg (by decide)]
      have w1 : ExC C1 (sI C1 33 4 (Int32.ofNat r)) := ExC.rf.s tC33.1
      obtain ⟨C', R', all', rds', z1, z2, z3, z4, z5, z6, z7⟩ := ih n (m + 1) (r + 1) (sI C1 33 4 (Int32.ofNat r)) R1 all1 (Int32.ofNat r) (hh.tmp w1 ExR.rf) hN1 ⟨y5.1, y5.2.1, y5.2.2⟩ y6 (by rw [mI_sI, if_neg (fun q => absurd q.2 (by decide))]; exact y7) (by rw [mI_sI, if_pos ⟨rfl, rfl⟩]) (by omega) (by omega) (by omega) (by omega) (by omega)
      exact ⟨C', R', all', rds', z1, z2, (y3.tr w1).tr z3, y4.tr z4, z5, z6, z7⟩
/-! the beginning of a reckoning -/
theorem lp_rin (x1 x2 : Int32) : ∀ (d m i : Nat) (R : Mm), Rel k ad C R → (∀ j, j < i → mI R 113 j = 0 ∧ mI R 114 j = 100) → i + d = ix (mI R 39 9) → d < m → ∃ R', ExR R R' ∧ (∀ j, j < ix (mI R 39 9) → mI R' 113 j = 0 ∧ mI R' 114 j = 100) ∧ Mod_fails_L21 m 39 x1 x2 (Int32.ofNat i) R = Mod_fails_L61 fu 39 x1 x2 0 0 1 1 R' := by
  intro d
  induction d with
  | zero =>
    intro m i R h hz hi hm
    obtain ⟨m, rfl⟩ : ∃ x, m = x + 1 := ⟨m - 1, by omega⟩
    have h16 := p16 h
    have hP := h.isc.persons
    refine ⟨R, ExR.rf, fun j hj => hz j (by omega), ?_⟩
    show Mod_fails_B21 _ _ _ _ _ _ = _
    unfold Mod_fails_B21
    rw [h.o39, ck_t, if_pos (by grind [ix_t, of_t])]
  | succ d ih =>
    intro m i R h hz hi hm
    obtain ⟨m, rfl⟩ : ∃ x, m = x + 1 := ⟨m - 1, by omega⟩
    have h16 := p16 h
    have hP := h.isc.persons
    have e : ¬ mI R 39 9 ≤ Int32.ofNat i := by grind [ix_t, of_t]
    have e0 : (0 : Int32) ≤ Int32.ofNat i := of_nn i (by omega)
    have e1 : ix (Int32.ofNat i) = i := ix_of i (by omega)
    have xr : ExR R (sI (sI R 113 i 0) 114 i 100) := (ExR.rf.s tR113.1).s tR113.2
    obtain ⟨R', y1, y2, y3⟩ := ih m (i + 1) _ (h.tmp ExC.rf xr) (fun j hj => by
      have g1 : mI (sI (sI R 113 i 0) 114 i 100) 113 j = mI (sI R 113 i 0) 113 j := rfl
      rw [g1, mI_sI, mI_sI]
      by_cases c : j = i
      · rw [if_pos ⟨rfl, c⟩, if_pos ⟨rfl, c⟩]; exact ⟨rfl, rfl⟩
      · rw [if_neg (fun q => c q.2), if_neg (fun q => c q.2)]; exact hz j (by omega)) (by show i + 1 + d = ix (mI R 39 9); omega) (by omega)
    refine ⟨R', xr.tr y1, y2, ?_⟩
    show Mod_fails_B21 _ _ _ _ _ _ = _
    unfold Mod_fails_B21
    simp only [h.o39, ck_t, if_neg e, h.sr.r39_104, h.sr.r39_105, mR_sI, kA_sI, nn_s, kA_t h.sr.k113 e0 (show ix (Int32.ofNat i) < 16 by omega), kA_t h.sr.k114 e0 (show ix (Int32.ofNat i) < 16 by omega), e1, of_s1 i (by omega)]
    exact y3
theorem lp_own {i : Nat} (k13 : Nat → Nat → Int32 → Nat → Int32 → Int32 → Int32 → Mm → Option (Unit × Mm)) : ∀ (d m s : Nat) (C : Mm), Rel k ad C R → i < ix (mI R 39 9) → mL C 36 i = cP R i + sumL (stT R i) s → s + d = ix (mI R 39 22) → d < m → ∃ C', ExC C C' ∧ (∀ j, mI C' j = mI C j) ∧ (∀ j, j ≠ i → mL C' 36 j = mL C 36 j) ∧ mL C' 36 i = ownR R i ∧ Ruin_reckon_L57 k13 m 33 16 (mI R 39 9) 17 (mI R 39 22) (lcl R) (Int32.ofNat i) (Int32.ofNat s) C = k13 33 16 (mI R 39 9) 17 (mI R 39 22) (lcl R) (Int32.ofNat (i + 1)) C' := by
  intro d
  induction d with
  | zero =>
    intro m s C h hi ho hs hm
    obtain ⟨m, rfl⟩ : ∃ x, m = x + 1 := ⟨m - 1, by omega⟩
    have h16 := p16 h
    have h4 := sto4 h
    have hS := h.isc.stores
    refine ⟨C, ExC.rf, fun _ => rfl, fun _ _ => rfl, by rw [ho, show s = ix (mI R 39 22) by omega]; rfl, ?_⟩
    show Ruin_reckon_B57 _ _ _ _ _ _ _ _ _ _ _ = _
    unfold Ruin_reckon_B57
    rw [if_pos (by grind [ix_t, of_t]), of_s1 i (by omega)]
  | succ d ih =>
    intro m s C h hi ho hs hm
    obtain ⟨m, rfl⟩ : ∃ x, m = x + 1 := ⟨m - 1, by omega⟩
    have h16 := p16 h
    have h4 := sto4 h
    have hS := h.isc.stores
    have e : ¬ mI R 39 22 ≤ Int32.ofNat s := by grind [ix_t, of_t]
    have e0 : (0 : Int32) ≤ Int32.ofNat s := of_nn s (by omega)
    have e1 : ix (Int32.ofNat s) = s := ix_of s (by omega)
    have i0 : (0 : Int32) ≤ Int32.ofNat i := of_nn i (by omega)
    have i1 : ix (Int32.ofNat i) = i := ix_of i (by omega)
    have lt : s < ix (mI R 39 22) := by omega
    have sp := h.shp i hi
    have sh := h.shs s lt
    have xc : ExC C (sL C 36 i (mL C 36 i + stT R i s)) := ExC.rf.l (Or.inr rfl)
    obtain ⟨C', y1, y2, y3, y4, y5⟩ := ih m (s + 1) _ (h.tmp xc ExR.rf) hi (by rw [mL_sL, if_pos ⟨rfl, rfl⟩, ho, Int64.add_assoc]; rfl) (by omega) (by omega)
    refine ⟨C', xc.tr y1, fun j => (y2 j).trans rfl, fun j hj => (y3 j hj).trans (by rw [mL_sL, if_neg (fun q => hj q.2)]), y4, ?_⟩
    show Ruin_reckon_B57 _ _ _ _ _ _ _ _ _ _ _ = _
    unfold Ruin_reckon_B57
    simp only [if_neg e, h.o33, ck_t, h.sc.r33_2, nn_s, kA_t h.sc.k36 i0 (show ix (Int32.ofNat i) < 16 by omega), kA_t h.sc.k16 i0 (show ix (Int32.ofNat i) < 16 by omega), i1, sp.1, kO_t sp.2.1, sp.2.2.1, kA_t sp.2.2.2.2.1 e0 (show ix (Int32.ofNat s) < 4 by omega), kA_t h.sc.k17 e0 (show ix (Int32.ofNat s) < 4 by omega), e1, sh.1, kO_t sh.2.1, ev_share h lt, bd_s, h.lpaper hi (show s < 4 by omega), of_s1 s (by omega)]
    exact y5
theorem lp_cin : ∀ (d n i : Nat) (C : Mm), Rel k ad C R → (∀ j, j < i → mI C 34 j = 0 ∧ mI C 35 j = 100 ∧ mL C 36 j = ownR R j) → mI C 33 3 = 0 ∧ mI C 33 4 = 0 → i + d = ix (mI R 39 9) → d < n → ∃ C', ExC C C' ∧ (∀ j, j < ix (mI R 39 9) → mI C' 34 j = 0 ∧ mI C' 35 j = 100 ∧ mL C' 36 j = ownR R j) ∧ (mI C' 33 3 = 0 ∧ mI C' 33 4 = 0) ∧ Ruin_reckon_L13 n 33 16 (mI R 39 9) 17 (mI R 39 22) (lcl R) (Int32.ofNat i) C = Ruin_reckon_L117 fu 33 16 (mI R 39 9) 1 C' := by
  intro d
  induction d with
  | zero =>
    intro n i C h hz h3 hi hn
    obtain ⟨n, rfl⟩ : ∃ x, n = x + 1 := ⟨n - 1, by omega⟩
    have h16 := p16 h
    have hP := h.isc.persons
    refine ⟨C, ExC.rf, fun j hj => hz j (by omega), h3, ?_⟩
    show Ruin_reckon_B13 _ _ _ _ _ _ _ _ _ = _
    unfold Ruin_reckon_B13
    rw [if_pos (by grind [ix_t, of_t])]
  | succ d ih =>
    intro n i C h hz h3 hi hn
    obtain ⟨n, rfl⟩ : ∃ x, n = x + 1 := ⟨n - 1, by omega⟩
    have h16 := p16 h
    have h4 := sto4 h
    have hP := h.isc.persons
    have e : ¬ mI R 39 9 ≤ Int32.ofNat i := by grind [ix_t, of_t]
    have e0 : (0 : Int32) ≤ Int32.ofNat i := of_nn i (by omega)
    have e1 : ix (Int32.ofNat i) = i := ix_of i (by omega)
    have lt : i < ix (mI R 39 9) := by omega
    have sp := h.shp i lt
    have xc : ExC C (sL (sI (sI C 34 i 0) 35 i 100) 36 i (cP R i)) := ((ExC.rf.s tC33.2.1).s tC33.2.2).l (Or.inr rfl)
    have g34 : ∀ j, mI (sL (sI (sI C 34 i 0) 35 i 100) 36 i (cP R i)) 34 j = if j = i then 0 else mI C 34 j := fun j => by
      show mI (sI C 34 i 0) 34 j = _
      rw [mI_sI]
      by_cases c : j = i
      · rw [if_pos ⟨rfl, c⟩, if_pos c]
      · rw [if_neg (fun q => c q.2), if_neg c]
    have g35 : ∀ j, mI (sL (sI (sI C 34 i 0) 35 i 100) 36 i (cP R i)) 35 j = if j = i then 100 else mI C 35 j := fun j => by
      show mI (sI (sI C 34 i 0) 35 i 100) 35 j = _
      rw [mI_sI]
      by_cases c : j = i
      · rw [if_pos ⟨rfl, c⟩, if_pos c]
      · rw [if_neg (fun q => c q.2), if_neg c]; rfl
    have hh := h.tmp xc ExR.rf
    obtain ⟨C1, y1, y2, y3, y4, y5⟩ := lp_own (k := k) (ad := ad) (R := R) (i := i) (Ruin_reckon_L13 n) (ix (mI R 39 22)) fu 0 _ hh lt (by rw [mL_sL, if_pos ⟨rfl, rfl⟩]; exact (Int64.add_zero _).symm) (by omega) (fu_g (by omega))
    have hh1 := hh.tmp y1 ExR.rf
    obtain ⟨C', z1, z2, z3, z4⟩ := ih n (i + 1) C1 hh1 (fun j hj => by
      rw [y2 34, y2 35, g34, g35]
      by_cases c : j = i
      · rw [if_pos c, if_pos c, c, y4]; exact ⟨rfl, rfl, rfl⟩
      · rw [if_neg c, if_neg c, y3 j c, mL_sL, if_neg (fun q => c q.2)]
        exact hz j (by omega)) (by rw [y2 33]; exact h3) (by omega) (by omega)
    refine ⟨C', (xc.tr y1).tr z1, z2, z3, ?_⟩
    have mx : Math_max_L (sI (sI C 34 i 0) 35 i 100) 0 (mL R 52 i) = some (cP R i, sI (sI C 34 i 0) 35 i 100) := by
      unfold Math_max_L cP
      by_cases c : mL R 52 i ≤ 0
      · rw [if_pos c, if_neg (by rw [L_lt]; rw [L_le] at c; omega)]
      · rw [if_neg c, if_pos (by rw [L_lt]; rw [L_le] at c; omega)]
    have l3 : mL (sI (sI C 34 i 0) 35 i 100) (ad 1 i) 3 = mL R 52 i := h.llp3 lt
    show Ruin_reckon_B13 _ _ _ _ _ _ _ _ _ = _
    unfold Ruin_reckon_B13
    simp only [if_neg e, h.o33, ck_t, h.sc.r33_0, h.sc.r33_1, h.sc.r33_2, mR_sI, kA_sI, kO_sI, nn_s, kA_t h.sc.k34 e0 (show ix (Int32.ofNat i) < 16 by omega), kA_t h.sc.k35 e0 (show ix (Int32.ofNat i) < 16 by omega), kA_t h.sc.k36 e0 (show ix (Int32.ofNat i) < 16 by omega), kA_t h.sc.k16 e0 (show ix (Int32.ofNat i) < 16 by omega), e1, sp.1, kO_t sp.2.1, l3, mx, bd_s]
    exact y5.trans z4
end W4
