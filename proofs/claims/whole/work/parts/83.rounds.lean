section W3
variable {k : Nat} {ad : Nat → Nat → Nat} {C R : Mm}
theorem tC33 : tC 33 ∧ tC 34 ∧ tC 35 := by unfold tC; omega
theorem tR113 : tR 113 ∧ tR 114 := by unfold tR; omega
/-- one person fails -/
theorem fail1 (h : Rel k ad C R) (hf : FS C R) {i : Nat} {rd pt al : Int32} (hi : i < ix (mI R 39 9)) (hz : mI R 113 i = 0) (hr : 1 ≤ rd ∧ rd ≤ 100) (hp : 0 ≤ pt ∧ pt ≤ 100) : ExC C (sI (sI (sI C 34 i rd) 35 i pt) 33 3 al) ∧ ExR R (sI (sI R 113 i rd) 114 i pt) ∧ FS (sI (sI (sI C 34 i rd) 35 i pt) 33 3 al) (sI (sI R 113 i rd) 114 i pt) ∧ nfI (sI (sI R 113 i rd) 114 i pt) = nfI R + 1 := by
  have h16 := p16 h
  have xC : ExC C (sI (sI (sI C 34 i rd) 35 i pt) 33 3 al) := ((ExC.rf.s tC33.2.1).s tC33.2.2).s tC33.1
  have xR : ExR R (sI (sI R 113 i rd) 114 i pt) := (ExR.rf.s tR113.1).s tR113.2
  have g113 : ∀ j, mI (sI (sI R 113 i rd) 114 i pt) 113 j = if j = i then rd else mI R 113 j := fun j => by
    show mI (sI R 113 i rd) 113 j = _
    rw [mI_sI]
    by_cases c : j = i
    · rw [if_pos ⟨rfl, c⟩, if_pos c]
    · rw [if_neg (fun q => c q.2), if_neg c]
  have g114 : ∀ j, mI (sI (sI R 113 i rd) 114 i pt) 114 j = if j = i then pt else mI R 114 j := fun j => by
    rw [mI_sI]
    by_cases c : j = i
    · rw [if_pos ⟨rfl, c⟩, if_pos c]
    · rw [if_neg (fun q => c q.2), if_neg c]; rfl
  have c34 : ∀ j, mI (sI (sI (sI C 34 i rd) 35 i pt) 33 3 al) 34 j = if j = i then rd else mI C 34 j := fun j => by
    show mI (sI C 34 i rd) 34 j = _
    rw [mI_sI]
    by_cases c : j = i
    · rw [if_pos ⟨rfl, c⟩, if_pos c]
    · rw [if_neg (fun q => c q.2), if_neg c]
  have c35 : ∀ j, mI (sI (sI (sI C 34 i rd) 35 i pt) 33 3 al) 35 j = if j = i then pt else mI C 35 j := fun j => by
    show mI (sI (sI C 34 i rd) 35 i pt) 35 j = _
    rw [mI_sI]
    by_cases c : j = i
    · rw [if_pos ⟨rfl, c⟩, if_pos c]
    · rw [if_neg (fun q => c q.2), if_neg c]; rfl
  refine ⟨xC, xR, ⟨fun j hj => ?_, fun j hj => ?_, fun j hj => ?_⟩, ?_⟩
  · rw [g113, g114, c34, c35]
    obtain ⟨a, b⟩ := hf.1 j hj
    split
    · exact ⟨rfl, rfl⟩
    · exact ⟨a, b⟩
  · rw [g113, g114]
    obtain ⟨a, b⟩ := hf.2.1 j hj
    split
    · exact ⟨⟨by grind, hr.2⟩, hp⟩
    · exact ⟨a, b⟩
  · rw [own_ex xR]
    exact hf.2.2 j hj
  · unfold nfI
    have e39 : mI (sI (sI R 113 i rd) 114 i pt) 39 9 = mI R 39 9 := rfl
    rw [e39, sumTo_one (f := fun q => if mI (sI (sI R 113 i rd) 114 i pt) 113 q = 0 then (0 : Int) else 1) (g := fun q => if mI R 113 q = 0 then (0 : Int) else 1) hi (fun j _ hj => by
      show (if mI (sI (sI R 113 i rd) 114 i pt) 113 j = 0 then (0 : Int) else 1) = _
      rw [g113, if_neg hj])]
    show _ + ((if mI (sI (sI R 113 i rd) 114 i pt) 113 i = 0 then (0 : Int) else 1) - (if mI R 113 i = 0 then (0 : Int) else 1)) = _
    rw [g113, if_pos rfl, if_neg (show ¬ rd = 0 by grind), if_pos hz]
    omega
theorem nf_b (h : Rel k ad C R) : 0 ≤ nfI R ∧ nfI R ≤ ix (mI R 39 9) := ⟨sumTo_nn (fun j _ => by show 0 ≤ (if mI R 113 j = 0 then (0 : Int) else 1); split <;> omega), sumTo_ub (fun j _ => by show (if mI R 113 j = 0 then (0 : Int) else 1) ≤ 1; split <;> omega)⟩
theorem lp_fail {rd : Int32} (hr : 1 ≤ rd ∧ rd ≤ 100) (k61 : Nat → Int32 → Int32 → Int32 → Int32 → Int32 → Int32 → Mm → Option (Int32 × Mm)) (x1 x2 x4' : Int32) (N : Int32) : ∀ (d n m i : Nat) (C R : Mm) (all more : Int32) (bf : Int), Rel k ad C R → mI R 39 9 = N → FS C R → all.toInt = nfI R → mI C 33 3 = all → bf ≤ nfI R → more = (if nfI R = bf then 0 else 1) → i + d = ix N → d < n → d < m → ∃ C' R' all' more', Ruin_failAll_L3 n 33 16 N rd (Int32.ofNat i) C = some ((), C') ∧ Mod_fails_L72 k61 m 39 x1 x2 all x4' more rd (Int32.ofNat i) R = k61 39 x1 x2 all' (if more' = 0 then x4' else rd) more' (rd + 1) R' ∧ ExC C C' ∧ ExR R R' ∧ FS C' R' ∧ all'.toInt = nfI R' ∧ mI C' 33 3 = all' ∧ bf ≤ nfI R' ∧ more' = (if nfI R' = bf then 0 else 1) ∧ mI C' 33 4 = mI C 33 4 := by
  intro d
  induction d with
  | zero =>
    intro n m i C R all more bf h hN hf ha hc hb hm hi hn hm2
    subst hN
    obtain ⟨n, rfl⟩ : ∃ x, n = x + 1 := ⟨n - 1, by omega⟩
    obtain ⟨m, rfl⟩ : ∃ x, m = x + 1 := ⟨m - 1, by omega⟩
    have h16 := p16 h
    have hP := h.isc.persons
    have e : mI R 39 9 ≤ Int32.ofNat i := by grind [ix_t, of_t]
    refine ⟨C, R, all, more, ?_, ?_, ExC.rf, ExR.rf, hf, ha, hc, hb, hm, rfl⟩
    · show Ruin_failAll_B3 _ _ _ _ _ _ _ = _
      unfold Ruin_failAll_B3
      rw [if_pos e]
    · show Mod_fails_B72 _ _ _ _ _ _ _ _ _ _ _ = _
      unfold Mod_fails_B72 Mod_fails_J170
      rw [h.o39, ck_t, if_pos e]
      split <;> rfl
  | succ d ih =>
    intro n m i C R all more bf h hN hf ha hc hb hm hi hn hm2
    subst hN
    obtain ⟨n, rfl⟩ : ∃ x, n = x + 1 := ⟨n - 1, by omega⟩
    obtain ⟨m, rfl⟩ : ∃ x, m = x + 1 := ⟨m - 1, by omega⟩
    have h16 := p16 h
    have hP := h.isc.persons
    have e : ¬ mI R 39 9 ≤ Int32.ofNat i := by grind [ix_t, of_t]
    have e0 : (0 : Int32) ≤ Int32.ofNat i := of_nn i (by omega)
    have e1 : ix (Int32.ofNat i) = i := ix_of i (by omega)
    have lt : i < ix (mI R 39 9) := by omega
    have sp := h.shp i lt
    have ab := as_b h hf (show i < 16 by omega) rd
    have db := db_b h (show i < 16 by omega)
    have nb := nf_b h
    obtain ⟨f1, f2⟩ := hf.1 i (by omega)
    have fb := (hf.2.1 i (by omega)).1
    have eas : mL C 36 i + sumL (owT R i rd) (ix (mI R 39 9)) = asR R i rd := by rw [hf.2.2 i lt]; rfl
    have go := ih n m (i + 1) C R all more bf h rfl hf ha hc hb hm (by omega) (by omega) (by omega)
    have l0 : (0 : Int64).toInt = 0 := rfl
    show ∃ C' R' all' more', Ruin_failAll_B3 (Ruin_failAll_L3 n) 33 16 (mI R 39 9) rd (Int32.ofNat i) C = some ((), C') ∧ Mod_fails_B72 k61 (Mod_fails_L72 k61 m) 39 x1 x2 all x4' more rd (Int32.ofNat i) R = _ ∧ _
    unfold Ruin_failAll_B3 Mod_fails_B72 Ruin_failAll_J98 Mod_fails_J155
    simp only [if_neg e, h.o33, h.o39, ck_t, h.sc.r33_0, h.sc.r33_1, h.sc.r33_2, nn_s, kA_t h.sc.k36 e0 (show ix (Int32.ofNat i) < 16 by omega), kA_t h.sc.k34 e0 (show ix (Int32.ofNat i) < 16 by omega), ev_owed h hf.1 (show i < 16 by omega) rd, bd_s, e1, eas, kA_t h.sc.k16 e0 (show ix (Int32.ofNat i) < 16 by omega), sp.1, ev_cdebts h lt, f1, h.sr.r39_104, h.sr.r39_105, kA_t h.sr.k113 e0 (show ix (Int32.ofNat i) < 16 by omega), ev_assets h lt rd, ev_debts h lt, mR_sI, kA_sI, kA_t h.sr.k114 e0 (show ix (Int32.ofNat i) < 16 by omega), kA_t h.sc.k35 e0 (show ix (Int32.ofNat i) < 16 by omega), of_s1 i (by omega)]
    by_cases c1 : mI R 113 i = 0
    · rw [if_pos c1, if_pos (show mI R 113 i ≤ 0 by rw [c1]; decide)]
      by_cases c2 : dbR R i ≤ asR R i rd
      · rw [if_pos c2, if_neg (show ¬ asR R i rd < dbR R i by rw [L_lt]; rw [L_le] at c2; omega)]
        exact go
      · have c2' : (asR R i rd).toInt < (dbR R i).toInt := by rw [L_le] at c2; omega
        have nz : ¬ dbR R i = 0 := fun q => by rw [q, l0] at c2'; omega
        have n0 : ¬ dbR R i ≤ 0 := by rw [L_le, l0]; omega
        have al3 : mI (sI (sI C 34 i rd) 35 i (Int64.toInt32 (asR R i rd * 100 / dbR R i))) 33 3 = all := hc
        rw [if_neg c2, if_neg n0, if_pos (show asR R i rd < dbR R i by rw [L_lt]; exact c2'), show (!decide (dbR R i = 0)) = true by simp [nz], ck_t, ck_t, al3]
        have pb := parts_b ab.1 ab.2 c2'
        obtain ⟨w1, w2, w3, w4⟩ := fail1 h hf (al := all + 1) lt c1 hr pb
        have hh := h.tmp w1 w2
        have a1 : (all + 1).toInt = all.toInt + 1 := by
          have : (1 : Int32).toInt = 1 := rfl
          rw [I_add _ _ (by omega) (by omega) (by omega) (by omega), this]
        obtain ⟨C', R', all', more', y1, y2, y3, y4, y5, y6, y7, y8, y9, y10⟩ := ih n m (i + 1) _ _ (all + 1) 1 bf hh rfl w3 (by rw [w4, a1, ha]) (by rw [mI_sI, if_pos ⟨rfl, rfl⟩]) (by rw [w4]; omega) (by rw [w4, if_neg (by omega)]) (by omega) (by omega) (by omega)
        exact ⟨C', R', all', more', y1, y2, w1.tr y3, w2.tr y4, y5, y6, y7, y8, y9, y10.trans (by rw [mI_sI, if_neg (fun q => absurd q.2 (by decide))]; rfl)⟩
    · rw [if_neg c1, if_neg (show ¬ mI R 113 i ≤ 0 by grind)]
      exact go
/-- all have failed: the reference's last round does nothing -/
theorem lp_none (h : Rel k ad C R) (hf : FS C R) {rd : Int32} (k61 : Nat → Int32 → Int32 → Int32 → Int32 → Int32 → Int32 → Mm → Option (Int32 × Mm)) (x1 x2 x3 x4' : Int32) (hall : ∀ i, i < ix (mI R 39 9) → mI R 113 i ≠ 0) : ∀ (d m i : Nat), i + d = ix (mI R 39 9) → d < m → Mod_fails_L72 k61 m 39 x1 x2 x3 x4' 0 rd (Int32.ofNat i) R = k61 39 x1 x2 x3 x4' 0 (rd + 1) R := by
  have h16 := p16 h
  have hP := h.isc.persons
  intro d
  induction d with
  | zero =>
    intro m i hi hm
    obtain ⟨m, rfl⟩ : ∃ x, m = x + 1 := ⟨m - 1, by omega⟩
    have e : mI R 39 9 ≤ Int32.ofNat i := by grind [ix_t, of_t]
    show Mod_fails_B72 _ _ _ _ _ _ _ _ _ _ _ = _
    unfold Mod_fails_B72 Mod_fails_J170
    rw [h.o39, ck_t, if_pos e, if_pos rfl]
  | succ d ih =>
    intro m i hi hm
    obtain ⟨m, rfl⟩ : ∃ x, m = x + 1 := ⟨m - 1, by omega⟩
    have e : ¬ mI R 39 9 ≤ Int32.ofNat i := by grind [ix_t, of_t]
    have e0 : (0 : Int32) ≤ Int32.ofNat i := of_nn i (by omega)
    have e1 : ix (Int32.ofNat i) = i := ix_of i (by omega)
    have fb := (hf.2.1 i (by omega)).1
    have c1 := hall i (by omega)
    show Mod_fails_B72 _ _ _ _ _ _ _ _ _ _ _ = _
    unfold Mod_fails_B72 Mod_fails_J155
    simp only [h.o39, ck_t, if_neg e, h.sr.r39_104, nn_s, kA_t h.sr.k113 e0 (show ix (Int32.ofNat i) < 16 by omega), e1, if_neg (show ¬ mI R 113 i ≤ 0 by grind), of_s1 i (by omega)]
    exact ih m (i + 1) (by omega) (by omega)
end W3
