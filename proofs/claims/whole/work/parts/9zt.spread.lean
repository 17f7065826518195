/-! the news spread: of the class only the rows 14 and 15 change -/
section ZA3
variable {k : Nat} {ad : Nat → Nat → Nat} {C R C' C2 : Mm}
def Ex4 (C C' : Mm) : Prop := (∀ a, ¬ (a = 14 ∨ a = 15) → mI C' a = mI C a) ∧ mL C' = mL C ∧ mR C' = mR C ∧ mK C' = mK C ∧ mZ C' = mZ C ∧ mS C' = mS C
theorem Ex4.rf : Ex4 C C := ⟨fun _ _ => rfl, rfl, rfl, rfl, rfl, rfl⟩
theorem Ex4.tr (h : Ex4 C C') (h2 : Ex4 C' C2) : Ex4 C C2 := ⟨fun a q => (h2.1 a q).trans (h.1 a q), h2.2.1.trans h.2.1, h2.2.2.1.trans h.2.2.1, h2.2.2.2.1.trans h.2.2.2.1, h2.2.2.2.2.1.trans h.2.2.2.2.1, h2.2.2.2.2.2.trans h.2.2.2.2.2⟩
theorem Ex4.s (h : Ex4 C C') {a j : Nat} {v : Int32} (ha : a = 14 ∨ a = 15) : Ex4 C (sI C' a j v) := ⟨fun b hb => (row_n (fun e => hb (by rw [e]; exact ha))).trans (h.1 b hb), h.2⟩
theorem Ex4.ex (h : Ex4 C C') : ExC C C' := ⟨fun a q => h.1 a (fun w => q (by unfold tC; omega)), fun a _ _ => by rw [h.2.1], h.2.2⟩
theorem lp_pass4 {B s i : Nat} (hB : B ≤ 100000) (hi : i < 10) (hs : s + 2000 ≤ B) (k37 : Nat → Int32 → Mm → Option (Unit × Mm)) (x3 : Int32) : ∀ (d n m j : Nat) (C R : Mm), Rel k ad C R → LRl B C R → mI C 14 i = Int32.ofNat s → mI R 44 i = Int32.ofNat s → mI R 45 i = 1 → i < ix (mI R 39 2) → j + d = ix (mI R 39 2) → d < n → d < m → ∃ C' R', Land_passOn_L9 n 9 (Int32.ofNat i) (Int32.ofNat j) C = some ((), C') ∧ Mod_spreads_L129 k37 m 39 x3 (Int32.ofNat i) (Int32.ofNat j) R = k37 39 (x3 + 1) R' ∧ Ex4 C C' ∧ ExR R R' ∧ LRl B C' R' := by
  intro d
  induction d with
  | zero =>
    intro n m j C R h hL s1 s2 s3 hiT hj hn hm
    have tw := tw10 h
    have ht := h.isc.towns
    obtain ⟨n, rfl⟩ : ∃ x, n = x + 1 := ⟨n - 1, by omega⟩
    obtain ⟨m, rfl⟩ : ∃ x, m = x + 1 := ⟨m - 1, by omega⟩
    have e : mI R 39 2 ≤ Int32.ofNat j := by grind [ix_t, of_t]
    refine ⟨C, R, ?_, ?_, Ex4.rf, ExR.rf, hL⟩
    · show Land_passOn_B9 _ _ _ _ _ = _
      unfold Land_passOn_B9
      rw [h.o9, ck_t, h.l9_6, if_pos e]
    · show Mod_spreads_B129 _ _ _ _ _ _ _ = _
      unfold Mod_spreads_B129
      rw [h.o39, ck_t, if_pos e]
  | succ d ih =>
    intro n m j C R h hL s1 s2 s3 hiT hj hn hm
    have tw := tw10 h
    have ht := h.isc.towns
    obtain ⟨n, rfl⟩ : ∃ x, n = x + 1 := ⟨n - 1, by omega⟩
    obtain ⟨m, rfl⟩ : ∃ x, m = x + 1 := ⟨m - 1, by omega⟩
    have e : ¬ mI R 39 2 ≤ Int32.ofNat j := by grind [ix_t, of_t]
    have e0 : (0 : Int32) ≤ Int32.ofNat j := of_nn j (by omega)
    have e1 : ix (Int32.ofNat j) = j := ix_of j (by omega)
    have i0 : (0 : Int32) ≤ Int32.ofNat i := of_nn i (by omega)
    have i1 : ix (Int32.ofNat i) = i := ix_of i (by omega)
    have p1 : Int32.ofNat i * 10 + Int32.ofNat j = Int32.ofNat (10 * i + j) := by
      rw [show (10 : Int32) = Int32.ofNat 10 from rfl, of_mul, of_add, Nat.mul_comm]
    have p2 : 10 * Int32.ofNat i + Int32.ofNat j = Int32.ofNat (10 * i + j) := by
      rw [show (10 : Int32) = Int32.ofNat 10 from rfl, of_mul, of_add]
    have n0 : (0 : Int32) ≤ Int32.ofNat (10 * i + j) := of_nn _ (by omega)
    have n1 : ix (Int32.ofNat (10 * i + j)) = 10 * i + j := ix_of _ (by omega)
    have qw := h.ila.2.1 (10 * i + j) (by omega)
    obtain ⟨q1, q2, q3⟩ := hL j (by omega)
    obtain ⟨v, v1, v2, v3⟩ := ev_arr h hi (show j < 10 by omega) (show s ≤ 100000 by omega) s1
    have st := LRv_set q1 v (by omega) (by omega)
    have x1 := ih n m (j + 1) C R h hL s1 s2 s3 hiT (by omega) (by omega) (by omega)
    show ∃ C' R', Land_passOn_B9 (Land_passOn_L9 n) 9 (Int32.ofNat i) (Int32.ofNat j) C = some ((), C') ∧ Mod_spreads_B129 k37 (Mod_spreads_L129 k37 m) 39 x3 (Int32.ofNat i) (Int32.ofNat j) R = k37 39 (x3 + 1) R' ∧ Ex4 C C' ∧ ExR R R' ∧ LRl B C' R'
    unfold Land_passOn_B9 Mod_spreads_B129 Land_passOn_J61 Mod_spreads_J206 Mod_spreads_J215
    simp only [h.o9, h.o39, ck_t, h.l9_6, if_neg e, p1, p2, h.sc.r9_3, h.sc.r9_4, h.sc.r9_5, h.sr.r39_6, h.sr.r39_7, h.sr.r39_8, nn_s, kA_t h.sc.k13 n0 (show ix (Int32.ofNat (10 * i + j)) < 100 by omega), kA_t h.sr.k43 n0 (show ix (Int32.ofNat (10 * i + j)) < 100 by omega), kA_t h.sc.k14 e0 (show ix (Int32.ofNat j) < 10 by omega), kA_t h.sc.k15 e0 (show ix (Int32.ofNat j) < 10 by omega), kA_t h.sr.k44 e0 (show ix (Int32.ofNat j) < 10 by omega), kA_t h.sr.k45 e0 (show ix (Int32.ofNat j) < 10 by omega), kA_t h.sr.k44 i0 (show ix (Int32.ofNat i) < 10 by omega), e1, i1, n1, of_s1 j (by omega), q2, s2, v2, v3, bd_s, ev_min, h.la13]
    by_cases c0 : mI R 43 (10 * i + j) = 0
    · rw [if_pos (by rw [c0]; decide), if_pos c0]
      exact x1
    · rw [if_neg (by grind), if_neg c0]
      by_cases c1 : mI R 45 j = 0
      · simp only [if_pos c1]
        have ji : j ≠ i := by
          intro q
          rw [q, s3] at c1
          exact absurd c1 (by decide)
        -- the class writes; the reference may write
        have fin : ∀ R1, ExR R R1 → mI R1 39 = mI R 39 → mI R1 44 i = Int32.ofNat s → mI R1 45 = mI R 45 → (∀ t, t ≠ j → mI R1 44 t = mI R 44 t) → LRv B (if Int32.ofNat v < mI C 14 j then Int32.ofNat v else mI C 14 j) (mI R1 44 j) → ∃ C' R', Land_passOn_L9 n 9 (Int32.ofNat i) (Int32.ofNat (j + 1)) (sI C 14 j (if Int32.ofNat v < mI C 14 j then Int32.ofNat v else mI C 14 j)) = some ((), C') ∧ Mod_spreads_L129 k37 m 39 x3 (Int32.ofNat i) (Int32.ofNat (j + 1)) R1 = k37 39 (x3 + 1) R' ∧ Ex4 C C' ∧ ExR R R' ∧ LRl B C' R' := by
          intro R1 y1 y2 y3 y4 y5 y6
          have hx : Ex4 C (sI C 14 j (if Int32.ofNat v < mI C 14 j then Int32.ofNat v else mI C 14 j)) := Ex4.rf.s (by decide)
          have h2 := h.tmp hx.ex y1
          have z := ih n m (j + 1) (sI C 14 j (if Int32.ofNat v < mI C 14 j then Int32.ofNat v else mI C 14 j)) R1 h2 (fun t ht => by
            obtain ⟨r1, r2, r3⟩ := hL t ht
            rw [y4]
            refine ⟨?_, ?_, r3⟩
            · rw [mI_sI]
              by_cases c : t = j
              · rw [if_pos ⟨rfl, c⟩, c]; exact y6
              · rw [if_neg (fun q => c q.2), y5 t c]; exact r1
            · rw [mI_sI, if_neg (fun q => absurd q.1 (by decide))]; exact r2) (by rw [mI_sI, if_neg (fun q => ji q.2.symm)]; exact s1) y3 (by rw [y4]; exact s3) (by rw [y2]; exact hiT) (by rw [y2]; omega) (by omega) (by omega)
          obtain ⟨C', R', z1, z2, z3, z4, z5⟩ := z
          exact ⟨C', R', z1, z2, hx.tr z3, y1.tr z4, z5⟩
        by_cases c2 : mI R 44 j < 0
        · rw [if_pos c2]
          refine fin (sI R 44 j (Int32.ofNat v)) (ExR.rf.s (by unfold tR; omega)) rfl (by rw [mI_sI, if_neg (fun q => ji q.2.symm)]; exact s2) rfl (fun t ht => by rw [mI_sI, if_neg (fun q => ht q.2)]) ?_
          rw [st.1 (Or.inl c2), mI_sI, if_pos ⟨rfl, rfl⟩]
          exact Or.inr ⟨v, by omega, rfl, rfl⟩
        · rw [if_neg c2]
          by_cases c3 : mI R 44 j ≤ Int32.ofNat v
          · rw [if_pos c3]
            refine fin R ExR.rf rfl s2 rfl (fun t _ => rfl) ?_
            rw [st.2 c2 c3]
            exact q1
          · rw [if_neg c3]
            refine fin (sI R 44 j (Int32.ofNat v)) (ExR.rf.s (by unfold tR; omega)) rfl (by rw [mI_sI, if_neg (fun q => ji q.2.symm)]; exact s2) rfl (fun t ht => by rw [mI_sI, if_neg (fun q => ht q.2)]) ?_
            rw [st.1 (Or.inr c3), mI_sI, if_pos ⟨rfl, rfl⟩]
            exact Or.inr ⟨v, by omega, rfl, rfl⟩
      · simp only [if_neg c1]
        exact x1
theorem lp_turn4 : ∀ (d n m j : Nat) (C R : Mm), Rel k ad C R → LRl (57600 + 2000 * j) C R → j + d = ix (mI R 39 2) → d < n → d < m → ∃ C' R', Land_spread_L47 n 9 (Int32.ofNat j) C = some ((), C') ∧ Mod_spreads_L37 m 39 (Int32.ofNat j) R = some ((), R') ∧ Ex4 C C' ∧ ExR R R' ∧ LRl 77600 C' R' := by
  intro d
  induction d with
  | zero =>
    intro n m j C R h hL hj hn hm
    have tw := tw10 h
    have ht := h.isc.towns
    obtain ⟨n, rfl⟩ : ∃ x, n = x + 1 := ⟨n - 1, by omega⟩
    obtain ⟨m, rfl⟩ : ∃ x, m = x + 1 := ⟨m - 1, by omega⟩
    have e : mI R 39 2 ≤ Int32.ofNat j := by grind [ix_t, of_t]
    refine ⟨C, R, ?_, ?_, Ex4.rf, ExR.rf, hL.mo (by omega)⟩
    · show Land_spread_B47 _ _ _ _ = _
      unfold Land_spread_B47
      rw [h.o9, ck_t, h.l9_6, if_pos e]
    · show Mod_spreads_B37 _ _ _ _ = _
      unfold Mod_spreads_B37
      rw [h.o39, ck_t, if_pos e]
  | succ d ih =>
    intro n m j C R h hL hj hn hm
    have tw := tw10 h
    have ht := h.isc.towns
    obtain ⟨n, rfl⟩ : ∃ x, n = x + 1 := ⟨n - 1, by omega⟩
    obtain ⟨m, rfl⟩ : ∃ x, m = x + 1 := ⟨m - 1, by omega⟩
    have e : ¬ mI R 39 2 ≤ Int32.ofNat j := by grind [ix_t, of_t]
    obtain ⟨r, r1, r2, r3⟩ := lp_earl h (by omega) hL (Mod_spreads_L37 m) (Int32.ofNat j) (ix (mI R 39 2)) fu fu 0 (-1) (by omega) (fu_g (by omega)) (fu_g (by omega)) (Or.inl rfl)
    have r1' : Land_earliestToPassOn C 9 = some (r, C) := r1
    have r2' : Mod_spreads_L51 (Mod_spreads_L37 m) fu 39 (Int32.ofNat j) (-1) 0 R = tlM (Mod_spreads_L37 m) (Int32.ofNat j) r R := r2
    show ∃ C' R', Land_spread_B47 (Land_spread_L47 n) 9 (Int32.ofNat j) C = some ((), C') ∧ Mod_spreads_B37 (Mod_spreads_L37 m) 39 (Int32.ofNat j) R = some ((), R') ∧ Ex4 C C' ∧ ExR R R' ∧ LRl 77600 C' R'
    unfold Land_spread_B47 Mod_spreads_B37 Land_passOn
    rw [h.o9, ck_t, h.l9_6, if_neg e, r1', bd_s, h.o39, ck_t, if_neg e, r2']
    unfold tlM
    rcases r3 with r3 | ⟨i, s, i1, i2, i3, i4, i5⟩
    · subst r3
      rw [if_pos rfl, if_neg (by decide)]
      exact ⟨C, R, rfl, rfl, Ex4.rf, ExR.rf, hL.mo (by omega)⟩
    · have b0 : (0 : Int32) ≤ Int32.ofNat i := of_nn i (by omega)
      have b1 : ix (Int32.ofNat i) = i := ix_of i (by omega)
      subst i2
      have hc1 : Ex4 C (sI C 15 i 1) := Ex4.rf.s (by decide)
      have hr1 : ExR R (sI R 45 i 1) := ExR.rf.s (by unfold tR; omega)
      have h2 := h.tmp hc1.ex hr1
      have hL2 : LRl (57600 + 2000 * (j + 1)) (sI C 15 i 1) (sI R 45 i 1) := by
        intro t ht
        obtain ⟨a1, a2, a3⟩ := hL.mo (show 57600 + 2000 * j ≤ 57600 + 2000 * (j + 1) by omega) t ht
        refine ⟨a1, ?_, ?_⟩
        · rw [mI_sI, mI_sI]
          by_cases c : t = i
          · rw [if_pos ⟨rfl, c⟩, if_pos ⟨rfl, c⟩]
          · rw [if_neg (fun q => c q.2), if_neg (fun q => c q.2)]; exact a2
        · rw [mI_sI]
          split
          · exact Or.inr rfl
          · exact a3
      have z := lp_pass4 (show 57600 + 2000 * (j + 1) ≤ 100000 by omega) (show i < 10 by omega) (show s + 2000 ≤ 57600 + 2000 * (j + 1) by omega) (Mod_spreads_L37 m) (Int32.ofNat j) (ix (mI R 39 2)) fu fu 0 (sI C 15 i 1) (sI R 45 i 1) h2 hL2 i4 i5 (by rw [mI_sI, if_pos ⟨rfl, rfl⟩]) i1 (by show 0 + ix (mI R 39 2) = ix (mI R 39 2); omega) (fu_g (by omega)) (fu_g (by omega))
      obtain ⟨C1, R1, z1, z2, z3, z4, z5⟩ := z
      have z1' : Land_passOn_L9 fu 9 (Int32.ofNat i) 0 (sI C 15 i 1) = some ((), C1) := z1
      have z2' : Mod_spreads_L129 (Mod_spreads_L37 m) fu 39 (Int32.ofNat j) (Int32.ofNat i) 0 (sI R 45 i 1) = Mod_spreads_L37 m 39 (Int32.ofNat j + 1) R1 := z2
      simp only [if_neg (show ¬ Int32.ofNat i = -1 by grind), h.o9, ck_t, h.sc.r9_5, nn_s, kA_t h.sc.k15 b0 (show ix (Int32.ofNat i) < 10 by omega), b1, z1', bd_s, if_pos b0, z2', of_s1 j (by omega)]
      have h3 := h2.tmp z3.ex z4
      have e39 : mI R1 39 = mI R 39 := (hr1.tr z4).1 39 (by unfold tR; omega)
      obtain ⟨C2, R2, y1, y2, y3, y4, y5⟩ := ih n m (j + 1) C1 R1 h3 z5 (by rw [e39]; omega) (by omega) (by omega)
      exact ⟨C2, R2, y1, y2, (hc1.tr z3).tr y3, (hr1.tr z4).tr y4, y5⟩
theorem lp_init4 {f : Int32} {mn : Nat} (hmn : mn ≤ 57600) : ∀ (d n m j : Nat) (C R : Mm), Rel k ad C R → (0 ≤ f ∧ f < mI R 39 2) → (∀ t, t < j → mI C 14 t = 2147483647 ∧ mI R 44 t = -1 ∧ mI C 15 t = 0 ∧ mI R 45 t = 0) → j + d = 10 → d < n → d < m → ∃ C' R', Land_spread_L2 n 9 f (Int32.ofNat mn) (Int32.ofNat j) C = some ((), C') ∧ Mod_spreads_L2 m 39 f (Int32.ofNat mn) (Int32.ofNat j) R = some ((), R') ∧ Ex4 C C' ∧ ExR R R' ∧ LRl 77600 C' R' := by
  intro d
  induction d with
  | zero =>
    intro n m j C R h hf hz hj hn hm
    have tw := tw10 h
    have ht := h.isc.towns
    obtain ⟨n, rfl⟩ : ∃ x, n = x + 1 := ⟨n - 1, by omega⟩
    obtain ⟨m, rfl⟩ : ∃ x, m = x + 1 := ⟨m - 1, by omega⟩
    have e : (10 : Int32) ≤ Int32.ofNat j := (of_le 10 j (by omega) (by omega)).mpr (by omega)
    have f10 : ix f < 10 := ix_b 10 hf.1 hf.2 (by grind) (by decide)
    have hc1 : Ex4 C (sI C 14 (ix f) (Int32.ofNat mn)) := Ex4.rf.s (by decide)
    have hr1 : ExR R (sI R 44 (ix f) (Int32.ofNat mn)) := ExR.rf.s (by unfold tR; omega)
    have h2 := h.tmp hc1.ex hr1
    have hL2 : LRl (57600 + 2000 * 0) (sI C 14 (ix f) (Int32.ofNat mn)) (sI R 44 (ix f) (Int32.ofNat mn)) := by
      intro t ht
      obtain ⟨a1, a2, a3, a4⟩ := hz t (by omega)
      refine ⟨?_, ?_, ?_⟩
      · rw [mI_sI, mI_sI]
        by_cases c : t = ix f
        · rw [if_pos ⟨rfl, c⟩, if_pos ⟨rfl, c⟩]
          exact Or.inr ⟨mn, by omega, rfl, rfl⟩
        · rw [if_neg (fun q => c q.2), if_neg (fun q => c q.2)]
          exact Or.inl ⟨a1, a2⟩
      · rw [mI_sI, if_neg (fun q => absurd q.1 (by decide)), mI_sI, if_neg (fun q => absurd q.1 (by decide)), a3, a4]
      · rw [mI_sI, if_neg (fun q => absurd q.1 (by decide)), a4]; exact Or.inl rfl
    obtain ⟨C2, R2, y1, y2, y3, y4, y5⟩ := lp_turn4 (ix (mI R 39 2)) fu fu 0 _ _ h2 hL2 (by show 0 + ix (mI R 39 2) = ix (mI R 39 2); omega) (fu_g (by omega)) (fu_g (by omega))
    refine ⟨C2, R2, ?_, ?_, hc1.tr y3, hr1.tr y4, y5⟩
    · show Land_spread_B2 _ _ _ _ _ _ = _
      unfold Land_spread_B2
      simp only [if_pos e, h.o9, ck_t, ev_has h, bd_s, if_pos hf, i10, if_false, h.sc.r9_4, nn_s, kA_t h.sc.k14 hf.1 f10]
      exact y1
    · show Mod_spreads_B2 _ _ _ _ _ _ = _
      unfold Mod_spreads_B2
      simp only [if_pos e, h.o39, ck_t, h.sr.r39_7, nn_s, kA_t h.sr.k44 hf.1 f10]
      exact y2
  | succ d ih =>
    intro n m j C R h hf hz hj hn hm
    obtain ⟨n, rfl⟩ : ∃ x, n = x + 1 := ⟨n - 1, by omega⟩
    obtain ⟨m, rfl⟩ : ∃ x, m = x + 1 := ⟨m - 1, by omega⟩
    have e : ¬ (10 : Int32) ≤ Int32.ofNat j := fun q => by have := (of_le 10 j (by omega) (by omega)).mp q; omega
    have e0 : (0 : Int32) ≤ Int32.ofNat j := of_nn j (by omega)
    have e1 : ix (Int32.ofNat j) = j := ix_of j (by omega)
    have hc1 : Ex4 C (sI (sI C 14 j 2147483647) 15 j 0) := (Ex4.rf.s (by decide)).s (by decide)
    have hr1 : ExR R (sI (sI R 44 j (-1)) 45 j 0) := (ExR.rf.s (by unfold tR; omega)).s (by unfold tR; omega)
    have h2 := h.tmp hc1.ex hr1
    obtain ⟨C2, R2, y1, y2, y3, y4, y5⟩ := ih n m (j + 1) _ _ h2 hf (fun t ht => by
      simp only [mI_sI]
      by_cases c : t = j
      · subst c; simp
      · have := hz t (by omega)
        simp [c]
        exact this) (by omega) (by omega) (by omega)
    refine ⟨C2, R2, ?_, ?_, hc1.tr y3, hr1.tr y4, y5⟩
    · show Land_spread_B2 _ _ _ _ _ _ = _
      unfold Land_spread_B2
      simp only [if_neg e, h.o9, ck_t, mR_sI, kA_sI, h.sc.r9_4, h.sc.r9_5, nn_s, kA_t h.sc.k14 e0 (show ix (Int32.ofNat j) < 10 by omega), kA_t h.sc.k15 e0 (show ix (Int32.ofNat j) < 10 by omega), e1, of_s1 j (by omega)]
      exact y1
    · show Mod_spreads_B2 _ _ _ _ _ _ = _
      unfold Mod_spreads_B2
      simp only [if_neg e, h.o39, ck_t, mR_sI, kA_sI, h.sr.r39_7, h.sr.r39_8, nn_s, kA_t h.sr.k44 e0 (show ix (Int32.ofNat j) < 10 by omega), kA_t h.sr.k45 e0 (show ix (Int32.ofNat j) < 10 by omega), e1, of_s1 j (by omega)]
      exact y2
theorem spread_sim4 (h : Rel k ad C R) {f mn : Int32} (hf : 0 ≤ f ∧ f < mI R 39 2) (hm : 0 ≤ mn ∧ mn ≤ 57600) : ∃ C' R', Land_spread C 9 f mn = some ((), C') ∧ Mod_spreads R 39 f mn = some ((), R') ∧ Ex4 C C' ∧ ExR R R' ∧ LRl 77600 C' R' := by
  have e : mn = Int32.ofNat (ix mn) := (of_ix _ hm.1).symm
  have b : ix mn ≤ 57600 := by grind [ix_t]
  obtain ⟨C', R', y⟩ := lp_init4 (f := f) b 10 fu fu 0 C R h hf (fun t ht => absurd ht (by omega)) (by omega) (fu_g (by omega)) (fu_g (by omega))
  refine ⟨C', R', ?_⟩
  rw [e]
  exact y
end ZA3
