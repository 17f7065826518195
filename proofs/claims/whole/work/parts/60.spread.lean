section N3
variable {k : Nat} {ad : Nat → Nat → Nat} {C R : Mm}
def LRv (B : Nat) (x y : Int32) : Prop := (x = 2147483647 ∧ y = -1) ∨ ∃ v, v ≤ B ∧ x = Int32.ofNat v ∧ y = Int32.ofNat v
def LRl (B : Nat) (C R : Mm) : Prop := ∀ t, t < 10 → LRv B (mI C 14 t) (mI R 44 t) ∧ mI C 15 t = mI R 45 t ∧ (mI R 45 t = 0 ∨ mI R 45 t = 1)
theorem LRl.mo {B B' : Nat} (h : LRl B C R) (hb : B ≤ B') : LRl B' C R := fun t ht => by
  obtain ⟨a, b⟩ := h t ht
  refine ⟨?_, b⟩
  rcases a with a | ⟨v, p, q⟩
  · exact Or.inl a
  · exact Or.inr ⟨v, by omega, q⟩
theorem tw10 (h : Rel k ad C R) : ix (mI R 39 2) ≤ 10 ∧ 1 ≤ ix (mI R 39 2) := by have := h.isc.towns; grind [ix_t]
theorem ev_arr (h : Rel k ad C R) {a b s : Nat} (ha : a < 10) (hb : b < 10) (hs : s ≤ 100000) (hr : mI C 14 a = Int32.ofNat s) : ∃ v, v ≤ s + 2000 ∧ Land_arrival C 9 (Int32.ofNat a) (Int32.ofNat b) = some (Int32.ofNat v, C) ∧ Mod_goes R 39 (Int32.ofNat a) (Int32.ofNat b) (Int32.ofNat s) = some (Int32.ofNat v, R) := by
  have a0 : (0 : Int32) ≤ Int32.ofNat a := of_nn a (by omega)
  have a1 : ix (Int32.ofNat a) = a := ix_of a (by omega)
  have e1 : Int32.ofNat a * 10 + Int32.ofNat b = Int32.ofNat (10 * a + b) := by
    rw [show (10 : Int32) = Int32.ofNat 10 from rfl, of_mul, of_add, Nat.mul_comm]
  have e2 : 10 * Int32.ofNat a + Int32.ofNat b = Int32.ofNat (10 * a + b) := by
    rw [show (10 : Int32) = Int32.ofNat 10 from rfl, of_mul, of_add]
  have n0 : (0 : Int32) ≤ Int32.ofNat (10 * a + b) := of_nn _ (by omega)
  have n1 : ix (Int32.ofNat (10 * a + b)) = 10 * a + b := ix_of _ (by omega)
  have q := h.ila.2.1 (10 * a + b) (by omega)
  have w1 : mI R 43 (10 * a + b) = Int32.ofNat (ix (mI R 43 (10 * a + b))) := (of_ix _ q.2.2.1).symm
  have f1 : mI R 42 (10 * a + b) = Int32.ofNat (ix (mI R 42 (10 * a + b))) := (of_ix _ q.1).symm
  have w2 : ix (mI R 43 (10 * a + b)) ≤ 2000 := by grind [ix_t]
  have f2 : ix (mI R 42 (10 * a + b)) ≤ 200 := by grind [ix_t]
  generalize ix (mI R 43 (10 * a + b)) = w at *
  generalize ix (mI R 42 (10 * a + b)) = f at *
  have l1 := lp_flags h ha hb hs 2880 fu s 0 (by omega) (by omega) (by omega) (by omega) (by unfold fu; omega)
  have l2 := lp_goes h ha hb hs (show s + w ≤ 200000 by omega) f2 2880 fu s (by omega) (by omega) (by unfold fu; omega)
  unfold Land_arrival Mod_goes Land_flagsSeen
  simp only [h.o9, h.o39, ck_t, e1, e2, h.sc.r9_2, h.sc.r9_3, h.sc.r9_4, h.sr.r39_5, h.sr.r39_6, nn_s, kA_t h.sc.k14 a0 (show ix (Int32.ofNat a) < 10 by omega), kA_t h.sc.k13 n0 (show ix (Int32.ofNat (10 * a + b)) < 100 by omega), kA_t h.sc.k12 n0 (show ix (Int32.ofNat (10 * a + b)) < 100 by omega), kA_t h.sr.k43 n0 (show ix (Int32.ofNat (10 * a + b)) < 100 by omega), kA_t h.sr.k42 n0 (show ix (Int32.ofNat (10 * a + b)) < 100 by omega), a1, n1, hr, h.la13, h.la12, w1, f1, of_add]
  have z : (Int32.ofNat f = 0) ↔ f = 0 := of_eq f 0 (by omega) (by omega)
  by_cases c : f = 0
  · rw [if_pos (z.mpr c), if_pos (z.mpr c)]
    exact ⟨s + w, by omega, rfl, rfl⟩
  · rw [if_neg (fun q => c (z.mp q)), if_neg (fun q => c (z.mp q)), l2]
    have l1' : Land_flagsSeen_L6 fu 9 (Int32.ofNat a) (Int32.ofNat b) (Int32.ofNat s) (Int32.ofNat s) 0 C = some (match fcR R a b s 2880 with | none => 2147483647 | some v => Int32.ofNat v, C) := l1
    rw [l1', bd_s]
    cases e : fcR R a b s 2880 with
    | none =>
      simp only [if_true]
      exact ⟨s + w, by omega, rfl, rfl⟩
    | some v =>
      have fb := fc_b R a b _ _ _ e
      have nv : ¬ Int32.ofNat v = 2147483647 := by
        intro q
        have q2 : Int32.ofNat v = Int32.ofNat 2147483647 := q
        rw [of_eq _ _ (by omega) (by omega)] at q2
        omega
      simp only [if_neg nv, ev_min, bd_s, h.o9, ck_t, h.sc.r9_2, nn_s, kA_t h.sc.k12 n0 (show ix (Int32.ofNat (10 * a + b)) < 100 by omega), h.la12, f1, of_add]
      have lt : (Int32.ofNat (v + f) < Int32.ofNat (s + w)) ↔ v + f < s + w := of_lt _ _ (by omega) (by omega)
      by_cases c2 : v + f < s + w
      · rw [if_pos (lt.mpr c2), if_pos c2]
        exact ⟨v + f, by omega, rfl, rfl⟩
      · rw [if_neg (fun q => c2 (lt.mp q)), if_neg c2]
        exact ⟨s + w, by omega, rfl, rfl⟩
/-- what the reference does with the earliest -/
def tlM (k37 : Nat → Int32 → Mm → Option (Unit × Mm)) (x3 r : Int32) (R : Mm) : Option (Unit × Mm) := if 0 ≤ r then Mod_spreads_L129 k37 fu 39 x3 r 0 (sI R 45 (ix r) 1) else some ((), R)
def okE (B : Nat) (C R : Mm) (r : Int32) : Prop := r = -1 ∨ ∃ i s, i < ix (mI R 39 2) ∧ r = Int32.ofNat i ∧ s ≤ B ∧ mI C 14 i = Int32.ofNat s ∧ mI R 44 i = Int32.ofNat s
theorem lp_earl (h : Rel k ad C R) {B : Nat} (hB : B ≤ 200000) (hL : LRl B C R) (k37 : Nat → Int32 → Mm → Option (Unit × Mm)) (x3 : Int32) : ∀ (d n m j : Nat) (b : Int32), j + d = ix (mI R 39 2) → d < n → d < m → okE B C R b → ∃ r, Land_earliestToPassOn_L4 n 9 b (Int32.ofNat j) C = some (r, C) ∧ Mod_spreads_L51 k37 m 39 x3 b (Int32.ofNat j) R = tlM k37 x3 r R ∧ okE B C R r := by
  have tw := tw10 h
  have ht := h.isc.towns
  intro d
  induction d with
  | zero =>
    intro n m j b hj hn hm hb
    obtain ⟨n, rfl⟩ : ∃ x, n = x + 1 := ⟨n - 1, by omega⟩
    obtain ⟨m, rfl⟩ : ∃ x, m = x + 1 := ⟨m - 1, by omega⟩
    have e : mI R 39 2 ≤ Int32.ofNat j := by grind [ix_t, of_t]
    refine ⟨b, ?_, ?_, hb⟩
    · show Land_earliestToPassOn_B4 _ _ _ _ _ = _
      unfold Land_earliestToPassOn_B4
      rw [h.o9, ck_t, h.l9_6, if_pos e]
    · show Mod_spreads_B51 _ _ _ _ _ _ _ = _
      unfold Mod_spreads_B51 tlM
      rw [h.o39, ck_t, if_pos e]
      rcases hb with hb | ⟨i, s, i1, i2, -⟩
      · rw [hb, if_neg (by decide), if_neg (by decide)]
      · have i0 : (0 : Int32) ≤ b := by rw [i2]; exact of_nn i (by omega)
        have i3 : ix b = i := by rw [i2]; exact ix_of i (by omega)
        simp only [if_pos i0, h.sr.r39_8, nn_s, kA_t h.sr.k45 i0 (show ix b < 10 by omega), ck_t]
  | succ d ih =>
    intro n m j b hj hn hm hb
    obtain ⟨n, rfl⟩ : ∃ x, n = x + 1 := ⟨n - 1, by omega⟩
    obtain ⟨m, rfl⟩ : ∃ x, m = x + 1 := ⟨m - 1, by omega⟩
    have e : ¬ mI R 39 2 ≤ Int32.ofNat j := by grind [ix_t, of_t]
    have e0 : (0 : Int32) ≤ Int32.ofNat j := of_nn j (by omega)
    have e1 : ix (Int32.ofNat j) = j := ix_of j (by omega)
    have i1 := ih n m (j + 1) b (by omega) (by omega) (by omega) hb
    obtain ⟨q1, q2, q3⟩ := hL j (by omega)
    show ∃ r, Land_earliestToPassOn_B4 (Land_earliestToPassOn_L4 n) 9 b (Int32.ofNat j) C = some (r, C) ∧ Mod_spreads_B51 k37 (Mod_spreads_L51 k37 m) 39 x3 b (Int32.ofNat j) R = _ ∧ _
    unfold Land_earliestToPassOn_B4 Mod_spreads_B51 Land_earliestToPassOn_J52 Land_earliestToPassOn_J54 Mod_spreads_J102 Mod_spreads_J106
    simp only [h.o9, h.o39, ck_t, h.l9_6, if_neg e, h.sc.r9_4, h.sc.r9_5, h.sr.r39_7, h.sr.r39_8, nn_s, kA_t h.sc.k14 e0 (show ix (Int32.ofNat j) < 10 by omega), kA_t h.sc.k15 e0 (show ix (Int32.ofNat j) < 10 by omega), kA_t h.sr.k44 e0 (show ix (Int32.ofNat j) < 10 by omega), kA_t h.sr.k45 e0 (show ix (Int32.ofNat j) < 10 by omega), e1, of_s1 j (by omega), q2]
    by_cases c1 : mI R 45 j = 0
    · simp only [if_pos c1]
      rcases q1 with ⟨x1, x2⟩ | ⟨v, v1, v2, v3⟩
      · simp only [x1, x2, if_true, if_pos (show (-1 : Int32) < 0 by decide)]
        exact i1
      · have nv : ¬ mI C 14 j = 2147483647 := by
          intro q
          rw [v2] at q
          have q2 : Int32.ofNat v = Int32.ofNat 2147483647 := q
          rw [of_eq _ _ (by omega) (by omega)] at q2
          omega
        have nn0 : ¬ mI R 44 j < 0 := by rw [v3]; have := of_nn v (by omega); grind
        simp only [if_neg nv, if_neg nn0]
        have i2 := ih n m (j + 1) (Int32.ofNat j) (by omega) (by omega) (by omega) (Or.inr ⟨j, v, by omega, rfl, v1, v2, v3⟩)
        rcases hb with hb | ⟨i, s, j1, j2, j3, j4, j5⟩
        · subst hb
          simp only [if_true, if_pos (show (-1 : Int32) < 0 by decide)]
          exact i2
        · have b0 : (0 : Int32) ≤ b := by rw [j2]; exact of_nn i (by omega)
          have b1 : ix b = i := by rw [j2]; exact ix_of i (by omega)
          simp only [if_neg (show ¬ b = -1 by grind), if_neg (show ¬ b < 0 by grind), kA_t h.sc.k14 b0 (show ix b < 10 by omega), kA_t h.sr.k44 b0 (show ix b < 10 by omega), ck_t, b1, j4, j5, v2, v3]
          by_cases c2 : Int32.ofNat s ≤ Int32.ofNat v
          · simp only [if_pos c2]
            exact i1
          · simp only [if_neg c2]
            exact i2
    · simp only [if_neg c1]
      exact i1
theorem LRv_set {B : Nat} {x y : Int32} (h : LRv B x y) (v : Nat) (hv : v ≤ B) (hB : B ≤ 200000) : (y < 0 ∨ ¬ y ≤ Int32.ofNat v → (if Int32.ofNat v < x then Int32.ofNat v else x) = Int32.ofNat v) ∧ (¬ y < 0 → y ≤ Int32.ofNat v → (if Int32.ofNat v < x then Int32.ofNat v else x) = x) := by
  rcases h with ⟨h1, h2⟩ | ⟨w, w1, w2, w3⟩
  · subst h1 h2
    have lt : Int32.ofNat v < 2147483647 := (of_lt v 2147483647 (by omega) (by omega)).mpr (by omega)
    rw [if_pos lt]
    exact ⟨fun _ => rfl, fun q => absurd (by decide) q⟩
  · subst w2 w3
    have nn0 : ¬ Int32.ofNat w < 0 := by have := of_nn w (by omega); grind
    refine ⟨fun q => ?_, fun _ q => ?_⟩
    · rcases q with q | q
      · exact absurd q nn0
      · rw [if_pos (by grind)]
    · rw [if_neg (by grind)]
theorem lp_pass {B s i : Nat} (hB : B ≤ 100000) (hi : i < 10) (hs : s + 2000 ≤ B) (k37 : Nat → Int32 → Mm → Option (Unit × Mm)) (x3 : Int32) : ∀ (d n m j : Nat) (C R : Mm), Rel k ad C R → LRl B C R → mI C 14 i = Int32.ofNat s → mI R 44 i = Int32.ofNat s → mI R 45 i = 1 → i < ix (mI R 39 2) → j + d = ix (mI R 39 2) → d < n → d < m → ∃ C' R', Land_passOn_L9 n 9 (Int32.ofNat i) (Int32.ofNat j) C = some ((), C') ∧ Mod_spreads_L129 k37 m 39 x3 (Int32.ofNat i) (Int32.ofNat j) R = k37 39 (x3 + 1) R' ∧ ExC C C' ∧ ExR R R' ∧ LRl B C' R' := by
  intro d
  induction d with
  | zero =>
    intro n m j C R h hL s1 s2 s3 hiT hj hn hm
    have tw := tw10 h
    have ht := h.isc.towns
    obtain ⟨n, rfl⟩ : ∃ x, n = x + 1 := ⟨n - 1, by omega⟩
    obtain ⟨m, rfl⟩ : ∃ x, m = x + 1 := ⟨m - 1, by omega⟩
    have e : mI R 39 2 ≤ Int32.ofNat j := by grind [ix_t, of_t]
    refine ⟨C, R, ?_, ?_, ExC.rf, ExR.rf, hL⟩
    · show Land_passOn_B9 _ _ _ _ _ = _
      unfold Land_passOn_B9
      rw [h.o9, ck_t, h.l9_6, if_pos e]
    · show Mod_spreads_B129 _ _ _ _ _ _ _ = _
      unfold Mod_spreads_B129
      rw [h.o39, ck_t, if_pos e]
  | succ d ih =>
    intro n m j C R h hL s1 s2 s3 hiT hj hn hm
    have tw := tw10 h
    have ht := h.isc.towns
    obtain ⟨n, rfl⟩ : ∃ x, n = x + 1 := ⟨n - 1, by omega⟩
    obtain ⟨m, rfl⟩ : ∃ x, m = x + 1 := ⟨m - 1, by omega⟩
    have e : ¬ mI R 39 2 ≤ Int32.ofNat j := by grind [ix_t, of_t]
    have e0 : (0 : Int32) ≤ Int32.ofNat j := of_nn j (by omega)
    have e1 : ix (Int32.ofNat j) = j := ix_of j (by omega)
    have i0 : (0 : Int32) ≤ Int32.ofNat i := of_nn i (by omega)
    have i1 : ix (Int32.ofNat i) = i := ix_of i (by omega)
    have p1 : Int32.ofNat i * 10 + Int32.ofNat j = Int32.ofNat (10 * i + j) := by
      rw [show (10 : Int32) = Int32.ofNat 10 from rfl, of_mul, of_add, Nat.mul_comm]
    have p2 : 10 * Int32.ofNat i + Int32.ofNat j = Int32.ofNat (10 * i + j) := by
      rw [show (10 : Int32) = Int32.ofNat 10 from rfl, of_mul, of_add]
    have n0 : (0 : Int32) ≤ Int32.ofNat (10 * i + j) := of_nn _ (by omega)
    have n1 : ix (Int32.ofNat (10 * i + j)) = 10 * i + j := ix_of _ (by omega)
    have qw := h.ila.2.1 (10 * i + j) (by omega)
    obtain ⟨q1, q2, q3⟩ := hL j (by omega)
    obtain ⟨v, v1, v2, v3⟩ := ev_arr h hi (show j < 10 by omega) (show s ≤ 100000 by omega) s1
    have st := LRv_set q1 v (by omega) (by omega)
    have x1 := ih n m (j + 1) C R h hL s1 s2 s3 hiT (by omega) (by omega) (by omega)
    show ∃ C' R', Land_passOn_B9 (Land_passOn_L9 n) 9 (Int32.ofNat i) (Int32.ofNat j) C = some ((), C') ∧ Mod_spreads_B129 k37 (Mod_spreads_L129 k37 m) 39 x3 (Int32.ofNat i) (Int32.ofNat j) R = k37 39 (x3 + 1) R' ∧ ExC C C' ∧ ExR R R' ∧ LRl B C' R'
    unfold Land_passOn_B9 Mod_spreads_B129 Land_passOn_J61 Mod_spreads_J206 Mod_spreads_J215
    simp only [h.o9, h.o39, ck_t, h.l9_6, if_neg e, p1, p2, h.sc.r9_3, h.sc.r9_4, h.sc.r9_5, h.sr.r39_6, h.sr.r39_7, h.sr.r39_8, nn_s, kA_t h.sc.k13 n0 (show ix (Int32.ofNat (10 * i + j)) < 100 by omega), kA_t h.sr.k43 n0 (show ix (Int32.ofNat (10 * i + j)) < 100 by omega), kA_t h.sc.k14 e0 (show ix (Int32.ofNat j) < 10 by omega), kA_t h.sc.k15 e0 (show ix (Int32.ofNat j) < 10 by omega), kA_t h.sr.k44 e0 (show ix (Int32.ofNat j) < 10 by omega), kA_t h.sr.k45 e0 (show ix (Int32.ofNat j) < 10 by omega), kA_t h.sr.k44 i0 (show ix (Int32.ofNat i) < 10 by omega), e1, i1, n1, of_s1 j (by omega), q2, s2, v2, v3, bd_s, ev_min, h.la13]
    by_cases c0 : mI R 43 (10 * i + j) = 0
    · rw [if_pos (by rw [c0]; decide), if_pos c0]
      exact x1
    · rw [if_neg (by grind), if_neg c0]
      by_cases c1 : mI R 45 j = 0
      · simp only [if_pos c1]
        have ji : j ≠ i := by
          intro q
          rw [q, s3] at c1
          exact absurd c1 (by decide)
        -- the class writes; the reference may write
        have fin : ∀ R1, ExR R R1 → mI R1 39 = mI R 39 → mI R1 44 i = Int32.ofNat s → mI R1 45 = mI R 45 → (∀ t, t ≠ j → mI R1 44 t = mI R 44 t) → LRv B (if Int32.ofNat v < mI C 14 j then Int32.ofNat v else mI C 14 j) (mI R1 44 j) → ∃ C' R', Land_passOn_L9 n 9 (Int32.ofNat i) (Int32.ofNat (j + 1)) (sI C 14 j (if Int32.ofNat v < mI C 14 j then Int32.ofNat v else mI C 14 j)) = some ((), C') ∧ Mod_spreads_L129 k37 m 39 x3 (Int32.ofNat i) (Int32.ofNat (j + 1)) R1 = k37 39 (x3 + 1) R' ∧ ExC C C' ∧ ExR R R' ∧ LRl B C' R' := by
          intro R1 y1 y2 y3 y4 y5 y6
          have hx : ExC C (sI C 14 j (if Int32.ofNat v < mI C 14 j then Int32.ofNat v else mI C 14 j)) := ExC.rf.s (by unfold tC; omega)
          have h2 := h.tmp hx y1
          have z := ih n m (j + 1) (sI C 14 j (if Int32.ofNat v < mI C 14 j then Int32.ofNat v else mI C 14 j)) R1 h2 (fun t ht => by
            obtain ⟨r1, r2, r3⟩ := hL t ht
            rw [y4]
            refine ⟨?_, ?_, r3⟩
            · rw [mI_sI]
              by_cases c : t = j
              · rw [if_pos ⟨rfl, c⟩, c]; exact y6
              · rw [if_neg (fun q => c q.2), y5 t c]; exact r1
            · rw [mI_sI, if_neg (fun q => absurd q.1 (by decide))]; exact r2) (by rw [mI_sI, if_neg (fun q => ji q.2.symm)]; exact s1) y3 (by rw [y4]; exact s3) (by rw [y2]; exact hiT) (by rw [y2]; omega) (by omega) (by omega)
          obtain ⟨C', R', z1, z2, z3, z4, z5⟩ := z
          exact ⟨C', R', z1, z2, hx.tr z3, y1.tr z4, z5⟩
        by_cases c2 : mI R 44 j < 0
        · rw [if_pos c2]
          refine fin (sI R 44 j (Int32.ofNat v)) (ExR.rf.s (by unfold tR; omega)) rfl (by rw [mI_sI, if_neg (fun q => ji q.2.symm)]; exact s2) rfl (fun t ht => by rw [mI_sI, if_neg (fun q => ht q.2)]) ?_
          rw [st.1 (Or.inl c2), mI_sI, if_pos ⟨rfl, rfl⟩]
          exact Or.inr ⟨v, by omega, rfl, rfl⟩
        · rw [if_neg c2]
          by_cases c3 : mI R 44 j ≤ Int32.ofNat v
          · rw [if_pos c3]
            refine fin R ExR.rf rfl s2 rfl (fun t _ => rfl) ?_
            rw [st.2 c2 c3]
            exact q1
          · rw [if_neg c3]
            refine fin (sI R 44 j (Int32.ofNat v)) (ExR.rf.s (by unfold tR; omega)) rfl (by rw [mI_sI, if_neg (fun q => ji q.2.symm)]; exact s2) rfl (fun t ht => by rw [mI_sI, if_neg (fun q => ht q.2)]) ?_
            rw [st.1 (Or.inr c3), mI_sI, if_pos ⟨rfl, rfl⟩]
            exact Or.inr ⟨v, by omega, rfl, rfl⟩
      · simp only [if_neg c1]
        exact x1
theorem lp_turn : ∀ (d n m j : Nat) (C R : Mm), Rel k ad C R → LRl (57600 + 2000 * j) C R → j + d = ix (mI R 39 2) → d < n → d < m → ∃ C' R', Land_spread_L47 n 9 (Int32.ofNat j) C = some ((), C') ∧ Mod_spreads_L37 m 39 (Int32.ofNat j) R = some ((), R') ∧ ExC C C' ∧ ExR R R' ∧ LRl 77600 C' R' := by
  intro d
  induction d with
  | zero =>
    intro n m j C R h hL hj hn hm
    have tw := tw10 h
    have ht := h.isc.towns
    obtain ⟨n, rfl⟩ : ∃ x, n = x + 1 := ⟨n - 1, by omega⟩
    obtain ⟨m, rfl⟩ : ∃ x, m = x + 1 := ⟨m - 1, by omega⟩
    have e : mI R 39 2 ≤ Int32.ofNat j := by grind [ix_t, of_t]
    refine ⟨C, R, ?_, ?_, ExC.rf, ExR.rf, hL.mo (by omega)⟩
    · show Land_spread_B47 _ _ _ _ = _
      unfold Land_spread_B47
      rw [h.o9, ck_t, h.l9_6, if_pos e]
    · show Mod_spreads_B37 _ _ _ _ = _
      unfold Mod_spreads_B37
      rw [h.o39, ck_t, if_pos e]
  | succ d ih =>
    intro n m j C R h hL hj hn hm
    have tw := tw10 h
    have ht := h.isc.towns
    obtain ⟨n, rfl⟩ : ∃ x, n = x + 1 := ⟨n - 1, by omega⟩
    obtain ⟨m, rfl⟩ : ∃ x, m = x + 1 := ⟨m - 1, by omega⟩
    have e : ¬ mI R 39 2 ≤ Int32.ofNat j := by grind [ix_t, of_t]
    obtain ⟨r, r1, r2, r3⟩ := lp_earl h (by omega) hL (Mod_spreads_L37 m) (Int32.ofNat j) (ix (mI R 39 2)) fu fu 0 (-1) (by omega) (fu_g (by omega)) (fu_g (by omega)) (Or.inl rfl)
    have r1' : Land_earliestToPassOn C 9 = some (r, C) := r1
    have r2' : Mod_spreads_L51 (Mod_spreads_L37 m) fu 39 (Int32.ofNat j) (-1) 0 R = tlM (Mod_spreads_L37 m) (Int32.ofNat j) r R := r2
    show ∃ C' R', Land_spread_B47 (Land_spread_L47 n) 9 (Int32.ofNat j) C = some ((), C') ∧ Mod_spreads_B37 (Mod_spreads_L37 m) 39 (Int32.ofNat j) R = some ((), R') ∧ ExC C C' ∧ ExR R R' ∧ LRl 77600 C' R'
    unfold Land_spread_B47 Mod_spreads_B37 Land_passOn
    rw [h.o9, ck_t, h.l9_6, if_neg e, r1', bd_s, h.o39, ck_t, if_neg e, r2']
    unfold tlM
    rcases r3 with r3 | ⟨i, s, i1, i2, i3, i4, i5⟩
    · subst r3
      rw [if_pos rfl, if_neg (by decide)]
      exact ⟨C, R, rfl, rfl, ExC.rf, ExR.rf, hL.mo (by omega)⟩
    · have b0 : (0 : Int32) ≤ Int32.ofNat i := of_nn i (by omega)
      have b1 : ix (Int32.ofNat i) = i := ix_of i (by omega)
      subst i2
      have hc1 : ExC C (sI C 15 i 1) := ExC.rf.s (by unfold tC; omega)
      have hr1 : ExR R (sI R 45 i 1) := ExR.rf.s (by unfold tR; omega)
      have h2 := h.tmp hc1 hr1
      have hL2 : LRl (57600 + 2000 * (j + 1)) (sI C 15 i 1) (sI R 45 i 1) := by
        intro t ht
        obtain ⟨a1, a2, a3⟩ := hL.mo (show 57600 + 2000 * j ≤ 57600 + 2000 * (j + 1) by omega) t ht
        refine ⟨a1, ?_, ?_⟩
        · rw [mI_sI, mI_sI]
          by_cases c : t = i
          · rw [if_pos ⟨rfl, c⟩, if_pos ⟨rfl, c⟩]
          · rw [if_neg (fun q => c q.2), if_neg (fun q => c q.2)]; exact a2
        · rw [mI_sI]
          split
          · exact Or.inr rfl
          · exact a3
      have z := lp_pass (show 57600 + 2000 * (j + 1) ≤ 100000 by omega) (show i < 10 by omega) (show s + 2000 ≤ 57600 + 2000 * (j + 1) by omega) (Mod_spreads_L37 m) (Int32.ofNat j) (ix (mI R 39 2)) fu fu 0 (sI C 15 i 1) (sI R 45 i 1) h2 hL2 i4 i5 (by rw [mI_sI, if_pos ⟨rfl, rfl⟩]) i1 (by show 0 + ix (mI R 39 2) = ix (mI R 39 2); omega) (fu_g (by omega)) (fu_g (by omega))
      obtain ⟨C1, R1, z1, z2, z3, z4, z5⟩ := z
      have z1' : Land_passOn_L9 fu 9 (Int32.ofNat i) 0 (sI C 15 i 1) = some ((), C1) := z1
      have z2' : Mod_spreads_L129 (Mod_spreads_L37 m) fu 39 (Int32.ofNat j) (Int32.ofNat i) 0 (sI R 45 i 1) = Mod_spreads_L37 m 39 (Int32.ofNat j + 1) R1 := z2
      simp only [if_neg (show ¬ Int32.ofNat i = -1 by grind), h.o9, ck_t, h.sc.r9_5, nn_s, kA_t h.sc.k15 b0 (show ix (Int32.ofNat i) < 10 by omega), b1, z1', bd_s, if_pos b0, z2', of_s1 j (by omega)]
      have h3 := h2.tmp z3 z4
      have e39 : mI R1 39 = mI R 39 := (hr1.tr z4).1 39 (by unfold tR; omega)
      obtain ⟨C2, R2, y1, y2, y3, y4, y5⟩ := ih n m (j + 1) C1 R1 h3 z5 (by rw [e39]; omega) (by omega) (by omega)
      exact ⟨C2, R2, y1, y2, (hc1.tr z3).tr y3, (hr1.tr z4).tr y4, y5⟩
theorem lp_init {f : Int32} {mn : Nat} (hmn : mn ≤ 57600) : ∀ (d n m j : Nat) (C R : Mm), Rel k ad C R → (0 ≤ f ∧ f < mI R 39 2) → (∀ t, t < j → mI C 14 t = 2147483647 ∧ mI R 44 t = -1 ∧ mI C 15 t = 0 ∧ mI R 45 t = 0) → j + d = 10 → d < n → d < m → ∃ C' R', Land_spread_L2 n 9 f (Int32.ofNat mn) (Int32.ofNat j) C = some ((), C') ∧ Mod_spreads_L2 m 39 f (Int32.ofNat mn) (Int32.ofNat j) R = some ((), R') ∧ ExC C C' ∧ ExR R R' ∧ LRl 77600 C' R' := by
  intro d
  induction d with
  | zero =>
    intro n m j C R h hf hz hj hn hm
    have tw := tw10 h
    have ht := h.isc.towns
    obtain ⟨n, rfl⟩ : ∃ x, n = x + 1 := ⟨n - 1, by omega⟩
    obtain ⟨m, rfl⟩ : ∃ x, m = x + 1 := ⟨m - 1, by omega⟩
    have e : (10 : Int32) ≤ Int32.ofNat j := (of_le 10 j (by omega) (by omega)).mpr (by omega)
    have f10 : ix f < 10 := ix_b 10 hf.1 hf.2 (by grind) (by decide)
    have hc1 : ExC C (sI C 14 (ix f) (Int32.ofNat mn)) := ExC.rf.s (by unfold tC; omega)
    have hr1 : ExR R (sI R 44 (ix f) (Int32.ofNat mn)) := ExR.rf.s (by unfold tR; omega)
    have h2 := h.tmp hc1 hr1
    have hL2 : LRl (57600 + 2000 * 0) (sI C 14 (ix f) (Int32.ofNat mn)) (sI R 44 (ix f) (Int32.ofNat mn)) := by
      intro t ht
      obtain ⟨a1, a2, a3, a4⟩ := hz t (by omega)
      refine ⟨?_, ?_, ?_⟩
      · rw [mI_sI, mI_sI]
        by_cases c : t = ix f
        · rw [if_pos ⟨rfl, c⟩, if_pos ⟨rfl, c⟩]
          exact Or.inr ⟨mn, by omega, rfl, rfl⟩
        · rw [if_neg (fun q => c q.2), if_neg (fun q => c q.2)]
          exact Or.inl ⟨a1, a2⟩
      · rw [mI_sI, if_neg (fun q => absurd q.1 (by decide)), mI_sI, if_neg (fun q => absurd q.1 (by decide)), a3, a4]
      · rw [mI_sI, if_neg (fun q => absurd q.1 (by decide)), a4]; exact Or.inl rfl
    obtain ⟨C2, R2, y1, y2, y3, y4, y5⟩ := lp_turn (ix (mI R 39 2)) fu fu 0 _ _ h2 hL2 (by show 0 + ix (mI R 39 2) = ix (mI R 39 2); omega) (fu_g (by omega)) (fu_g (by omega))
    refine ⟨C2, R2, ?_, ?_, hc1.tr y3, hr1.tr y4, y5⟩
    · show Land_spread_B2 _ _ _ _ _ _ = _
      unfold Land_spread_B2
      simp only [if_pos e, h.o9, ck_t, ev_has h, bd_s, if_pos hf, i10, if_false, h.sc.r9_4, nn_s, kA_t h.sc.k14 hf.1 f10]
      exact y1
    · show Mod_spreads_B2 _ _ _ _ _ _ = _
      unfold Mod_spreads_B2
      simp only [if_pos e, h.o39, ck_t, h.sr.r39_7, nn_s, kA_t h.sr.k44 hf.1 f10]
      exact y2
  | succ d ih =>
    intro n m j C R h hf hz hj hn hm
    obtain ⟨n, rfl⟩ : ∃ x, n = x + 1 := ⟨n - 1, by omega⟩
    obtain ⟨m, rfl⟩ : ∃ x, m = x + 1 := ⟨m - 1, by omega⟩
    have e : ¬ (10 : Int32) ≤ Int32.ofNat j := fun q => by have := (of_le 10 j (by omega) (by omega)).mp q; omega
    have e0 : (0 : Int32) ≤ Int32.ofNat j := of_nn j (by omega)
    have e1 : ix (Int32.ofNat j) = j := ix_of j (by omega)
    have hc1 : ExC C (sI (sI C 14 j 2147483647) 15 j 0) := (ExC.rf.s (by unfold tC; omega)).s (by unfold tC; omega)
    have hr1 : ExR R (sI (sI R 44 j (-1)) 45 j 0) := (ExR.rf.s (by unfold tR; omega)).s (by unfold tR; omega)
    have h2 := h.tmp hc1 hr1
    obtain ⟨C2, R2, y1, y2, y3, y4, y5⟩ := ih n m (j + 1) _ _ h2 hf (fun t ht => by
      simp only [mI_sI]
      by_cases c : t = j
      · subst c; simp
      · have := hz t (by omega)
        simp [c]
        exact this) (by omega) (by omega) (by omega)
    refine ⟨C2, R2, ?_, ?_, hc1.tr y3, hr1.tr y4, y5⟩
    · show Land_spread_B2 _ _ _ _ _ _ = _
      unfold Land_spread_B2
      simp only [if_neg e, h.o9, ck_t, mR_sI, kA_sI, h.sc.r9_4, h.sc.r9_5, nn_s, kA_t h.sc.k14 e0 (show ix (Int32.ofNat j) < 10 by omega), kA_t h.sc.k15 e0 (show ix (Int32.ofNat j) < 10 by omega), e1, of_s1 j (by omega)]
      exact y1
    · show Mod_spreads_B2 _ _ _ _ _ _ = _
      unfold Mod_spreads_B2
      simp only [if_neg e, h.o39, ck_t, mR_sI, kA_sI, h.sr.r39_7, h.sr.r39_8, nn_s, kA_t h.sr.k44 e0 (show ix (Int32.ofNat j) < 10 by omega), kA_t h.sr.k45 e0 (show ix (Int32.ofNat j) < 10 by omega), e1, of_s1 j (by omega)]
      exact y2
theorem spread_sim (h : Rel k ad C R) {f mn : Int32} (hf : 0 ≤ f ∧ f < mI R 39 2) (hm : 0 ≤ mn ∧ mn ≤ 57600) : ∃ C' R', Land_spread C 9 f mn = some ((), C') ∧ Mod_spreads R 39 f mn = some ((), R') ∧ ExC C C' ∧ ExR R R' ∧ LRl 77600 C' R' := by
  have e : mn = Int32.ofNat (ix mn) := (of_ix _ hm.1).symm
  have b : ix mn ≤ 57600 := by grind [ix_t]
  obtain ⟨C', R', y⟩ := lp_init (f := f) b 10 fu fu 0 C R h hf (fun t ht => absurd ht (by omega)) (by omega) (fu_g (by omega)) (fu_g (by omega))
  refine ⟨C', R', ?_⟩
  rw [e]
  exact y
/-- the minute in a town, as both tell it -/
theorem ev_minute (h : Rel k ad C R) (hL : LRl 77600 C R) {t : Int32} (ht : 0 ≤ t ∧ t < mI R 39 2) : Land_minuteIn C 9 t = some (mI R 44 (ix t), C) := by
  have t10 : ix t < 10 := ix_b 10 ht.1 ht.2 (by have := h.isc.towns; grind) (by decide)
  unfold Land_minuteIn
  simp only [h.o9, ck_t, ev_has h, bd_s, if_pos ht, i10, if_false, h.sc.r9_4, nn_s, kA_t h.sc.k14 ht.1 t10]
  rcases (hL (ix t) t10).1 with ⟨x1, x2⟩ | ⟨v, v1, v2, v3⟩
  · rw [if_pos x1, x2]
  · have nv : ¬ mI C 14 (ix t) = 2147483647 := by
      intro q
      rw [v2] at q
      have q2 : Int32.ofNat v = Int32.ofNat 2147483647 := q
      rw [of_eq _ _ (by omega) (by omega)] at q2
      omega
    rw [if_neg nv, v2, v3]
theorem sim_news (h : Rel k ad C R) (hk : k < 512) (a b c : Int32) : Sim k (Hall_news C 8 a b c) (Mod_news R 39 a b c) := by
  unfold Hall_news Mod_news
  simp only [h.o8, h.o9, h.o39, h.sc.r8_0, ck_t, nn_s, ev_has h, ev_isT h, bd_s, ev_within, ev_in]
  by_cases h1 : 0 ≤ a ∧ a < mI R 39 2
  · by_cases h2 : 0 ≤ b ∧ b < mI R 39 2
    · by_cases h3 : 0 ≤ c ∧ c ≤ 57600
      · obtain ⟨C', R', y1, y2, y3, y4, y5⟩ := spread_sim h h1 h3
        have hh := h.tmp y3 y4
        have e39 : mI R' 39 = mI R 39 := y4.1 39 (by unfold tR; omega)
        have h2' : 0 ≤ b ∧ b < mI R' 39 2 := by rw [e39]; exact h2
        have t10 : ix b < 10 := ix_b 10 h2.1 h2.2 (by have := h.isc.towns; grind) (by decide)
        simp only [if_pos h1, if_pos h2, if_pos h3, i10, if_false, h.o8, h.o9, h.o39, ck_t, nn_s, y1, y2, bd_s, hh.o8, hh.o9, hh.o39, hh.sc.r8_0, ev_minute hh y5 h2', hh.sr.r39_7, kA_t hh.sr.k44 h2.1 t10]
        exact ⟨_, _, _, ad, rfl, rfl, hh.up hk⟩
      · simp only [if_pos h1, if_pos h2, if_neg h3, i10, if_false, if_true]
        exact ⟨_, _, _, ad, rfl, rfl, h.up hk⟩
    · simp only [if_pos h1, if_neg h2, i10, if_false, if_true]
      exact ⟨_, _, _, ad, rfl, rfl, h.up hk⟩
  · simp only [if_neg h1, if_true]
    exact ⟨_, _, _, ad, rfl, rfl, h.up hk⟩
end N3
