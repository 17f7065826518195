/-! what the rules look at: both sides see the same -/
section L1
variable {k : Nat} {ad : Nat → Nat → Nat} {C R : Mm}
def smI (f : Nat → Int32) : Nat → Int32
  | 0 => 0
  | n + 1 => smI f n + f n
def outR (R : Mm) (s : Nat) : Int32 := mI R 55 s - mI R 56 s - mI R 57 s
def kn (R : Mm) (nm : Nat) : Int32 := if nm = 0 then mI R 39 0 / 1440 else if nm = 1 then rm (mI R 39 0) 1440 else if nm = 2 then mI R 39 1 else if nm = 3 then lcl R else if nm = 4 then mI R 39 71 else if nm = 5 then smI (mI R 54) (ix (mI R 39 22)) else smI (outR R) (ix (mI R 39 22))
def Fok (C R : Mm) : Prop := ∀ nm, nm ≤ 6 → mI C 29 nm = kn R nm
theorem i0T : (0 : Int32).toInt = 0 := rfl
theorem i60T : (60 : Int32).toInt = 60 := rfl
theorem i99T : (99999 : Int32).toInt = 99999 := rfl
theorem Rel.st_b (h : Rel k ad C R) {s : Nat} (hs : s < 4) : 0 ≤ sumP R s ∧ 0 ≤ sumW R s ∧ 0 ≤ (mI R 56 s).toInt ∧ 0 ≤ (mI R 57 s).toInt ∧ (mI R 55 s).toInt = (mI R 56 s).toInt + (mI R 57 s).toInt + sumP R s + sumW R s ∧ (mI R 55 s).toInt ≤ 30000 ∧ 0 ≤ (mI R 54 s).toInt ∧ (mI R 54 s).toInt ≤ 99999 := by
  obtain ⟨q1, q2, q3, q4, q5, q6⟩ := h.ist.1 s hs
  have i := h.isc.issues
  rw [I_le, I_le, i0T, i60T] at i
  rw [I_le, I_le, i0T, i99T] at q1
  rw [I_le, i0T] at q3 q4
  refine ⟨sumTo_nn (fun p hp => ?_), sumTo_nn (fun w hw => ?_), q3, q4, q2, by omega, q1.1, q1.2⟩
  · have := h.ist.2.1 (4 * p + s) (by omega)
    rw [I_le, i0T] at this
    exact this
  · have := (h.ist.2.2.1 w hw).2.2.1
    rw [I_le, i0T] at this
    show 0 ≤ (if mI R 62 w = Int32.ofNat s then (mI R 64 w).toInt else 0)
    split
    · exact this
    · exact Int.le_refl 0
theorem outR_t (h : Rel k ad C R) {s : Nat} (hs : s < 4) : (outR R s).toInt = sumP R s + sumW R s := by
  obtain ⟨q1, q2, q3, q4, q5, q6, q7⟩ := h.st_b hs
  unfold outR
  rw [I_sub _ _ (by rw [I_sub _ _ (by omega) (by omega) (by omega) (by omega)]; omega) (by rw [I_sub _ _ (by omega) (by omega) (by omega) (by omega)]; omega) (by omega) (by omega), I_sub _ _ (by omega) (by omega) (by omega) (by omega)]
  omega
theorem sto4 (h : Rel k ad C R) : ix (mI R 39 22) ≤ 4 := by have := h.isc.stores; grind [ix_t]
theorem out_eq (h : Rel k ad C R) {s : Nat} (hs : s < ix (mI R 39 22)) : mI C (ad 4 s) 9 + mI C (ad 4 s) 10 = outR R s := by
  have h4 := sto4 h
  obtain ⟨q1, q2, q3, q4, q5, q6, q7⟩ := h.st_b (show s < 4 by omega)
  obtain ⟨-, -, -, -, -, -, e9, e10⟩ := h.qs s hs
  apply I_eq
  rw [outR_t h (by omega), I_add _ _ (by omega) (by omega) (by omega) (by omega), e9, e10]
theorem ev_out (h : Rel k ad C R) {s : Nat} (hs : s < ix (mI R 39 22)) : Store_out C (ad 4 s) = some (outR R s, C) := by
  unfold Store_out
  rw [kO_t (h.shs s hs).2.1, ck_t, out_eq h hs]
theorem ev_mout (h : Rel k ad C R) {s : Nat} (hs : s < 4) : Mod_outOf R 39 (Int32.ofNat s) = some (outR R s, R) := by
  have e0 : (0 : Int32) ≤ Int32.ofNat s := of_nn s (by omega)
  have e1 : ix (Int32.ofNat s) = s := ix_of s (by omega)
  have e2 : ix (Int32.ofNat s) < 4 := by omega
  unfold Mod_outOf
  simp only [h.o39, ck_t, h.sr.r39_26, h.sr.r39_27, h.sr.r39_28, nn_s, kA_t h.sr.k55 e0 e2, kA_t h.sr.k56 e0 e2, kA_t h.sr.k57 e0 e2, e1]
  rfl
/-- facts as they are looked at -/
def clk (C : Mm) (a b : Int32) : Mm := sI (sI (sI C 29 0 (a / 1440)) 29 1 (rm a 1440)) 29 2 b
def mkt (C : Mm) (a b c d : Int32) : Mm := sI (sI (sI (sI C 29 3 a) 29 4 b) 29 5 c) 29 6 d
theorem k29 (h : Rel k ad C R) {i : Int32} (h0 : 0 ≤ i) (h1 : ix i < 7) : kA C 29 20 i = true := kA_t h.sc.k29 h0 h1
theorem ev_clk (h : Rel k ad C R) (a b : Int32) : Law_lookAtClock C 19 a b = some ((), clk C a b) := by
  unfold Law_lookAtClock
  simp only [h.o19, ck_t, h.sc.r19_2, mR_sI, nn_s, kA_sI, k29 h (i := 0) (by decide) (by decide), k29 h (i := 1) (by decide) (by decide), k29 h (i := 2) (by decide) (by decide)]
  rfl
theorem ev_mkt (h : Rel k ad C R) (a b c d : Int32) : Law_lookAtMarket C 19 a b c d = some ((), mkt C a b c d) := by
  unfold Law_lookAtMarket
  simp only [h.o19, ck_t, h.sc.r19_2, mR_sI, nn_s, kA_sI, k29 h (i := 3) (by decide) (by decide), k29 h (i := 4) (by decide) (by decide), k29 h (i := 5) (by decide) (by decide), k29 h (i := 6) (by decide) (by decide)]
  rfl
theorem tC29 : tC 29 := by unfold tC; omega
theorem ex_clk (C : Mm) (a b : Int32) : ExC C (clk C a b) := ((ExC.rf.s tC29).s tC29).s tC29
theorem ex_mkt (C : Mm) (a b c d : Int32) : ExC C (mkt C a b c d) := (((ExC.rf.s tC29).s tC29).s tC29).s tC29
def fct (C R : Mm) : Mm := mkt (clk C (mI R 39 0) (mI R 39 1)) (lcl R) (mI R 39 71) (smI (mI R 54) (ix (mI R 39 22))) (smI (outR R) (ix (mI R 39 22)))
theorem ex_fct (C R : Mm) : ExC C (fct C R) := (ex_clk _ _ _).tr (ex_mkt _ _ _ _ _)
theorem fok_fct (C R : Mm) : Fok (fct C R) R := by
  intro nm hn
  unfold fct mkt clk kn
  simp only [mI_sI]
  rcases (show nm = 0 ∨ nm = 1 ∨ nm = 2 ∨ nm = 3 ∨ nm = 4 ∨ nm = 5 ∨ nm = 6 by omega) with e | e | e | e | e | e | e <;> subst e <;> simp
theorem lp_look (h : Rel k ad C R) : ∀ (d n j : Nat), j + d = ix (mI R 39 22) → d < n → Hall_lookAround_L6 n 8 (smI (mI R 54) j) (smI (outR R) j) (Int32.ofNat j) C = some ((), fct C R) := by
  have h4 := sto4 h
  have hst := h.isc.stores
  intro d
  induction d with
  | zero =>
    intro n j hj hn
    obtain ⟨n, rfl⟩ : ∃ x, n = x + 1 := ⟨n - 1, by omega⟩
    have e : mI R 39 22 ≤ Int32.ofNat j := by grind [ix_t, of_t]
    have h5 := h.tmp (ex_clk C (mI R 39 0) (mI R 39 1)) ExR.rf
    show Hall_lookAround_B6 _ _ _ _ _ _ = _
    unfold Hall_lookAround_B6
    simp only [h.o8, h.o19, ck_t, h.l8_4, if_pos e, h.sc.r8_9, nn_s, h.l8_16, h.l8_17, ev_clk h, bd_s, h5.o8, h5.o30, h5.o19, h5.sc.r8_9, h5.sc.r8_10, ev_lcl h5, h5.l30_2, ev_mkt h5]
    rw [show j = ix (mI R 39 22) by omega]
    rfl
  | succ d ih =>
    intro n j hj hn
    obtain ⟨n, rfl⟩ : ∃ x, n = x + 1 := ⟨n - 1, by omega⟩
    have e : ¬ mI R 39 22 ≤ Int32.ofNat j := by grind [ix_t, of_t]
    have e0 : (0 : Int32) ≤ Int32.ofNat j := of_nn j (by omega)
    have e1 : ix (Int32.ofNat j) = j := ix_of j (by omega)
    have lt : j < ix (mI R 39 22) := by omega
    have sh := h.shs j lt
    show Hall_lookAround_B6 _ _ _ _ _ _ = _
    unfold Hall_lookAround_B6
    simp only [h.o8, ck_t, h.l8_4, if_neg e, h.sc.r8_3, nn_s, kA_t h.sc.k17 e0 (show ix (Int32.ofNat j) < 4 by omega), e1, sh.1, kO_t sh.2.1, h.ls8 lt, ev_out h lt, bd_s, of_s1 j (by omega)]
    exact ih n (j + 1) (by omega) (by omega)
theorem ev_look (h : Rel k ad C R) : Hall_lookAround C 8 = some ((), fct C R) := lp_look h (ix (mI R 39 22)) fu 0 (by omega) (fu_g (by have := sto4 h; omega))
theorem lp_kn (h : Rel k ad C R) (nm : Int32) (hn : nm = 5 ∨ nm = 6) : ∀ (d n j : Nat), j + d = ix (mI R 39 22) → d < n → Mod_known_L79 n 39 nm (smI (if nm = 5 then mI R 54 else outR R) j) (Int32.ofNat j) R = some (smI (if nm = 5 then mI R 54 else outR R) (ix (mI R 39 22)), R) := by
  have h4 := sto4 h
  have hst := h.isc.stores
  intro d
  induction d with
  | zero =>
    intro n j hj hn
    obtain ⟨n, rfl⟩ : ∃ x, n = x + 1 := ⟨n - 1, by omega⟩
    have e : mI R 39 22 ≤ Int32.ofNat j := by grind [ix_t, of_t]
    show Mod_known_B79 _ _ _ _ _ _ = _
    unfold Mod_known_B79
    rw [h.o39, ck_t, if_pos e, show j = ix (mI R 39 22) by omega]
  | succ d ih =>
    intro n j hj hn'
    obtain ⟨n, rfl⟩ : ∃ x, n = x + 1 := ⟨n - 1, by omega⟩
    have e : ¬ mI R 39 22 ≤ Int32.ofNat j := by grind [ix_t, of_t]
    have e0 : (0 : Int32) ≤ Int32.ofNat j := of_nn j (by omega)
    have e1 : ix (Int32.ofNat j) = j := ix_of j (by omega)
    have x := ih n (j + 1) (by omega) (by omega)
    show Mod_known_B79 _ _ _ _ _ _ = _
    unfold Mod_known_B79 Mod_known_J107
    by_cases h5 : nm = 5
    · simp only [if_pos h5] at x ⊢
      simp only [h.o39, ck_t, if_neg e, h.sr.r39_25, nn_s, kA_t h.sr.k54 e0 (show ix (Int32.ofNat j) < 4 by omega), e1, of_s1 j (by omega)]
      exact x
    · simp only [if_neg h5] at x ⊢
      simp only [h.o39, ck_t, if_neg e, ev_mout h (show j < 4 by omega), bd_s, of_s1 j (by omega)]
      exact x
theorem ev_kn (h : Rel k ad C R) (nm : Int32) (h0 : 0 ≤ nm) (h6 : nm ≤ 6) : Mod_known R 39 nm = some (kn R (ix nm), R) := by
  have hc := h.isc.closes
  have e : nm = 0 ∨ nm = 1 ∨ nm = 2 ∨ nm = 3 ∨ nm = 4 ∨ nm = 5 ∨ nm = 6 := by grind
  unfold Mod_known
  rcases e with e | e | e | e | e | e | e
  · subst e; rw [h.o39]; rfl
  · subst e; rw [h.o39]; rfl
  · subst e; rw [h.o39]; rfl
  · subst e
    simp only [h.o39, ck_t]
    show (if mI R 39 71 = 0 then some (0, R) else nn (mR R 39 82) (fun b10 => ck (kA R b10 20 (mI R 39 71 - 1)) (some (mI R b10 (ix (mI R 39 71 - 1)), R)))) = some (lcl R, R)
    unfold lcl
    by_cases h1 : mI R 39 71 = 0
    · rw [if_pos h1, if_pos h1]
    · have h2 : 0 ≤ mI R 39 71 - 1 := by grind
      rw [if_neg h1, if_neg h1, h.sr.r39_82, nn_s, kA_t h.sr.k91 h2 (ix_b 24 h2 (show mI R 39 71 - 1 < 24 by grind) (by decide) (by decide)), ck_t]
  · subst e; rw [h.o39]; rfl
  · subst e
    exact lp_kn h 5 (Or.inl rfl) (ix (mI R 39 22)) fu 0 (by omega) (fu_g (by have := sto4 h; omega))
  · subst e
    exact lp_kn h 6 (Or.inr rfl) (ix (mI R 39 22)) fu 0 (by omega) (fu_g (by have := sto4 h; omega))
end L1
