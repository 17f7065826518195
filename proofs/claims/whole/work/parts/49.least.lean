section M4
variable {k : Nat} {ad : Nat → Nat → Nat} {C R : Mm}
def mxI (a b : Int32) : Int32 := if a < b then b else a
def abI (a : Int32) : Int32 := if 0 ≤ a then a else -a
theorem ev_max (M : Mm) (a b : Int32) : Math_max_I M a b = some (mxI a b, M) := by
  unfold Math_max_I mxI
  split <;> rfl
theorem ev_min (M : Mm) (a b : Int32) : Math_min_I M a b = some (if b < a then b else a, M) := by
  unfold Math_min_I
  split <;> rfl
theorem ev_abs (M : Mm) (a : Int32) : Math_abs_I M a = some (abI a, M) := by
  unfold Math_abs_I abI
  split <;> rfl
theorem ev_mabs (M : Mm) (a : Int32) : Mod_abs M a = some (abI a, M) := by
  unfold Mod_abs abI
  split <;> rfl
theorem ev_mmax (M : Mm) (a b : Int32) : Mod_max M a b = some (mxI a b, M) := by
  unfold Mod_max mxI
  by_cases h : a ≤ b
  · rw [if_pos h]
    by_cases h2 : a < b
    · rw [if_pos h2]
    · rw [if_neg h2]
      have : a = b := by grind
      rw [this]
  · rw [if_neg h, if_neg (by grind)]
theorem ev_mmin (M : Mm) (a b : Int32) : Mod_min M a b = some (if b < a then b else a, M) := by
  unfold Mod_min
  by_cases h : b ≤ a
  · rw [if_pos h]
    by_cases h2 : b < a
    · rw [if_pos h2]
    · rw [if_neg h2]
      have : a = b := by grind
      rw [this]
  · rw [if_neg h, if_neg (by grind)]
def wdA (f : Nat → Int32) (i : Nat) : Nat → Nat → Int32 → Int32
  | 0, _, acc => acc
  | d + 1, j, acc => wdA f i d (j + 1) (mxI acc (abI (f j - f i)))
theorem mxI_as (a b c : Int32) : mxI (mxI a b) c = mxI a (mxI b c) := by unfold mxI; grind
theorem wdA_mx (f : Nat → Int32) (i d : Nat) : ∀ (j : Nat) (a b : Int32), wdA f i d j (mxI a b) = mxI a (wdA f i d j b) := by
  induction d with
  | zero => intro j a b; rfl
  | succ d ih =>
    intro j a b
    have e1 : ∀ x, wdA f i (d + 1) j x = wdA f i d (j + 1) (mxI x (abI (f j - f i))) := fun x => rfl
    rw [e1, e1]
    generalize abI (f j - f i) = y
    rw [mxI_as]
    exact ih (j + 1) a (mxI b y)
theorem wdA_nn (f : Nat → Int32) (i : Nat) : ∀ (d j : Nat) (a : Int32), 0 ≤ a → 0 ≤ wdA f i d j a
  | 0, _, _, h => h
  | d + 1, j, a, h => wdA_nn f i d (j + 1) _ (by unfold mxI; grind)
theorem lp_wid (h : Rel k ad C R) (i : Nat) (q : Int32) (hq : 1 ≤ q ∧ q ≤ 10) (hi : i < ix (mI R 39 71)) : ∀ (d n j : Nat) (acc : Int32), j ≤ 40 → d = min (ix (mI R 39 71)) (i + ix q + 1) - j → d < n → House_widest_L7 n 30 (Int32.ofNat i) q acc (Int32.ofNat j) C = some (wdA (mI R 91) i d j acc, C) := by
  have hc := h.isc.closes
  have b24 : ix (mI R 39 71) ≤ 24 := by grind [ix_t]
  have bq : ix q ≤ 10 := by grind [ix_t]
  have ei0 : (0 : Int32) ≤ Int32.ofNat i := of_nn i (by omega)
  have ei1 : ix (Int32.ofNat i) = i := ix_of i (by omega)
  intro d
  induction d with
  | zero =>
    intro n j acc hj hd hn
    obtain ⟨n, rfl⟩ : ∃ x, n = x + 1 := ⟨n - 1, by omega⟩
    show House_widest_B7 _ _ _ _ _ _ _ = _
    unfold House_widest_B7
    rw [h.o30, ck_t, h.l30_2]
    by_cases e : mI R 39 71 ≤ Int32.ofNat j
    · rw [if_pos e]; rfl
    · rw [if_neg e, if_pos]
      · rfl
      · have e3 : j < ix (mI R 39 71) := by grind [ix_t, of_t]
        have e4 : i + ix q < j := by omega
        grind [ix_t, of_t]
  | succ d ih =>
    intro n j acc hj hd hn
    obtain ⟨n, rfl⟩ : ∃ x, n = x + 1 := ⟨n - 1, by omega⟩
    have e3 : j < ix (mI R 39 71) := by omega
    have e4 : ¬ i + ix q < j := by omega
    have e : ¬ mI R 39 71 ≤ Int32.ofNat j := by grind [ix_t, of_t]
    have e2 : ¬ Int32.ofNat i + q < Int32.ofNat j := by grind [ix_t, of_t]
    have e0 : (0 : Int32) ≤ Int32.ofNat j := of_nn j (by omega)
    have e1 : ix (Int32.ofNat j) = j := ix_of j (by omega)
    show House_widest_B7 _ _ _ _ _ _ _ = _
    unfold House_widest_B7
    simp only [h.o30, ck_t, h.l30_2, if_neg e, if_neg e2, h.sc.r30_0, nn_s, kA_t h.sc.k31 e0 (show ix (Int32.ofNat j) < 24 by rw [e1]; omega), kA_t h.sc.k31 ei0 (show ix (Int32.ofNat i) < 24 by rw [ei1]; omega), e1, ei1, ev_abs, ev_max, bd_s, h.la31, of_s1 j (by omega)]
    exact ih n (j + 1) _ (by omega) (by omega) (by omega)
theorem ab_sw (h : Rel k ad C R) {i j : Nat} (hi : i < 24) (hj : j < 24) : abI (mI R 91 i - mI R 91 j) = abI (mI R 91 j - mI R 91 i) := by
  have h1 := h.ipe.2.2.2.2.1 i hi
  have h2 := h.ipe.2.2.2.2.1 j hj
  have e : mI R 91 j - mI R 91 i = -(mI R 91 i - mI R 91 j) := Int32.neg_sub.symm
  rw [e]
  have h3 : -9999 ≤ mI R 91 i - mI R 91 j ∧ mI R 91 i - mI R 91 j ≤ 9999 := by grind
  generalize mI R 91 i - mI R 91 j = x at h3
  unfold abI
  by_cases h0 : 0 ≤ x
  · rw [if_pos h0]
    by_cases h4 : x = 0
    · subst h4; rfl
    · rw [if_neg (by grind)]
      exact (Int32.neg_neg).symm
  · rw [if_neg h0, if_pos (by grind)]
theorem lp_mleast (h : Rel k ad C R) (i : Nat) (q : Int32) (hq : 1 ≤ q ∧ q ≤ 10) (hi : i < ix (mI R 39 71)) (k24 : Nat → Int32 → Int32 → Int32 → Mm → Option (Int32 × Mm)) : ∀ (d n j : Nat) (acc : Int32), j ≤ 40 → d = min (ix (mI R 39 71)) (i + ix q + 1) - j → d < n → Mod_least_L37 k24 n 39 q acc (Int32.ofNat i) (Int32.ofNat j) R = k24 39 q (wdA (mI R 91) i d j acc) (Int32.ofNat (i + 1)) R := by
  have hc := h.isc.closes
  have b24 : ix (mI R 39 71) ≤ 24 := by grind [ix_t]
  have bq : ix q ≤ 10 := by grind [ix_t]
  have ei0 : (0 : Int32) ≤ Int32.ofNat i := of_nn i (by omega)
  have ei1 : ix (Int32.ofNat i) = i := ix_of i (by omega)
  intro d
  induction d with
  | zero =>
    intro n j acc hj hd hn
    obtain ⟨n, rfl⟩ : ∃ x, n = x + 1 := ⟨n - 1, by omega⟩
    show Mod_least_B37 _ _ _ _ _ _ _ _ = _
    unfold Mod_least_B37
    have hJ : Mod_least_J82 k24 39 q acc (Int32.ofNat i) R = k24 39 q acc (Int32.ofNat (i + 1)) R := by
      unfold Mod_least_J82
      rw [of_s1 i (by omega)]
    rw [h.o39, ck_t]
    by_cases e : mI R 39 71 ≤ Int32.ofNat j
    · rw [if_pos e]; exact hJ
    · rw [if_neg e, if_pos]
      · exact hJ
      · have e3 : j < ix (mI R 39 71) := by grind [ix_t, of_t]
        have e4 : i + ix q < j := by omega
        grind [ix_t, of_t]
  | succ d ih =>
    intro n j acc hj hd hn
    obtain ⟨n, rfl⟩ : ∃ x, n = x + 1 := ⟨n - 1, by omega⟩
    have e3 : j < ix (mI R 39 71) := by omega
    have e4 : ¬ i + ix q < j := by omega
    have e : ¬ mI R 39 71 ≤ Int32.ofNat j := by grind [ix_t, of_t]
    have e2 : ¬ Int32.ofNat i + q < Int32.ofNat j := by grind [ix_t, of_t]
    have e0 : (0 : Int32) ≤ Int32.ofNat j := of_nn j (by omega)
    have e1 : ix (Int32.ofNat j) = j := ix_of j (by omega)
    show Mod_least_B37 _ _ _ _ _ _ _ _ = _
    unfold Mod_least_B37
    simp only [h.o39, ck_t, if_neg e, if_neg e2, h.sr.r39_82, nn_s, kA_t h.sr.k91 e0 (show ix (Int32.ofNat j) < 24 by rw [e1]; omega), kA_t h.sr.k91 ei0 (show ix (Int32.ofNat i) < 24 by rw [ei1]; omega), e1, ei1, ev_mabs, ev_mmax, bd_s, of_s1 j (by omega), ab_sw h (show i < 24 by omega) (show j < 24 by omega)]
    exact ih n (j + 1) _ (by omega) (by omega) (by omega)
theorem lp_least (h : Rel k ad C R) (q : Int32) (hq : 1 ≤ q ∧ q ≤ 10) : ∀ (d n m i : Nat) (acc : Int32), 0 ≤ acc → i + d = ix (mI R 39 71) → d < n → d < m → ∃ r, Hall_least_L27 n 8 q acc (Int32.ofNat i) C = some (r, C) ∧ Mod_least_L24 m 39 q acc (Int32.ofNat i) R = some (r, R) := by
  have hc := h.isc.closes
  have b24 : ix (mI R 39 71) ≤ 24 := by grind [ix_t]
  intro d
  induction d with
  | zero =>
    intro n m i acc ha hi hn hm
    obtain ⟨n, rfl⟩ : ∃ x, n = x + 1 := ⟨n - 1, by omega⟩
    obtain ⟨m, rfl⟩ : ∃ x, m = x + 1 := ⟨m - 1, by omega⟩
    have e : mI R 39 71 ≤ Int32.ofNat i := by grind [ix_t, of_t]
    refine ⟨acc, ?_, ?_⟩
    · show Hall_least_B27 _ _ _ _ _ _ = _
      unfold Hall_least_B27
      simp only [h.o8, h.o30, ck_t, h.sc.r8_10, nn_s, h.l30_2, if_pos e]
    · show Mod_least_B24 _ _ _ _ _ _ = _
      unfold Mod_least_B24
      rw [h.o39, ck_t, if_pos e]
  | succ d ih =>
    intro n m i acc ha hi hn hm
    obtain ⟨n, rfl⟩ : ∃ x, n = x + 1 := ⟨n - 1, by omega⟩
    obtain ⟨m, rfl⟩ : ∃ x, m = x + 1 := ⟨m - 1, by omega⟩
    have e : ¬ mI R 39 71 ≤ Int32.ofNat i := by grind [ix_t, of_t]
    have lt : i < ix (mI R 39 71) := by omega
    have em : wdA (mI R 91) i (min (ix (mI R 39 71)) (i + ix q + 1) - (i + 1)) (i + 1) acc = mxI acc (wdA (mI R 91) i (min (ix (mI R 39 71)) (i + ix q + 1) - (i + 1)) (i + 1) 0) := by
      rw [← wdA_mx]
      congr 1
      unfold mxI
      grind
    obtain ⟨r, x1, x2⟩ := ih n m (i + 1) (mxI acc (wdA (mI R 91) i (min (ix (mI R 39 71)) (i + ix q + 1) - (i + 1)) (i + 1) 0)) (by unfold mxI; grind) (by omega) (by omega) (by omega)
    refine ⟨r, ?_, ?_⟩
    · show Hall_least_B27 _ _ _ _ _ _ = _
      unfold Hall_least_B27 House_widest
      simp only [h.o8, h.o30, ck_t, h.sc.r8_10, nn_s, h.l30_2, if_neg e, of_s1 i (by omega), lp_wid h i q hq lt _ fu (i + 1) 0 (by omega) rfl (fu_g (by omega)), bd_s, ev_max]
      exact x1
    · show Mod_least_B24 _ _ _ _ _ _ = _
      unfold Mod_least_B24
      simp only [h.o39, ck_t, if_neg e, of_s1 i (by omega), lp_mleast h i q hq lt _ _ fu (i + 1) acc (by omega) rfl (fu_g (by omega)), em]
      exact x2
theorem sim_least (h : Rel k ad C R) (hk : k < 512) (a : Int32) : Sim k (Hall_least C 8 a) (Mod_least R 39 a) := by
  unfold Hall_least Mod_least
  have hc := h.isc.closes
  have b24 : ix (mI R 39 71) ≤ 24 := by grind [ix_t]
  simp only [ev_within, ev_in, bd_s, h.o8, h.o30, h.o39, ck_t, h.sc.r8_10, nn_s, h.l30_2]
  by_cases h1 : 1 ≤ a ∧ a ≤ 10
  · simp only [if_pos h1, i10, if_false]
    refine Sim.ite (fun h2 => ?_) (fun _ => ⟨_, _, _, ad, rfl, rfl, h.up hk⟩)
    obtain ⟨r, x1, x2⟩ := lp_least h a h1 (ix (mI R 39 71)) fu fu 0 0 (by decide) (by omega) (fu_g (by omega)) (fu_g (by omega))
    exact ⟨r, C, R, ad, x1, x2, h.up hk⟩
  · simp only [if_neg h1, if_true]
    exact ⟨_, _, _, ad, rfl, rfl, h.up hk⟩
theorem lp_mjudged (h : Rel k ad C R) (i : Nat) (mg q cn : Int32) (hq : 1 ≤ q ∧ q ≤ 10) (hi : i < ix (mI R 39 71)) (k28 : Nat → Int32 → Int32 → Int32 → Int32 → Mm → Option (Int32 × Mm)) : ∀ (d n j : Nat) (acc : Int32), j ≤ 40 → d = min (ix (mI R 39 71)) (i + ix q + 1) - j → d < n → Mod_judged_L46 k28 n 39 mg q cn (Int32.ofNat i) (if acc ≤ mg then 0 else 1) (Int32.ofNat j) R = k28 39 mg q (if wdA (mI R 91) i d j acc ≤ mg then cn else cn + 1) (Int32.ofNat (i + 1)) R := by
  have hc := h.isc.closes
  have b24 : ix (mI R 39 71) ≤ 24 := by grind [ix_t]
  have bq : ix q ≤ 10 := by grind [ix_t]
  have ei0 : (0 : Int32) ≤ Int32.ofNat i := of_nn i (by omega)
  have ei1 : ix (Int32.ofNat i) = i := ix_of i (by omega)
  intro d
  induction d with
  | zero =>
    intro n j acc hj hd hn
    obtain ⟨n, rfl⟩ : ∃ x, n = x + 1 := ⟨n - 1, by omega⟩
    show Mod_judged_B46 _ _ _ _ _ _ _ _ _ _ = _
    unfold Mod_judged_B46
    have hJ : Mod_judged_J95 k28 39 mg q cn (Int32.ofNat i) (if acc ≤ mg then 0 else 1) R = k28 39 mg q (if acc ≤ mg then cn else cn + 1) (Int32.ofNat (i + 1)) R := by
      unfold Mod_judged_J95 Mod_judged_J103
      rw [of_s1 i (by omega)]
      by_cases e : acc ≤ mg
      · simp only [if_pos e, if_true]
      · simp only [if_neg e, i10, if_false]
    rw [h.o39, ck_t]
    by_cases e : mI R 39 71 ≤ Int32.ofNat j
    · rw [if_pos e]; exact hJ
    · rw [if_neg e, if_pos]
      · exact hJ
      · have e3 : j < ix (mI R 39 71) := by grind [ix_t, of_t]
        have e4 : i + ix q < j := by omega
        grind [ix_t, of_t]
  | succ d ih =>
    intro n j acc hj hd hn
    obtain ⟨n, rfl⟩ : ∃ x, n = x + 1 := ⟨n - 1, by omega⟩
    have e3 : j < ix (mI R 39 71) := by omega
    have e4 : ¬ i + ix q < j := by omega
    have e : ¬ mI R 39 71 ≤ Int32.ofNat j := by grind [ix_t, of_t]
    have e2 : ¬ Int32.ofNat i + q < Int32.ofNat j := by grind [ix_t, of_t]
    have e0 : (0 : Int32) ≤ Int32.ofNat j := of_nn j (by omega)
    have e1 : ix (Int32.ofNat j) = j := ix_of j (by omega)
    show Mod_judged_B46 _ _ _ _ _ _ _ _ _ _ = _
    unfold Mod_judged_B46 Mod_judged_J89
    simp only [h.o39, ck_t, if_neg e, if_neg e2, h.sr.r39_82, nn_s, kA_t h.sr.k91 e0 (show ix (Int32.ofNat j) < 24 by rw [e1]; omega), kA_t h.sr.k91 ei0 (show ix (Int32.ofNat i) < 24 by rw [ei1]; omega), e1, ei1, ev_mabs, bd_s, of_s1 j (by omega), ab_sw h (show i < 24 by omega) (show j < 24 by omega)]
    have y := ih n (j + 1) (mxI acc (abI (mI R 91 j - mI R 91 i))) (by omega) (by omega) (by omega)
    by_cases e5 : abI (mI R 91 j - mI R 91 i) ≤ mg
    · rw [if_pos e5]
      have e6 : (mxI acc (abI (mI R 91 j - mI R 91 i)) ≤ mg) = (acc ≤ mg) := by unfold mxI; grind
      simp only [e6] at y
      exact y
    · rw [if_neg e5]
      have e6 : ¬ mxI acc (abI (mI R 91 j - mI R 91 i)) ≤ mg := by unfold mxI; grind
      simp only [if_neg e6] at y
      exact y
theorem lp_judged (h : Rel k ad C R) (mg q : Int32) (hm : 0 ≤ mg) (hq : 1 ≤ q ∧ q ≤ 10) : ∀ (d n m i : Nat) (cn : Int32), i + d = ix (mI R 39 71) → d < n → d < m → ∃ r, Hall_judged_L27 n 8 mg q cn (Int32.ofNat i) C = some (r, C) ∧ Mod_judged_L28 m 39 mg q cn (Int32.ofNat i) R = some (r, R) := by
  have hc := h.isc.closes
  have b24 : ix (mI R 39 71) ≤ 24 := by grind [ix_t]
  intro d
  induction d with
  | zero =>
    intro n m i acc hi hn hm
    obtain ⟨n, rfl⟩ : ∃ x, n = x + 1 := ⟨n - 1, by omega⟩
    obtain ⟨m, rfl⟩ : ∃ x, m = x + 1 := ⟨m - 1, by omega⟩
    have e : mI R 39 71 ≤ Int32.ofNat i := by grind [ix_t, of_t]
    refine ⟨acc, ?_, ?_⟩
    · show Hall_judged_B27 _ _ _ _ _ _ _ = _
      unfold Hall_judged_B27
      simp only [h.o8, h.o30, ck_t, h.sc.r8_10, nn_s, h.l30_2, if_pos e]
    · show Mod_judged_B28 _ _ _ _ _ _ _ = _
      unfold Mod_judged_B28
      rw [h.o39, ck_t, if_pos e]
  | succ d ih =>
    intro n m i cn hi hn hm2
    obtain ⟨n, rfl⟩ : ∃ x, n = x + 1 := ⟨n - 1, by omega⟩
    obtain ⟨m, rfl⟩ : ∃ x, m = x + 1 := ⟨m - 1, by omega⟩
    have e : ¬ mI R 39 71 ≤ Int32.ofNat i := by grind [ix_t, of_t]
    have lt : i < ix (mI R 39 71) := by omega
    have z := lp_mjudged h i mg q cn hq lt (Mod_judged_L28 m) _ fu (i + 1) 0 (by omega) rfl (fu_g (by omega))
    rw [if_pos hm] at z
    obtain ⟨r, x1, x2⟩ := ih n m (i + 1) (if wdA (mI R 91) i (min (ix (mI R 39 71)) (i + ix q + 1) - (i + 1)) (i + 1) 0 ≤ mg then cn else cn + 1) (by omega) (by omega) (by omega)
    refine ⟨r, ?_, ?_⟩
    · show Hall_judged_B27 _ _ _ _ _ _ _ = _
      unfold Hall_judged_B27 House_widest Hall_judged_J56
      simp only [h.o8, h.o30, ck_t, h.sc.r8_10, nn_s, h.l30_2, if_neg e, of_s1 i (by omega), lp_wid h i q hq lt _ fu (i + 1) 0 (by omega) rfl (fu_g (by omega)), bd_s]
      by_cases e5 : wdA (mI R 91) i (min (ix (mI R 39 71)) (i + ix q + 1) - (i + 1)) (i + 1) 0 ≤ mg
      · rw [if_pos e5] at x1 ⊢
        exact x1
      · rw [if_neg e5] at x1 ⊢
        exact x1
    · show Mod_judged_B28 _ _ _ _ _ _ _ = _
      unfold Mod_judged_B28
      simp only [h.o39, ck_t, if_neg e, of_s1 i (by omega), z]
      exact x2
theorem sim_judged (h : Rel k ad C R) (hk : k < 512) (a b : Int32) : Sim k (Hall_judged C 8 a b) (Mod_judged R 39 a b) := by
  unfold Hall_judged Mod_judged
  have hc := h.isc.closes
  have b24 : ix (mI R 39 71) ≤ 24 := by grind [ix_t]
  simp only [ev_within, ev_in, bd_s]
  by_cases h1 : 0 ≤ a ∧ a ≤ 99999
  · simp only [if_pos h1, i10, if_false]
    by_cases h2 : 1 ≤ b ∧ b ≤ 10
    · simp only [if_pos h2, i10, if_false]
      obtain ⟨r, x1, x2⟩ := lp_judged h a b h1.1 h2 (ix (mI R 39 71)) fu fu 0 0 (by omega) (fu_g (by omega)) (fu_g (by omega))
      exact ⟨r, C, R, ad, x1, x2, h.up hk⟩
    · simp only [if_neg h2, if_true]
      exact ⟨_, _, _, ad, rfl, rfl, h.up hk⟩
  · simp only [if_neg h1, if_true]
    exact ⟨_, _, _, ad, rfl, rfl, h.up hk⟩
end M4
