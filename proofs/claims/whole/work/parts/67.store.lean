section S1
variable {k : Nat} {ad : Nat → Nat → Nat} {C R : Mm}
theorem cnt_s (f : Nat → Int32) (s : Int32) (n : Nat) : cnt f s (n + 1) = cnt f s n + (if f n = s then 1 else 0) := rfl
theorem cnt_le (f : Nat → Int32) (s : Int32) : ∀ n, cnt f s n ≤ n
  | 0 => Nat.le_refl 0
  | n + 1 => by
    have := cnt_le f s n
    rw [cnt_s]
    split <;> omega
theorem cnt_mo (f : Nat → Int32) (s : Int32) : ∀ {n j : Nat}, j ≤ n → cnt f s j ≤ cnt f s n
  | 0, j, h => by rw [show j = 0 by omega]; exact Nat.le_refl _
  | n + 1, j, h => by
    by_cases e : j = n + 1
    · subst e; exact Nat.le_refl _
    · have := cnt_mo f s (n := n) (j := j) (by omega)
      rw [cnt_s]
      omega
theorem cnt_in (f : Nat → Int32) (s : Int32) {n w : Nat} (hw : w < n) (h : f w = s) : cnt f s w < cnt f s n := by
  have h1 := cnt_mo f s (show w + 1 ≤ n by omega)
  rw [cnt_s, if_pos h] at h1
  omega
theorem cnt_ex (f : Nat → Int32) (s : Int32) : ∀ {n i : Nat}, i < cnt f s n → ∃ w, w < n ∧ f w = s ∧ cnt f s w = i
  | 0, i, h => absurd h (Nat.not_lt_zero i)
  | n + 1, i, h => by
    rw [cnt_s] at h
    by_cases e : i < cnt f s n
    · obtain ⟨w, h1, h2⟩ := cnt_ex f s e
      exact ⟨w, by omega, h2⟩
    · split at h
      · rename_i q
        exact ⟨n, by omega, q, by omega⟩
      · omega
theorem i60a (h : Rel k ad C R) : ix (mI R 39 23) ≤ 60 ∧ ix (mI R 39 24) ≤ 60 := by
  have h1 := h.isc.issues
  have h2 := h.isc.waits
  grind [ix_t]
theorem lp_over (h : Rel k ad C R) {s : Nat} (hs : s < ix (mI R 39 22)) (q : Int32) : ∀ (d n m u : Nat) (acc : Int32), u + d = ix (mI R 39 23) → d < n → d < m → ∃ r, Store_overAsKnown_L4 n (ad 4 s) q acc (Int32.ofNat (cnt (mI R 59) (Int32.ofNat s) u)) C = some (r, C) ∧ Mod_over_L27 m 39 (Int32.ofNat s) q acc (Int32.ofNat u) R = some (r, R) := by
  have h4 := sto4 h
  have h60 := (i60a h).1
  have hi := h.isc.issues
  have sh := h.shs s hs
  have s0 : (0 : Int32) ≤ Int32.ofNat s := of_nn s (by omega)
  have s2 : ix (Int32.ofNat s) = s := ix_of s (by omega)
  obtain ⟨q1, q2, -⟩ := h.qs s hs
  intro d
  induction d with
  | zero =>
    intro n m u acc hu hn hm
    obtain ⟨n, rfl⟩ : ∃ x, n = x + 1 := ⟨n - 1, by omega⟩
    obtain ⟨m, rfl⟩ : ∃ x, m = x + 1 := ⟨m - 1, by omega⟩
    have e : mI R 39 23 ≤ Int32.ofNat u := by grind [ix_t, of_t]
    have eu : u = ix (mI R 39 23) := by omega
    refine ⟨mxI 0 (acc - mI R 56 s - mI R 57 s - mI R 54 s), ?_, ?_⟩
    · show Store_overAsKnown_B4 _ _ _ _ _ _ = _
      unfold Store_overAsKnown_B4
      rw [kO_t sh.2.1, ck_t, q1, ← eu, if_pos (show Int32.ofNat (cnt (mI R 59) (Int32.ofNat s) u) ≤ Int32.ofNat (cnt (mI R 59) (Int32.ofNat s) u) by grind), ev_max, bd_s, h.ls11 hs, h.ls13 hs, h.ls8 hs]
    · show Mod_over_B27 _ _ _ _ _ _ _ = _
      unfold Mod_over_B27
      simp only [h.o39, ck_t, if_pos e, h.sr.r39_25, h.sr.r39_27, h.sr.r39_28, nn_s, kA_t h.sr.k54 s0 (show ix (Int32.ofNat s) < 4 by omega), kA_t h.sr.k56 s0 (show ix (Int32.ofNat s) < 4 by omega), kA_t h.sr.k57 s0 (show ix (Int32.ofNat s) < 4 by omega), s2, ev_mmax, bd_s]
  | succ d ih =>
    intro n m u acc hu hn hm
    obtain ⟨n, rfl⟩ : ∃ x, n = x + 1 := ⟨n - 1, by omega⟩
    obtain ⟨m, rfl⟩ : ∃ x, m = x + 1 := ⟨m - 1, by omega⟩
    have e : ¬ mI R 39 23 ≤ Int32.ofNat u := by grind [ix_t, of_t]
    have e0 : (0 : Int32) ≤ Int32.ofNat u := of_nn u (by omega)
    have e1 : ix (Int32.ofNat u) = u := ix_of u (by omega)
    have ih' := fun n hn acc => ih n m (u + 1) acc (by omega) hn (by omega)
    rw [cnt_s] at ih'
    show ∃ r, _ ∧ Mod_over_B27 (Mod_over_L27 m) 39 (Int32.ofNat s) q acc (Int32.ofNat u) R = some (r, R)
    unfold Mod_over_B27 Mod_over_J68
    simp only [h.o39, ck_t, if_neg e, h.sr.r39_30, h.sr.r39_31, h.sr.r39_32, nn_s, kA_t h.sr.k59 e0 (show ix (Int32.ofNat u) < 60 by omega), kA_t h.sr.k60 e0 (show ix (Int32.ofNat u) < 60 by omega), kA_t h.sr.k61 e0 (show ix (Int32.ofNat u) < 60 by omega), e1, of_s1 u (by omega)]
    by_cases c1 : mI R 59 u = Int32.ofNat s
    · rw [if_pos c1] at ih' ⊢
      have lt := cnt_in (mI R 59) (Int32.ofNat s) (show u < ix (mI R 39 23) by omega) c1
      have cl := cnt_le (mI R 59) (Int32.ofNat s) (ix (mI R 39 23))
      obtain ⟨z1, z2⟩ := q2 u (by omega) c1
      have c0 : (0 : Int32) ≤ Int32.ofNat (cnt (mI R 59) (Int32.ofNat s) u) := of_nn _ (by omega)
      have c2 : ix (Int32.ofNat (cnt (mI R 59) (Int32.ofNat s) u)) = cnt (mI R 59) (Int32.ofNat s) u := ix_of _ (by omega)
      show ∃ r, Store_overAsKnown_B4 (Store_overAsKnown_L4 n) (ad 4 s) q acc (Int32.ofNat (cnt (mI R 59) (Int32.ofNat s) u)) C = some (r, C) ∧ _
      unfold Store_overAsKnown_B4 Store_overAsKnown_J31
      rw [kO_t sh.2.1, ck_t, q1, if_neg (fun w => by have := (of_le _ _ (by omega) (by omega)).mp w; omega)]
      simp only [sh.2.2.1, sh.2.2.2.1, nn_s, kA_t sh.2.2.2.2.2.2.2.1 c0 (show ix (Int32.ofNat (cnt (mI R 59) (Int32.ofNat s) u)) < 60 by omega), kA_t sh.2.2.2.2.2.2.2.2.1 c0 (show ix (Int32.ofNat (cnt (mI R 59) (Int32.ofNat s) u)) < 60 by omega), ck_t, c2, z1, z2, of_s1 (cnt (mI R 59) (Int32.ofNat s) u) (by omega)]
      by_cases c3 : q < mI R 61 u
      · rw [if_pos c3, if_pos c3]
        exact ih' n (by omega) acc
      · rw [if_neg c3, if_neg c3]
        exact ih' n (by omega) _
    · rw [if_neg c1] at ih' ⊢
      exact ih' (n + 1) (by omega) acc
theorem sim_over (h : Rel k ad C R) (hk : k < 512) (a b : Int32) : Sim k (Hall_over C 8 a b) (Mod_over R 39 a b) := by
  unfold Hall_over Mod_over
  have s1 : ∀ r : Int32, Sim k (some (r, C)) (some (r, R)) := fun r => ⟨_, _, _, ad, rfl, rfl, h.up hk⟩
  have h4 := sto4 h
  simp only [h.o8, h.o39, ck_t, ev_isS h, ev_mS h, bd_s, ev_within, ev_in, h.l8_16]
  by_cases h1 : 0 ≤ a ∧ a < mI R 39 22
  · simp only [if_pos h1, i10, if_false, h.o8, h.o39, ck_t]
    by_cases h2 : 0 ≤ b ∧ b ≤ mI R 39 0
    · have hi := ix_mo h1.1 h1.2
      have sh := h.shs (ix a) hi
      obtain ⟨r, y1, y2⟩ := lp_over h hi b (ix (mI R 39 23)) fu fu 0 0 (by omega) (fu_g (by have := (i60a h).1; omega)) (fu_g (by have := (i60a h).1; omega))
      rw [of_ix _ h1.1] at y2
      have y1' : Store_overAsKnown C (ad 4 (ix a)) b = some (r, C) := y1
      have y2' : Mod_over_L27 fu 39 a b 0 0 R = some (r, R) := y2
      simp only [if_pos h2, i10, if_false, h.o8, ck_t, h.sc.r8_3, nn_s, kA_t h.sc.k17 h1.1 (show ix a < 4 by omega), sh.1, kO_t sh.2.1, y1', bd_s, y2']
      exact s1 _
    · simp only [if_neg h2, if_true]
      exact s1 _
  · simp only [if_neg h1, if_true]
    exact s1 _
/-! the first that waits -/
theorem lp_fw (h : Rel k ad C R) (s : Nat) : ∀ (d m w : Nat), w + d = ix (mI R 39 24) → d < m → (∀ w', w' < w → mI R 62 w' = Int32.ofNat s → mI R 64 w' = 0) → ∃ r, Mod_firstWait_L2 m 39 (Int32.ofNat s) (Int32.ofNat w) R = some (r, R) ∧ ((r = -1 ∧ ∀ w', w' < ix (mI R 39 24) → mI R 62 w' = Int32.ofNat s → mI R 64 w' = 0) ∨ ∃ w0, w0 < ix (mI R 39 24) ∧ r = Int32.ofNat w0 ∧ mI R 62 w0 = Int32.ofNat s ∧ mI R 64 w0 ≠ 0 ∧ ∀ w', w' < w0 → mI R 62 w' = Int32.ofNat s → mI R 64 w' = 0) := by
  have h60 := (i60a h).2
  have hw := h.isc.waits
  intro d
  induction d with
  | zero =>
    intro m w hw' hm hz
    obtain ⟨m, rfl⟩ : ∃ x, m = x + 1 := ⟨m - 1, by omega⟩
    have e : mI R 39 24 ≤ Int32.ofNat w := by grind [ix_t, of_t]
    refine ⟨-1, ?_, Or.inl ⟨rfl, fun w' p => hz w' (by omega)⟩⟩
    show Mod_firstWait_B2 _ _ _ _ _ = _
    unfold Mod_firstWait_B2
    rw [h.o39, ck_t, if_pos e]
  | succ d ih =>
    intro m w hw' hm hz
    obtain ⟨m, rfl⟩ : ∃ x, m = x + 1 := ⟨m - 1, by omega⟩
    have e : ¬ mI R 39 24 ≤ Int32.ofNat w := by grind [ix_t, of_t]
    have e0 : (0 : Int32) ≤ Int32.ofNat w := of_nn w (by omega)
    have e1 : ix (Int32.ofNat w) = w := ix_of w (by omega)
    have b := (h.ist.2.2.1 w (by omega)).2.2.1
    show ∃ r, Mod_firstWait_B2 (Mod_firstWait_L2 m) 39 (Int32.ofNat s) (Int32.ofNat w) R = some (r, R) ∧ _
    unfold Mod_firstWait_B2 Mod_firstWait_J31
    simp only [h.o39, ck_t, if_neg e, h.sr.r39_33, h.sr.r39_35, nn_s, kA_t h.sr.k62 e0 (show ix (Int32.ofNat w) < 60 by omega), kA_t h.sr.k64 e0 (show ix (Int32.ofNat w) < 60 by omega), e1, of_s1 w (by omega)]
    by_cases c1 : mI R 62 w = Int32.ofNat s
    · rw [if_pos c1]
      by_cases c2 : mI R 64 w ≤ 0
      · rw [if_pos c2]
        exact ih m (w + 1) (by omega) (by omega) (fun w' p q => by
          by_cases e : w' = w
          · rw [e]; grind
          · exact hz w' (by omega) q)
      · rw [if_neg c2]
        exact ⟨_, rfl, Or.inr ⟨w, by omega, rfl, c1, by grind, hz⟩⟩
    · rw [if_neg c1]
      exact ih m (w + 1) (by omega) (by omega) (fun w' p q => by
        by_cases e : w' = w
        · rw [e] at q; exact absurd q c1
        · exact hz w' (by omega) q)
/-- where the class's queue stands -/
theorem fw_at (h : Rel k ad C R) {s : Nat} (hs : s < ix (mI R 39 22)) {r : Int32} (hr : (r = -1 ∧ ∀ w', w' < ix (mI R 39 24) → mI R 62 w' = Int32.ofNat s → mI R 64 w' = 0) ∨ ∃ w0, w0 < ix (mI R 39 24) ∧ r = Int32.ofNat w0 ∧ mI R 62 w0 = Int32.ofNat s ∧ mI R 64 w0 ≠ 0 ∧ ∀ w', w' < w0 → mI R 62 w' = Int32.ofNat s → mI R 64 w' = 0) : (r = -1 ∧ mI C (ad 4 s) 7 ≤ mI C (ad 4 s) 6) ∨ ∃ w0, w0 < ix (mI R 39 24) ∧ r = Int32.ofNat w0 ∧ mI R 62 w0 = Int32.ofNat s ∧ ix (mI C (ad 4 s) 6) = cnt (mI R 62) (Int32.ofNat s) w0 ∧ ¬ mI C (ad 4 s) 7 ≤ mI C (ad 4 s) 6 := by
  obtain ⟨-, -, q3, q4, q5, q6, -⟩ := h.qs s hs
  have h60 := (i60a h).2
  have cl := cnt_le (mI R 62) (Int32.ofNat s) (ix (mI R 39 24))
  rcases hr with ⟨r1, r2⟩ | ⟨w0, r1, r2, r3, r4, r5⟩
  · refine Or.inl ⟨r1, ?_⟩
    apply Classical.byContradiction
    intro w
    have lt : ix (mI C (ad 4 s) 6) < cnt (mI R 62) (Int32.ofNat s) (ix (mI R 39 24)) := by grind [ix_t, of_t]
    obtain ⟨w', y1, y2, y3⟩ := cnt_ex _ _ lt
    have := (q6 w' y1 y2).mp (r2 w' y1 y2)
    omega
  · have lt := cnt_in (mI R 62) (Int32.ofNat s) r1 r3
    have e : ix (mI C (ad 4 s) 6) = cnt (mI R 62) (Int32.ofNat s) w0 := by
      have n1 : ¬ cnt (mI R 62) (Int32.ofNat s) w0 < ix (mI C (ad 4 s) 6) := fun w => r4 ((q6 w0 r1 r3).mpr w)
      apply Classical.byContradiction
      intro w
      have lt2 : ix (mI C (ad 4 s) 6) < cnt (mI R 62) (Int32.ofNat s) w0 := by omega
      obtain ⟨w', y1, y2, y3⟩ := cnt_ex _ _ lt2
      have := (q6 w' (by omega) y2).mp (r5 w' y1 y2)
      omega
    refine Or.inr ⟨w0, r1, r2, r3, e, ?_⟩
    grind [ix_t, of_t]
theorem lp_wsum (h : Rel k ad C R) {s : Nat} (hs : s < 4) : ∀ (d m w : Nat) (acc : Int32), w + d = ix (mI R 39 24) → d < m → acc.toInt = sumTo (fun w => if mI R 62 w = Int32.ofNat s then (mI R 64 w).toInt else 0) w → ∃ r, Mod_storeOf_L83 m 39 (Int32.ofNat s) acc (Int32.ofNat w) R = some (r, R) ∧ r.toInt = sumW R s := by
  have h60 := (i60a h).2
  have hw := h.isc.waits
  obtain ⟨p1, p2, p3, p4, p5, p6, -⟩ := h.st_b hs
  have nn : ∀ w, w < ix (mI R 39 24) → 0 ≤ (if mI R 62 w = Int32.ofNat s then (mI R 64 w).toInt else 0) := fun w hw' => by
    have := (h.ist.2.2.1 w hw').2.2.1
    rw [I_le, i0T] at this
    split
    · exact this
    · exact Int.le_refl 0
  intro d
  induction d with
  | zero =>
    intro m w acc hw' hm ha
    obtain ⟨m, rfl⟩ : ∃ x, m = x + 1 := ⟨m - 1, by omega⟩
    have e : mI R 39 24 ≤ Int32.ofNat w := by grind [ix_t, of_t]
    refine ⟨acc, ?_, ?_⟩
    · show Mod_storeOf_B83 _ _ _ _ _ _ = _
      unfold Mod_storeOf_B83
      rw [h.o39, ck_t, if_pos e]
    · rw [ha, show w = ix (mI R 39 24) by omega]; rfl
  | succ d ih =>
    intro m w acc hw' hm ha
    obtain ⟨m, rfl⟩ : ∃ x, m = x + 1 := ⟨m - 1, by omega⟩
    have e : ¬ mI R 39 24 ≤ Int32.ofNat w := by grind [ix_t, of_t]
    have e0 : (0 : Int32) ≤ Int32.ofNat w := of_nn w (by omega)
    have e1 : ix (Int32.ofNat w) = w := ix_of w (by omega)
    have t1 := sumTo_le (f := fun w => if mI R 62 w = Int32.ofNat s then (mI R 64 w).toInt else 0) (i := w) (n := ix (mI R 39 24)) (by omega) nn
    have t1 : (if mI R 62 w = Int32.ofNat s then (mI R 64 w).toInt else 0) ≤ sumW R s := t1
    have t2 : 0 ≤ sumTo (fun w => if mI R 62 w = Int32.ofNat s then (mI R 64 w).toInt else 0) w := sumTo_nn (fun j hj => nn j (by omega))
    have t3 := nn w (by omega)
    have t4 : sumTo (fun w => if mI R 62 w = Int32.ofNat s then (mI R 64 w).toInt else 0) w ≤ sumW R s := by
      have : ∀ n, w ≤ n → n ≤ ix (mI R 39 24) → sumTo (fun w => if mI R 62 w = Int32.ofNat s then (mI R 64 w).toInt else 0) w ≤ sumTo (fun w => if mI R 62 w = Int32.ofNat s then (mI R 64 w).toInt else 0) n := by
        intro n
        induction n with
        | zero => intro a b; rw [show w = 0 by omega]; exact Int.le_refl _
        | succ n ihn =>
          intro a b
          by_cases c : w = n + 1
          · rw [c]; exact Int.le_refl _
          · have z1 := ihn (by omega) (by omega)
            have z2 := nn n (by omega)
            show _ ≤ sumTo _ n + (if mI R 62 n = Int32.ofNat s then (mI R 64 n).toInt else 0)
            omega
      exact this _ (by omega) (Nat.le_refl _)
    show ∃ r, Mod_storeOf_B83 (Mod_storeOf_L83 m) 39 (Int32.ofNat s) acc (Int32.ofNat w) R = some (r, R) ∧ _
    unfold Mod_storeOf_B83 Mod_storeOf_J115
    simp only [h.o39, ck_t, if_neg e, h.sr.r39_33, h.sr.r39_35, nn_s, kA_t h.sr.k62 e0 (show ix (Int32.ofNat w) < 60 by omega), kA_t h.sr.k64 e0 (show ix (Int32.ofNat w) < 60 by omega), e1, of_s1 w (by omega)]
    by_cases c1 : mI R 62 w = Int32.ofNat s
    · rw [if_pos c1]
      rw [if_pos c1] at t1 t3
      refine ih m (w + 1) _ (by omega) (by omega) ?_
      show _ = sumTo _ w + (if mI R 62 w = Int32.ofNat s then (mI R 64 w).toInt else 0)
      rw [if_pos c1, I_add _ _ (by omega) (by omega) (by omega) (by omega), ha]
    · rw [if_neg c1]
      refine ih m (w + 1) _ (by omega) (by omega) ?_
      show _ = sumTo _ w + (if mI R 62 w = Int32.ofNat s then (mI R 64 w).toInt else 0)
      rw [if_neg c1, ha]
      omega
theorem L_div (a c : Int64) (ha : 0 ≤ a.toInt) (hc : 0 < c.toInt) : (a / c).toInt = a.toInt / c.toInt := by
  rw [Int64.toInt_div, Int.tdiv_eq_ediv_of_nonneg ha, Int.bmod_def]
  have h1 : a.toInt / c.toInt ≤ a.toInt := Int.ediv_le_self _ ha
  have h2 : 0 ≤ a.toInt / c.toInt := Int.ediv_nonneg ha (by omega)
  have h3 := Int64.toInt_lt a
  split <;> omega
theorem LI {x : Int64} {y : Int32} (h : x.toInt = y.toInt) : Int64.toInt32 x = y := by
  apply I_eq
  rw [Int64.toInt_toInt32, h]
  have h1 := Int32.toInt_lt y
  have h2 := Int32.le_toInt y
  rw [Int.bmod_def]
  split <;> omega
/-- the share of a store -/
def shR (R : Mm) (s : Nat) : Int32 := if outR R s = 0 then 100 else (if mI R 54 s * 100 / outR R s < 100 then mI R 54 s * 100 / outR R s else 100)
theorem ev_share (h : Rel k ad C R) {s : Nat} (hs : s < ix (mI R 39 22)) : Store_share C (ad 4 s) = some (shR R s, C) := by
  have h4 := sto4 h
  have o1 := outR_t h (show s < 4 by omega)
  obtain ⟨p1, p2, -⟩ := h.st_b (show s < 4 by omega)
  have sh := h.shs s hs
  unfold Store_share shR
  rw [kO_t sh.2.1, ck_t, ev_out h hs, bd_s]
  by_cases c : outR R s = 0
  · rw [if_pos c, if_neg (by rw [c]; decide)]
  · have : 0 < outR R s := by
      rw [I_lt, i0T]
      have : (outR R s).toInt ≠ 0 := fun q => c (I_eq (by rw [q]; rfl))
      omega
    rw [if_neg c, if_pos this, kO_t sh.2.1, ck_t, show (!decide (outR R s = 0)) = true by simp [c], ck_t, ev_min, bd_s, h.ls8 hs]
theorem ev_mshare (h : Rel k ad C R) {s : Nat} (hs : s < 4) : Mod_shareOf R 39 (Int32.ofNat s) = some (shR R s, R) := by
  have s0 : (0 : Int32) ≤ Int32.ofNat s := of_nn s (by omega)
  have s2 : ix (Int32.ofNat s) = s := ix_of s (by omega)
  have o1 := outR_t h hs
  obtain ⟨p1, p2, p3, p4, p5, p6, p7, p8⟩ := h.st_b hs
  unfold Mod_shareOf shR
  rw [h.o39, ck_t, ev_mout h hs, bd_s]
  by_cases c : outR R s = 0
  · rw [if_pos c, if_pos c]
  · have n0 : (outR R s).toInt ≠ 0 := fun q => c (I_eq (by rw [q]; rfl))
    have nz : ¬ Int32.toInt64 (outR R s) = 0 := by
      intro q
      have : (Int32.toInt64 (outR R s)).toInt = 0 := by rw [q]; rfl
      rw [T_L] at this
      exact n0 this
    rw [if_neg c, if_neg c, h.o39, ck_t, h.sr.r39_25, nn_s, kA_t h.sr.k54 s0 (by omega), ck_t, ev_mout h hs, bd_s, show (!decide (Int32.toInt64 (outR R s) = 0)) = true by simp [nz], ck_t, ev_mmin, bd_s, s2]
    have e : Int64.toInt32 (Int32.toInt64 (mI R 54 s) * 100 / Int32.toInt64 (outR R s)) = mI R 54 s * 100 / outR R s := by
      apply LI
      have t100 : (100 : Int32).toInt = 100 := rfl
      have t100' : (100 : Int64).toInt = 100 := rfl
      have m1 : (Int32.toInt64 (mI R 54 s) * 100).toInt = (mI R 54 s).toInt * 100 := by rw [L_mul _ _ (by rw [T_L, t100']; omega) (by rw [T_L, t100']; omega), T_L, t100']
      have m2 : (mI R 54 s * 100).toInt = (mI R 54 s).toInt * 100 := by rw [I_mul _ _ (by rw [t100]; omega) (by rw [t100]; omega), t100]
      rw [L_div _ _ (by omega) (by rw [T_L]; omega), I_div _ _ (by omega) (by omega), m1, m2, T_L]
    rw [e]
theorem sim_storeOf (h : Rel k ad C R) (hk : k < 512) (a b : Int32) : Sim k (Hall_storeOf C 8 a b) (Mod_storeOf R 39 a b) := by
  unfold Hall_storeOf Mod_storeOf
  have s1 : ∀ r : Int32, Sim k (some (r, C)) (some (r, R)) := fun r => ⟨_, _, _, ad, rfl, rfl, h.up hk⟩
  have h4 := sto4 h
  have h60 := (i60a h).2
  simp only [h.o8, h.o39, ck_t, ev_isS h, ev_mS h, bd_s]
  by_cases h1 : 0 ≤ a ∧ a < mI R 39 22
  · have hi := ix_mo h1.1 h1.2
    have sh := h.shs (ix a) hi
    have ea : a = Int32.ofNat (ix a) := (of_ix _ h1.1).symm
    obtain ⟨r, r1, r2⟩ := lp_fw h (ix a) (ix (mI R 39 24)) fu 0 (by omega) (fu_g (by omega)) (fun w' p => absurd p (by omega))
    have fa := fw_at h hi r2
    rw [← ea] at r1
    have r1' : Mod_firstWait R 39 a = some (r, R) := r1
    have mo := ev_mout h (show ix a < 4 by omega)
    have ms := ev_mshare h (show ix a < 4 by omega)
    rw [← ea] at mo ms
    obtain ⟨rs, rs1, rs2⟩ := lp_wsum h (show ix a < 4 by omega) (ix (mI R 39 24)) fu 0 0 (by omega) (fu_g (by omega)) rfl
    rw [← ea] at rs1
    have rs1' : Mod_storeOf_L83 fu 39 a 0 0 R = some (rs, R) := rs1
    obtain ⟨-, -, q3, q4, q5, q6, q7, q8⟩ := h.qs (ix a) hi
    have e10 : mI C (ad 4 (ix a)) 10 = rs := I_eq (by rw [q8, rs2])
    simp only [if_pos h1, i10, if_false, h.o8, h.o39, ck_t, h.sc.r8_3, nn_s, kA_t h.sc.k17 h1.1 (show ix a < 4 by omega), sh.1, kO_t sh.2.1, r1', bd_s, h.ls8 hi, ev_out h hi, mo, e10, rs1', h.ls11 hi, h.ls12 hi, ev_share h hi, ms, h.sr.r39_25, h.sr.r39_27, h.sr.r39_29, h.sr.r39_34, h.sr.r39_36, kA_t h.sr.k54 h1.1 (show ix a < 4 by omega), kA_t h.sr.k56 h1.1 (show ix a < 4 by omega), kA_t h.sr.k58 h1.1 (show ix a < 4 by omega), h.l8_16]
    iterate 5 refine Sim.ite (fun _ => s1 _) (fun _ => ?_)
    refine Sim.ite (fun _ => ?_) (fun _ => ?_)
    · unfold Store_cannot
      rw [kO_t sh.2.1, ck_t]
      rcases fa with ⟨f1, f2⟩ | ⟨w0, f1, f2, f3, f4, f5⟩
      · rw [if_pos f2, bd_s, if_pos rfl, f1, if_pos (by decide)]
        exact s1 _
      · have w1 : (0 : Int32) ≤ Int32.ofNat w0 := of_nn w0 (by omega)
        have w2 : ix (Int32.ofNat w0) = w0 := ix_of w0 (by omega)
        have cl := cnt_in (mI R 62) (Int32.ofNat (ix a)) f1 f3
        have cl2 := cnt_le (mI R 62) (Int32.ofNat (ix a)) (ix (mI R 39 24))
        rw [if_neg f5, sh.2.2.2.2.2.2.1, nn_s, kA_t sh.2.2.2.2.2.2.2.2.2.2.2 q5.1 (by omega), ck_t, f4, (q4 w0 f1 f3).2.2, f2, if_neg (show ¬ Int32.ofNat w0 < 0 by grind), kA_t h.sr.k65 w1 (by omega), ck_t, w2]
        by_cases c : mI R 39 0 - mI R 65 w0 < 2880
        · rw [if_pos c, if_pos c, bd_s, if_pos rfl]; exact s1 _
        · rw [if_neg c, if_neg c, bd_s, if_neg (by decide)]; exact s1 _
    · refine Sim.ite (fun _ => ?_) (fun _ => ?_)
      · unfold Store_firstWaiter
        rw [kO_t sh.2.1, ck_t]
        rcases fa with ⟨f1, f2⟩ | ⟨w0, f1, f2, f3, f4, f5⟩
        · rw [if_pos f2, bd_s, f1, if_neg (by decide)]
          exact s1 _
        · have w1 : (0 : Int32) ≤ Int32.ofNat w0 := of_nn w0 (by omega)
          have w2 : ix (Int32.ofNat w0) = w0 := ix_of w0 (by omega)
          have cl := cnt_in (mI R 62) (Int32.ofNat (ix a)) f1 f3
          have cl2 := cnt_le (mI R 62) (Int32.ofNat (ix a)) (ix (mI R 39 24))
          rw [if_neg f5, sh.2.2.2.2.1, nn_s, kA_t sh.2.2.2.2.2.2.2.2.2.1 q5.1 (by omega), ck_t, bd_s, f4, (q4 w0 f1 f3).1, f2, if_pos w1, kA_t h.sr.k63 w1 (by omega), ck_t, w2]
          exact s1 _
      · refine Sim.ite (fun _ => s1 _) (fun _ => s1 _)
  · simp only [if_neg h1, if_true]
    exact s1 _
end S1
