/-! a text of rules: its tokens, as the class reads them -/
section ZK
variable {M : Mm} {f : Nat → Int32} {N : Nat}
abbrev isL (x : Int32) : Prop := 97 ≤ x ∧ x ≤ 122
abbrev isD (x : Int32) : Prop := 48 ≤ x ∧ x ≤ 57
def rnL (f : Nat → Int32) : Nat → Nat → Nat
  | 0, p => p
  | d + 1, p => if isL (f p) then rnL f d (p + 1) else p
def rnG (f : Nat → Int32) : Nat → Nat → Nat
  | 0, p => p
  | d + 1, p => if isD (f p) then rnG f d (p + 1) else p
/-- where a token ends that begins at p -/
def enT (f : Nat → Int32) (N p : Nat) : Nat := if isL (f p) then rnL f (N - (p + 1)) (p + 1) else if isD (f p) then rnG f (N - (p + 1)) (p + 1) else p + 1
theorem rnL_b : ∀ (d p : Nat), p ≤ rnL f d p ∧ rnL f d p ≤ p + d
  | 0, p => ⟨Nat.le_refl _, Nat.le_refl _⟩
  | d + 1, p => by
    show p ≤ (if isL (f p) then rnL f d (p + 1) else p) ∧ (if isL (f p) then rnL f d (p + 1) else p) ≤ p + (d + 1)
    have := rnL_b d (p + 1)
    split <;> omega
theorem rnG_b : ∀ (d p : Nat), p ≤ rnG f d p ∧ rnG f d p ≤ p + d
  | 0, p => ⟨Nat.le_refl _, Nat.le_refl _⟩
  | d + 1, p => by
    show p ≤ (if isD (f p) then rnG f d (p + 1) else p) ∧ (if isD (f p) then rnG f d (p + 1) else p) ≤ p + (d + 1)
    have := rnG_b d (p + 1)
    split <;> omega
theorem enT_b {p : Nat} (hp : p < N) : p + 1 ≤ enT f N p ∧ enT f N p ≤ N := by
  unfold enT
  have a := rnL_b (f := f) (N - (p + 1)) (p + 1)
  have b := rnG_b (f := f) (N - (p + 1)) (p + 1)
  split
  · omega
  · split <;> omega
theorem ev_isL (M : Mm) (x : Int32) : Scribe_isLetter M x = some (if isL x then 1 else 0, M) := by
  unfold Scribe_isLetter
  by_cases h1 : x < 97
  · rw [if_pos h1, if_neg (by grind)]
  · by_cases h2 : 122 < x
    · rw [if_neg h1, if_pos h2, if_neg (by grind)]
    · rw [if_neg h1, if_neg h2, if_pos (by grind)]
theorem ev_isG (M : Mm) (x : Int32) : Scribe_isDigit M x = some (if isD x then 1 else 0, M) := by
  unfold Scribe_isDigit
  by_cases h1 : x < 48
  · rw [if_pos h1, if_neg (by grind)]
  · by_cases h2 : 57 < x
    · rw [if_neg h1, if_pos h2, if_neg (by grind)]
    · rw [if_neg h1, if_neg h2, if_pos (by grind)]
theorem lp_tL (k18 : mK M 18 = (21, 500)) (hN : N ≤ 500) : ∀ (d n p : Nat), p + d = N → d < n → Scribe_tokenEnd_L13 n 18 (Int32.ofNat N) (Int32.ofNat p) M = some (Int32.ofNat (rnL (mI M 18) d p), M) := by
  intro d
  induction d with
  | zero =>
    intro n p hp hn
    obtain ⟨n, rfl⟩ : ∃ x, n = x + 1 := ⟨n - 1, by omega⟩
    show Scribe_tokenEnd_B13 _ _ _ _ _ = _
    unfold Scribe_tokenEnd_B13
    rw [if_pos ((of_le N p (by omega) (by omega)).mpr (by omega))]
    rfl
  | succ d ih =>
    intro n p hp hn
    obtain ⟨n, rfl⟩ : ∃ x, n = x + 1 := ⟨n - 1, by omega⟩
    have P0 : (0 : Int32) ≤ Int32.ofNat p := of_nn _ (by omega)
    have P1 : ix (Int32.ofNat p) = p := ix_of _ (by omega)
    show Scribe_tokenEnd_B13 _ _ _ _ _ = some (Int32.ofNat (if isL (mI M 18 p) then rnL (mI M 18) d (p + 1) else p), M)
    unfold Scribe_tokenEnd_B13
    simp only [if_neg (fun w => by have := (of_le N p (by omega) (by omega)).mp w; omega : ¬ Int32.ofNat N ≤ Int32.ofNat p), kA_t k18 P0 (show ix (Int32.ofNat p) < 500 by omega), ck_t, P1, ev_isL, bd_s, of_s1 p (by omega)]
    by_cases c : isL (mI M 18 p)
    · rw [if_pos c, if_pos c, if_neg (by decide)]
      exact ih n (p + 1) (by omega) (by omega)
    · rw [if_neg c, if_neg c, if_pos rfl]
theorem lp_tG (k18 : mK M 18 = (21, 500)) (hN : N ≤ 500) : ∀ (d n p : Nat), p + d = N → d < n → Scribe_tokenEnd_L42 n 18 (Int32.ofNat N) (Int32.ofNat p) M = some (Int32.ofNat (rnG (mI M 18) d p), M) := by
  intro d
  induction d with
  | zero =>
    intro n p hp hn
    obtain ⟨n, rfl⟩ : ∃ x, n = x + 1 := ⟨n - 1, by omega⟩
    show Scribe_tokenEnd_B42 _ _ _ _ _ = _
    unfold Scribe_tokenEnd_B42
    rw [if_pos ((of_le N p (by omega) (by omega)).mpr (by omega))]
    rfl
  | succ d ih =>
    intro n p hp hn
    obtain ⟨n, rfl⟩ : ∃ x, n = x + 1 := ⟨n - 1, by omega⟩
    have P0 : (0 : Int32) ≤ Int32.ofNat p := of_nn _ (by omega)
    have P1 : ix (Int32.ofNat p) = p := ix_of _ (by omega)
    show Scribe_tokenEnd_B42 _ _ _ _ _ = some (Int32.ofNat (if isD (mI M 18 p) then rnG (mI M 18) d (p + 1) else p), M)
    unfold Scribe_tokenEnd_B42
    simp only [if_neg (fun w => by have := (of_le N p (by omega) (by omega)).mp w; omega : ¬ Int32.ofNat N ≤ Int32.ofNat p), kA_t k18 P0 (show ix (Int32.ofNat p) < 500 by omega), ck_t, P1, ev_isG, bd_s, of_s1 p (by omega)]
    by_cases c : isD (mI M 18 p)
    · rw [if_pos c, if_pos c, if_neg (by decide)]
      exact ih n (p + 1) (by omega) (by omega)
    · rw [if_neg c, if_neg c, if_pos rfl]
theorem ev_tend (k18 : mK M 18 = (21, 500)) (hN : N ≤ 500) {p : Nat} (hp : p < N) : Scribe_tokenEnd M 18 (Int32.ofNat p) (Int32.ofNat N) = some (Int32.ofNat (enT (mI M 18) N p), M) := by
  have P0 : (0 : Int32) ≤ Int32.ofNat p := of_nn _ (by omega)
  have P1 : ix (Int32.ofNat p) = p := ix_of _ (by omega)
  have a := lp_tL k18 hN (N - (p + 1)) fu (p + 1) (by omega) (by unfold fu; omega)
  have b := lp_tG k18 hN (N - (p + 1)) fu (p + 1) (by omega) (by unfold fu; omega)
  unfold Scribe_tokenEnd enT
  simp only [kA_t k18 P0 (show ix (Int32.ofNat p) < 500 by omega), ck_t, P1, ev_isL, ev_isG, bd_s, of_s1 p (by omega), a, b]
  by_cases c : isL (mI M 18 p)
  · simp only [if_pos c, if_neg (show ¬ (1 : Int32) = 0 by decide)]
  · simp only [if_neg c, if_true]
    by_cases c2 : isD (mI M 18 p)
    · simp only [if_pos c2, if_neg (show ¬ (1 : Int32) = 0 by decide)]
    · simp only [if_neg c2, if_true]
/-! words -/
def wSt (k : Nat) : Nat := [0, 6, 14, 21, 26, 31, 36, 40, 46, 53, 59, 64, 68, 73, 78, 84, 93, 98, 102, 108, 115, 118, 121, 125, 129].getD k 0
def wLn (k : Nat) : Nat := [5, 7, 6, 4, 4, 4, 3, 5, 6, 5, 4, 3, 4, 4, 5, 8, 4, 3, 5, 6, 2, 2, 3, 3].getD k 0
def smB (f : Nat → Int32) (p s : Nat) : Nat → Nat → Bool
  | 0, _ => true
  | d + 1, i => if tx1 (s + (i - p)) = f i then smB f p s d (i + 1) else false
def fWd (g : Nat → Bool) : Nat → Nat → Int32
  | 0, _ => -1
  | d + 1, k => if g k = true then Int32.ofNat k else fWd g d (k + 1)
theorem tx_w1 : ∀ k, k < 24 → ∀ j, j < wLn k → tx1 (wSt k + j) ≠ 32 ∧ wSt k + wLn k ≤ 128 := by decide +kernel
theorem tx_w2 : ∀ k, k < 24 → wSt k + wLn k + 1 = wSt (k + 1) ∧ (wSt k + wLn k < 128 → tx1 (wSt k + wLn k) = 32) ∧ wSt k + wLn k ≤ 128 ∧ 0 < wLn k ∧ wLn k ≤ 8 ∧ 2 ≤ wLn k := by decide +kernel
theorem ev_chr (M : Mm) {i : Nat} (h : i < 128) : Str_chr 0 M (Int32.ofNat i) = some (tx1 i, M) := by
  have P0 : (0 : Int32) ≤ Int32.ofNat i := of_nn _ (by omega)
  have P1 : ix (Int32.ofNat i) = i := ix_of _ (by omega)
  have kk : kS 128 (Int32.ofNat i) = true := by
    unfold kS
    rw [Bool.and_eq_true]
    exact ⟨decide_eq_true P0, decide_eq_true (by show ix (Int32.ofNat i) < 128; omega)⟩
  show ck (kS 128 (Int32.ofNat i)) (some ((bytS.getD 0 []).getD (ix (Int32.ofNat i)) 0, M)) = _
  rw [kk, ck_t, P1]
  rfl
theorem lp_same (k18 : mK M 18 = (21, 500)) {p e s : Nat} (he : e ≤ 500) (hs : s + (e - p) ≤ 128) : ∀ (d n i : Nat), i + d = e → p ≤ i → d < n → Scribe_isSame_L3 n 18 (Int32.ofNat p) (Int32.ofNat e) (Int32.ofNat s) (Int32.ofNat i) M = some (if smB (mI M 18) p s d i = true then 1 else 0, M) := by
  intro d
  induction d with
  | zero =>
    intro n i hi hp hn
    obtain ⟨n, rfl⟩ : ∃ x, n = x + 1 := ⟨n - 1, by omega⟩
    show Scribe_isSame_B3 _ _ _ _ _ _ _ = _
    unfold Scribe_isSame_B3
    rw [if_pos ((of_le e i (by omega) (by omega)).mpr (by omega))]
    rfl
  | succ d ih =>
    intro n i hi hp hn
    obtain ⟨n, rfl⟩ : ∃ x, n = x + 1 := ⟨n - 1, by omega⟩
    have P0 : (0 : Int32) ≤ Int32.ofNat i := of_nn _ (by omega)
    have P1 : ix (Int32.ofNat i) = i := ix_of _ (by omega)
    have ex : Int32.ofNat s + Int32.ofNat i - Int32.ofNat p = Int32.ofNat (s + (i - p)) := by
      rw [of_add, of_sub _ _ (by omega), show s + i - p = s + (i - p) by omega]
    show Scribe_isSame_B3 _ _ _ _ _ _ _ = some (if (if tx1 (s + (i - p)) = mI M 18 i then smB (mI M 18) p s d (i + 1) else false) = true then 1 else 0, M)
    unfold Scribe_isSame_B3
    simp only [if_neg (fun w => by have := (of_le e i (by omega) (by omega)).mp w; omega : ¬ Int32.ofNat e ≤ Int32.ofNat i), ex, ev_chr M (show s + (i - p) < 128 by omega), bd_s, kA_t k18 P0 (show ix (Int32.ofNat i) < 500 by omega), ck_t, P1, of_s1 i (by omega)]
    by_cases c : tx1 (s + (i - p)) = mI M 18 i
    · simp only [if_pos c]
      exact ih n (i + 1) (by omega) (by omega) (by omega)
    · simp only [if_neg c]
      rfl
/-- is the token from p to e word k -/
def gW (f : Nat → Int32) (p e k : Nat) : Bool := decide (wLn k = e - p) && smB f p (wSt k) (e - p) p
theorem wd_in {p e k : Nat} (hk : k < 24) : ∀ (d n i : Nat), i + d = wSt k + wLn k → wSt k ≤ i → Scribe_wordOf_L8 (n + d) 18 (Int32.ofNat p) (Int32.ofNat e) (Int32.ofNat k) (Int32.ofNat (wSt k)) (Int32.ofNat i) M = Scribe_wordOf_L8 n 18 (Int32.ofNat p) (Int32.ofNat e) (Int32.ofNat k) (Int32.ofNat (wSt k)) (Int32.ofNat (wSt k + wLn k)) M := by
  intro d
  induction d with
  | zero => intro n i hi hs; rw [show i = wSt k + wLn k by omega]; rfl
  | succ d ih =>
    intro n i hi hs
    rw [← ih n (i + 1) (by omega) (by omega)]
    have t := tx_w1 k hk (i - wSt k) (by omega)
    rw [show wSt k + (i - wSt k) = i by omega] at t
    have e1 : ¬ (Int32.ofNat 128 : Int32) < Int32.ofNat i := fun w => by have := (of_lt 128 i (by omega) (by omega)).mp w; omega
    have e2 : ¬ (Int32.ofNat i : Int32) = Int32.ofNat 128 := fun w => by have := (of_eq i 128 (by omega) (by omega)).mp w; omega
    have sl : ∀ M, Str_len 0 M = some (Int32.ofNat 128, M) := fun _ => rfl
    show Scribe_wordOf_B8 _ _ _ _ _ _ _ _ = _
    unfold Scribe_wordOf_B8 Scribe_wordOf_J73
    simp only [sl, bd_s, if_neg e1, if_neg e2, ev_chr M (show i < 128 by omega), if_neg t.1, of_s1 i (by omega)]
    rfl
theorem wd_at (k18 : mK M 18 = (21, 500)) {p e k n : Nat} (hk : k < 24) (hp : p ≤ e) (he : e ≤ 500) : Scribe_wordOf_L8 (n + 1) 18 (Int32.ofNat p) (Int32.ofNat e) (Int32.ofNat k) (Int32.ofNat (wSt k)) (Int32.ofNat (wSt k + wLn k)) M = if gW (mI M 18) p e k = true then some (Int32.ofNat k, M) else Scribe_wordOf_L8 n 18 (Int32.ofNat p) (Int32.ofNat e) (Int32.ofNat (k + 1)) (Int32.ofNat (wSt (k + 1))) (Int32.ofNat (wSt (k + 1))) M := by
  obtain ⟨t1, t2, t3, t4, t5, t6⟩ := tx_w2 k hk
  have e1 : ¬ (Int32.ofNat 128 : Int32) < Int32.ofNat (wSt k + wLn k) := fun w => by have := (of_lt 128 _ (by omega) (by omega)).mp w; omega
  have sl : ∀ M, Str_len 0 M = some (Int32.ofNat 128, M) := fun _ => rfl
  have s1 : Int32.ofNat (wSt k + wLn k) + 1 = Int32.ofNat (wSt (k + 1)) := by rw [of_s1 _ (by omega), t1]
  have d1 : Int32.ofNat (wSt k + wLn k) - Int32.ofNat (wSt k) = Int32.ofNat (wLn k) := by rw [of_sub _ _ (by omega), show wSt k + wLn k - wSt k = wLn k by omega]
  have d2 : Int32.ofNat e - Int32.ofNat p = Int32.ofNat (e - p) := of_sub _ _ hp
  have J : ∀ K, Scribe_wordOf_J40 K 18 (Int32.ofNat p) (Int32.ofNat e) (Int32.ofNat k) (Int32.ofNat (wSt k)) (Int32.ofNat (wSt k + wLn k)) M = if gW (mI M 18) p e k = true then some (Int32.ofNat k, M) else K 18 (Int32.ofNat p) (Int32.ofNat e) (Int32.ofNat (k + 1)) (Int32.ofNat (wSt (k + 1))) (Int32.ofNat (wSt (k + 1))) M := fun K => by
    unfold Scribe_wordOf_J40 Scribe_wordOf_J64 Scribe_wordOf_J73
    simp only [d1, d2, s1, of_s1 k (by omega)]
    unfold gW
    by_cases c : wLn k = e - p
    · rw [if_pos (by rw [c])]
      have sm : Scribe_isSame M 18 (Int32.ofNat p) (Int32.ofNat e) (Int32.ofNat (wSt k)) = some (if smB (mI M 18) p (wSt k) (e - p) p = true then 1 else 0, M) := lp_same k18 he (by omega) (e - p) fu p (by omega) (by omega) (by unfold fu; omega)
      rw [sm, bd_s, decide_eq_true c, Bool.true_and]
      by_cases c2 : smB (mI M 18) p (wSt k) (e - p) p = true
      · rw [if_pos c2, if_pos c2, if_neg (by decide)]
      · rw [if_neg c2, if_neg c2, if_pos rfl]
    · rw [if_neg (fun w => c ((of_eq _ _ (by omega) (by omega)).mp w)), decide_eq_false c, Bool.false_and, if_neg (by decide)]
  show Scribe_wordOf_B8 _ _ _ _ _ _ _ _ = _
  unfold Scribe_wordOf_B8
  simp only [sl, bd_s, if_neg e1]
  by_cases c : (Int32.ofNat (wSt k + wLn k) : Int32) = Int32.ofNat 128
  · rw [if_pos c]
    exact J _
  · rw [if_neg c]
    have lt : wSt k + wLn k < 128 := by
      apply Classical.byContradiction
      intro q
      exact c (by rw [show wSt k + wLn k = 128 by omega])
    rw [ev_chr M lt, bd_s, if_pos (t2 lt)]
    exact J _
theorem lp_wd (k18 : mK M 18 = (21, 500)) {p e : Nat} (hp : p ≤ e) (he : e ≤ 500) : ∀ (d n k : Nat), k + d = 24 → (129 - wSt k) + 1 < n → Scribe_wordOf_L8 n 18 (Int32.ofNat p) (Int32.ofNat e) (Int32.ofNat k) (Int32.ofNat (wSt k)) (Int32.ofNat (wSt k)) M = some (fWd (gW (mI M 18) p e) d k, M) := by
  intro d
  induction d with
  | zero =>
    intro n k hk hn
    obtain ⟨n, rfl⟩ : ∃ x, n = x + 1 := ⟨n - 1, by omega⟩
    rw [show k = 24 by omega]
    have sl : ∀ M, Str_len 0 M = some (Int32.ofNat 128, M) := fun _ => rfl
    show Scribe_wordOf_B8 _ _ _ _ _ _ _ _ = _
    unfold Scribe_wordOf_B8
    simp only [sl, bd_s, if_pos (show (Int32.ofNat 128 : Int32) < Int32.ofNat (wSt 24) by decide)]
    rfl
  | succ d ih =>
    intro n k hk hn
    obtain ⟨t1, t2, t3, t4, t5, t6⟩ := tx_w2 k (by omega)
    obtain ⟨m, rfl⟩ : ∃ m, n = (m + 1) + wLn k := ⟨n - wLn k - 1, by omega⟩
    rw [wd_in (by omega) (wLn k) (m + 1) (wSt k) rfl (Nat.le_refl _), wd_at k18 (by omega) hp he, ih m (k + 1) (by omega) (by omega)]
    show _ = some (if gW (mI M 18) p e k = true then Int32.ofNat k else fWd (gW (mI M 18) p e) d (k + 1), M)
    split <;> rfl
def sgT (x : Int32) : Int32 := if 60 = x then 24 else if 62 = x then 25 else if 61 = x then 26 else if 59 = x then 27 else if 40 = x then 28 else if 41 = x then 29 else -1
/-- a token's kind -/
def kdT (f : Nat → Int32) (N p : Nat) : Int32 := if isL (f p) then fWd (gW f p (enT f N p)) 24 0 else if isD (f p) then (if enT f N p - p ≤ 5 then 30 else -1) else sgT (f p)
theorem ev_ch1 (M : Mm) (i : Nat) (h : i < 6) : Str_chr 1 M (Int32.ofNat i) = some (tx2 i, M) := by
  have P0 : (0 : Int32) ≤ Int32.ofNat i := of_nn _ (by omega)
  have P1 : ix (Int32.ofNat i) = i := ix_of _ (by omega)
  have kk : kS 6 (Int32.ofNat i) = true := by
    unfold kS
    rw [Bool.and_eq_true]
    exact ⟨decide_eq_true P0, decide_eq_true (by show ix (Int32.ofNat i) < 6; omega)⟩
  show ck (kS 6 (Int32.ofNat i)) (some ((bytS.getD 1 []).getD (ix (Int32.ofNat i)) 0, M)) = _
  rw [kk, ck_t, P1]
  rfl
theorem ev_sg (k18 : mK M 18 = (21, 500)) {p : Nat} (hp : p < 500) : Scribe_kindOf_L41 fu 18 (Int32.ofNat p) 0 M = some (sgT (mI M 18 p), M) := by
  have P0 : (0 : Int32) ≤ Int32.ofNat p := of_nn _ (by omega)
  have P1 : ix (Int32.ofNat p) = p := ix_of _ (by omega)
  have sl : ∀ M, Str_len 1 M = some (Int32.ofNat 6, M) := fun _ => rfl
  have st : ∀ (n i : Nat), i < 6 → Scribe_kindOf_L41 (n + 1) 18 (Int32.ofNat p) (Int32.ofNat i) M = if tx2 i = mI M 18 p then some (24 + Int32.ofNat i, M) else Scribe_kindOf_L41 n 18 (Int32.ofNat p) (Int32.ofNat (i + 1)) M := fun n i hi => by
    show Scribe_kindOf_B41 _ _ _ _ _ = _
    unfold Scribe_kindOf_B41
    simp only [sl, bd_s, if_neg (fun w => by have := (of_le 6 i (by omega) (by omega)).mp w; omega : ¬ (Int32.ofNat 6 : Int32) ≤ Int32.ofNat i), ev_ch1 M i hi, kA_t k18 P0 (show ix (Int32.ofNat p) < 500 by omega), ck_t, P1, of_s1 i (by omega)]
  have en : ∀ n, Scribe_kindOf_L41 (n + 1) 18 (Int32.ofNat p) (Int32.ofNat 6) M = some (-1, M) := fun n => by
    show Scribe_kindOf_B41 _ _ _ _ _ = _
    unfold Scribe_kindOf_B41
    simp only [sl, bd_s, if_pos (show (Int32.ofNat 6 : Int32) ≤ Int32.ofNat 6 by decide)]
  show Scribe_kindOf_L41 (999993 + 1 + 1 + 1 + 1 + 1 + 1 + 1) 18 (Int32.ofNat p) (Int32.ofNat 0) M = _
  rw [st _ 0 (by decide), st _ 1 (by decide), st _ 2 (by decide), st _ 3 (by decide), st _ 4 (by decide), st _ 5 (by decide), en]
  unfold sgT
  have t0 : tx2 0 = 60 := rfl
  have t1 : tx2 1 = 62 := rfl
  have t2 : tx2 2 = 61 := rfl
  have t3 : tx2 3 = 59 := rfl
  have t4 : tx2 4 = 40 := rfl
  have t5 : tx2 5 = 41 := rfl
  rw [t0, t1, t2, t3, t4, t5]
  repeat' split
  all_goals rfl
theorem ev_kind (k18 : mK M 18 = (21, 500)) (hN : N ≤ 500) {p : Nat} (hp : p < N) : Scribe_kindOf M 18 (Int32.ofNat p) (Int32.ofNat (enT (mI M 18) N p)) = some (kdT (mI M 18) N p, M) := by
  have P0 : (0 : Int32) ≤ Int32.ofNat p := of_nn _ (by omega)
  have P1 : ix (Int32.ofNat p) = p := ix_of _ (by omega)
  have eb := enT_b (f := mI M 18) hp
  have w : Scribe_wordOf M 18 (Int32.ofNat p) (Int32.ofNat (enT (mI M 18) N p)) = _ := lp_wd k18 (p := p) (e := enT (mI M 18) N p) (by omega) (by omega) 24 fu 0 (by omega) (by unfold fu; omega)
  have sg := ev_sg k18 (p := p) (by omega)
  have d2 : Int32.ofNat (enT (mI M 18) N p) - Int32.ofNat p = Int32.ofNat (enT (mI M 18) N p - p) := of_sub _ _ (by omega)
  unfold Scribe_kindOf kdT
  simp only [kA_t k18 P0 (show ix (Int32.ofNat p) < 500 by omega), ck_t, P1, ev_isL, ev_isG, bd_s, w, sg, d2]
  by_cases c : isL (mI M 18 p)
  · simp only [if_pos c, if_neg (show ¬ (1 : Int32) = 0 by decide)]
  · simp only [if_neg c, if_true]
    by_cases c2 : isD (mI M 18 p)
    · simp only [if_pos c2, if_neg (show ¬ (1 : Int32) = 0 by decide)]
      by_cases c3 : enT (mI M 18) N p - p ≤ 5
      · rw [if_pos c3, if_neg (fun q => by have := (of_lt 5 _ (by omega) (by omega)).mp q; omega)]
      · rw [if_neg c3, if_pos (show (5 : Int32) < Int32.ofNat (enT (mI M 18) N p - p) from (of_lt 5 _ (by omega) (by omega)).mpr (by omega))]
    · simp only [if_neg c2, if_true]
def nuT (f : Nat → Int32) : Nat → Nat → Int32 → Int32
  | 0, _, a => a
  | d + 1, p, a => nuT f d (p + 1) (a * 10 + f p - 48)
theorem lp_nu (k18 : mK M 18 = (21, 500)) {e : Nat} (he : e ≤ 500) : ∀ (d n p : Nat) (a : Int32), p + d = e → d < n → Scribe_numberOf_L5 n 18 (Int32.ofNat e) a (Int32.ofNat p) M = some (nuT (mI M 18) d p a, M) := by
  intro d
  induction d with
  | zero =>
    intro n p a hp hn
    obtain ⟨n, rfl⟩ : ∃ x, n = x + 1 := ⟨n - 1, by omega⟩
    show Scribe_numberOf_B5 _ _ _ _ _ _ = _
    unfold Scribe_numberOf_B5
    rw [if_pos ((of_le e p (by omega) (by omega)).mpr (by omega))]
    rfl
  | succ d ih =>
    intro n p a hp hn
    obtain ⟨n, rfl⟩ : ∃ x, n = x + 1 := ⟨n - 1, by omega⟩
    have P0 : (0 : Int32) ≤ Int32.ofNat p := of_nn _ (by omega)
    have P1 : ix (Int32.ofNat p) = p := ix_of _ (by omega)
    show Scribe_numberOf_B5 _ _ _ _ _ _ = _
    unfold Scribe_numberOf_B5
    simp only [if_neg (fun w => by have := (of_le e p (by omega) (by omega)).mp w; omega : ¬ Int32.ofNat e ≤ Int32.ofNat p), kA_t k18 P0 (show ix (Int32.ofNat p) < 500 by omega), ck_t, P1, of_s1 p (by omega)]
    exact ih n (p + 1) _ (by omega) (by omega)
/-- a token's number -/
def nbT (f : Nat → Int32) (N p : Nat) : Int32 := nuT f (enT f N p - p) p 0
theorem ev_nu (k18 : mK M 18 = (21, 500)) (hN : N ≤ 500) {p : Nat} (hp : p < N) : Scribe_numberOf M 18 (Int32.ofNat p) (Int32.ofNat (enT (mI M 18) N p)) = some (nbT (mI M 18) N p, M) := by
  have eb := enT_b (f := mI M 18) hp
  exact lp_nu k18 (by omega) (enT (mI M 18) N p - p) fu p 0 (by omega) (by unfold fu; omega)
end ZK
