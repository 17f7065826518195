/-! Layer 2. Numbers: what is wanted of ix beside the arithmetic that grind knows. Then Wp: an option that says something, with what holds of it. -/
theorem ix_t (i : Int32) (h : 0 ≤ i) : ((Int32.toNatClampNeg i : Nat) : Int) = Lean.Grind.ToInt.toInt i := by
  have h2 : (0 : Int) ≤ i.toInt := by
    have := Int32.le_iff_toInt_le.mp h
    simpa using this
  show ((Int32.toInt i).toNat : Int) = i.toInt
  omega
theorem of_t (n : Nat) (h : n < 2147483648) : Lean.Grind.ToInt.toInt (Int32.ofNat n) = (n : Int) := by
  show (Int32.ofNat n).toInt = n
  rw [Int32.toInt_ofNat_of_lt (by omega)]
theorem ix_of (n : Nat) (h : n < 2147483648) : ix (Int32.ofNat n) = n := by
  grind [ix_t, of_t]
theorem of_ix (i : Int32) (h : 0 ≤ i) : Int32.ofNat (ix i) = i := by
  have h0 : i.toInt < 2147483648 := by have := Int32.toInt_lt i; omega
  have h1 : ix i < 2147483648 := by
    show (Int32.toInt i).toNat < 2147483648
    omega
  grind [ix_t, of_t]
theorem ix_big (i : Int32) : ix i < 2147483648 := by
  have h0 : i.toInt < 2147483648 := by have := Int32.toInt_lt i; omega
  show (Int32.toInt i).toNat < 2147483648
  omega
theorem ix_inj (i j : Int32) (hi : 0 ≤ i) (hj : 0 ≤ j) (h : ix i = ix j) : i = j := by grind [ix_t]
theorem ix_add (i j : Int32) (hi : 0 ≤ i) (hj : 0 ≤ j) (h : 0 ≤ i + j) : ix (i + j) = ix i + ix j := by
  have e : ∃ k : Int32, k = i + j := ⟨_, rfl⟩
  obtain ⟨k, hk⟩ := e
  rw [← hk] at h ⊢
  have h1 := ix_t i hi
  have h2 := ix_t j hj
  have h3 := ix_t k h
  have h4 : Lean.Grind.ToInt.toInt k = Lean.Grind.ToInt.toInt i + Lean.Grind.ToInt.toInt j := by grind
  show Int32.toNatClampNeg k = Int32.toNatClampNeg i + Int32.toNatClampNeg j
  omega
theorem ix_sub (i j : Int32) (hj : 0 ≤ j) (h : j ≤ i) : ix (i - j) = ix i - ix j ∧ ix j ≤ ix i := by
  have e : ∃ k : Int32, k = i - j := ⟨_, rfl⟩
  obtain ⟨k, hk⟩ := e
  rw [← hk]
  have h1 := ix_t i (by grind)
  have h2 := ix_t j hj
  have h3 := ix_t k (by grind)
  have h4 : Lean.Grind.ToInt.toInt k = Lean.Grind.ToInt.toInt i - Lean.Grind.ToInt.toInt j := by grind
  show Int32.toNatClampNeg k = Int32.toNatClampNeg i - Int32.toNatClampNeg j ∧ Int32.toNatClampNeg j ≤ Int32.toNatClampNeg i
  have h5 : Lean.Grind.ToInt.toInt j ≤ Lean.Grind.ToInt.toInt i := by grind
  omega
theorem ix_s1 (i : Int32) (hi : 0 ≤ i) (h : i < 2147483647) : ix (i + 1) = ix i + 1 := by
  rw [ix_add i 1 hi (by grind) (by grind)]
  rfl
theorem of_s1 (n : Nat) (h : n < 2147483647) : Int32.ofNat n + 1 = Int32.ofNat (n + 1) := by
  grind [of_t]
theorem of_lt (m n : Nat) (hm : m < 2147483648) (hn : n < 2147483648) : Int32.ofNat m < Int32.ofNat n ↔ m < n := by grind [of_t]
theorem of_le (m n : Nat) (hm : m < 2147483648) (hn : n < 2147483648) : Int32.ofNat m ≤ Int32.ofNat n ↔ m ≤ n := by grind [of_t]
theorem of_eq (m n : Nat) (hm : m < 2147483648) (hn : n < 2147483648) : Int32.ofNat m = Int32.ofNat n ↔ m = n := by grind [of_t]
theorem of_nn (n : Nat) (hn : n < 2147483648) : (0 : Int32) ≤ Int32.ofNat n := by grind [of_t]
theorem ix_lt (i : Int32) (n : Nat) (hi : 0 ≤ i) (hn : n < 2147483648) : ix i < n ↔ i < Int32.ofNat n := by grind [ix_t, of_t]
theorem ex_of (i : Int32) (hi : 0 ≤ i) : ∃ n : Nat, n < 2147483648 ∧ i = Int32.ofNat n := ⟨ix i, ix_big i, (of_ix i hi).symm⟩
theorem of_add (m n : Nat) : Int32.ofNat m + Int32.ofNat n = Int32.ofNat (m + n) := (Int32.ofNat_add m n).symm
theorem of_mul (m n : Nat) : Int32.ofNat m * Int32.ofNat n = Int32.ofNat (m * n) := (Int32.ofNat_mul m n).symm
theorem of_sub (m n : Nat) (h : n ≤ m) : Int32.ofNat m - Int32.ofNat n = Int32.ofNat (m - n) := (Int32.ofNat_sub m n h).symm
/-! Wp -/
def Wp {ρ : Type} (o : Option (ρ × Mm)) (Q : ρ → Mm → Prop) : Prop := ∃ r M', o = some (r, M') ∧ Q r M'
section WP1
variable {ρ σ : Type} {Q Q2 : ρ → Mm → Prop} {o o1 o2 : Option (ρ × Mm)} {M : Mm}
theorem Wp_some {r : ρ} (h : Q r M) : Wp (some (r, M)) Q := ⟨r, M, rfl, h⟩
theorem Wp_ck {b : Bool} (hb : b = true) (h : Wp o Q) : Wp (ck b o) Q := by subst hb; exact h
theorem Wp_nn {q : Option Nat} {a : Nat} {k : Nat → Option (ρ × Mm)} (hq : q = some a) (h : Wp (k a) Q) : Wp (nn q k) Q := by subst hq; exact h
theorem Wp_nl {q : Option Nat} {a : Nat} {k0 : Option (ρ × Mm)} {k : Nat → Option (ρ × Mm)} (hq : q = some a) (h : Wp (k a) Q) : Wp (nl q k0 k) Q := by subst hq; exact h
theorem Wp_nl0 {q : Option Nat} {k0 : Option (ρ × Mm)} {k : Nat → Option (ρ × Mm)} (hq : q = none) (h : Wp k0 Q) : Wp (nl q k0 k) Q := by subst hq; exact h
theorem Wp_if {c : Prop} [inst : Decidable c] (h1 : c → Wp o1 Q) (h2 : ¬ c → Wp o2 Q) : Wp (if c then o1 else o2) Q := by
  by_cases hc : c
  · rw [if_pos hc]; exact h1 hc
  · rw [if_neg hc]; exact h2 hc
theorem Wp_bd {q : Option (σ × Mm)} {k : σ → Mm → Option (ρ × Mm)} {Q1 : σ → Mm → Prop} (h1 : Wp q Q1) (h : ∀ r M1, Q1 r M1 → Wp (k r M1) Q) : Wp (bd q k) Q := by
  obtain ⟨r, M1, e, hq⟩ := h1
  rw [e]
  exact h r M1 hq
theorem Wp_bds {q : Option (σ × Mm)} {k : σ → Mm → Option (ρ × Mm)} {r : σ} {M1 : Mm} (h1 : q = some (r, M1)) (h : Wp (k r M1) Q) : Wp (bd q k) Q := by
  rw [h1]
  exact h
theorem Wp.mono (h : Wp o Q) (h2 : ∀ r M, Q r M → Q2 r M) : Wp o Q2 := by
  obtain ⟨r, M1, e, hq⟩ := h
  exact ⟨r, M1, e, h2 r M1 hq⟩
theorem Wp.eq {q : Option (ρ × Mm)} (e : o = q) (h : Wp q Q) : Wp o Q := e ▸ h
theorem kO_t {M : Mm} {a c n : Nat} (h : mK M a = (c, n)) : kO M a c n = true := decide_eq_true h
theorem kT_t {M : Mm} {a c n : Nat} (h : mK M a = (c, n)) : kT M a c = true := decide_eq_true (by rw [h])
theorem kA_t {M : Mm} {a t n : Nat} {i : Int32} (h : mK M a = (t, n)) (hi : 0 ≤ i) (h2 : ix i < n) : kA M a t i = true := by
  unfold kA
  rw [h]
  simp only [Bool.and_eq_true, decide_eq_true_eq]
  exact ⟨trivial, hi, h2⟩
end WP1
