/-! bits of the class's stack; division of ints; sums -/
def sv (v : Int64) : Nat := v.toBitVec.toNat
theorem N_or1 (n : Nat) : 2 * n ||| 1 = 2 * n + 1 := by
  have := Nat.shiftLeft_add_eq_or_of_lt (b := 1) (i := 1) (by decide) n
  rw [Nat.shiftLeft_eq] at this
  rw [show 2 * n = n * 2 ^ 1 by omega]
  exact this.symm
theorem N_xor0 (n : Nat) : 2 * n ^^^ 1 = 2 * n + 1 := by
  apply Nat.eq_of_testBit_eq
  intro i
  cases i with
  | zero => simp [Nat.testBit_xor]
  | succ i => 
    rw [Nat.testBit_xor, Nat.testBit_succ, Nat.testBit_succ, Nat.testBit_succ, show 2 * n / 2 = n by omega, show 1 / 2 = 0 by omega, show (2 * n + 1) / 2 = n by omega]
    simp
theorem N_xor1 (n : Nat) : (2 * n + 1) ^^^ 1 = 2 * n := by
  apply Nat.eq_of_testBit_eq
  intro i
  cases i with
  | zero => simp [Nat.testBit_xor]
  | succ i => 
    rw [Nat.testBit_xor, Nat.testBit_succ, Nat.testBit_succ, Nat.testBit_succ, show 2 * n / 2 = n by omega, show 1 / 2 = 0 by omega, show (2 * n + 1) / 2 = n by omega]
    simp
theorem sh_c : (Int32.toInt64 1 &&& 63) = (1 : Int64) := by decide
theorem sv_shl (v : Int64) (h : sv v < 2 ^ 60) : sv (v <<< (Int32.toInt64 1 &&& 63)) = 2 * sv v := by
  rw [sh_c]
  unfold sv at h ⊢
  have e : (v <<< (1 : Int64)).toBitVec = v.toBitVec <<< 1 := rfl
  rw [e, BitVec.toNat_shiftLeft, Nat.shiftLeft_eq]
  omega
theorem sv_or (v w : Int64) : sv (v ||| w) = sv v ||| sv w := by
  unfold sv
  rw [Int64.toBitVec_or, BitVec.toNat_or]
theorem sv_xor (v w : Int64) : sv (v ^^^ w) = sv v ^^^ sv w := by
  unfold sv
  rw [Int64.toBitVec_xor, BitVec.toNat_xor]
theorem sv_and (v w : Int64) : sv (v &&& w) = sv v &&& sv w := by
  unfold sv
  rw [Int64.toBitVec_and, BitVec.toNat_and]
theorem sv_inj {v w : Int64} (h : sv v = sv w) : v = w := by
  unfold sv at h
  exact Int64.toBitVec_inj.mp (BitVec.eq_of_toNat_eq h)
theorem sv_us1 (v : Int64) : sv (us v 1) = sv v / 2 := by
  have e : (us v 1).toBitVec = v.toBitVec >>> 1 := rfl
  unfold sv
  rw [e, BitVec.toNat_ushiftRight, Nat.shiftRight_eq_div_pow]
theorem sv_us2 (v : Int64) : sv (us v 2) = sv v / 4 := by
  have e : (us v 2).toBitVec = v.toBitVec >>> 2 := rfl
  unfold sv
  rw [e, BitVec.toNat_ushiftRight, Nat.shiftRight_eq_div_pow]
theorem b_and1 (v : Int64) : v &&& 1 = if sv v % 2 = 0 then 0 else 1 := by
  apply sv_inj
  rw [sv_and]
  have e : sv 1 = 1 := rfl
  rw [e, Nat.and_one_is_mod]
  split
  · rename_i h; rw [h]; rfl
  · rename_i h; rw [show sv v % 2 = 1 by omega]; rfl
theorem b_push0 (v : Int64) (h : sv v < 2 ^ 60) : sv ((v <<< (Int32.toInt64 1 &&& 63)) ||| Int32.toInt64 0) = 2 * sv v := by
  rw [sv_or, sv_shl v h]
  have e : sv (Int32.toInt64 0) = 0 := rfl
  rw [e, Nat.or_zero]
theorem b_push1 (v : Int64) (h : sv v < 2 ^ 60) : sv ((v <<< (Int32.toInt64 1 &&& 63)) ||| Int32.toInt64 1) = 2 * sv v + 1 := by
  rw [sv_or, sv_shl v h]
  have e : sv (Int32.toInt64 1) = 1 := rfl
  rw [e, N_or1]
theorem b_not0 (v : Int64) (h : sv v % 2 = 0) : sv (v ^^^ 1) = 2 * (sv v / 2) + 1 := by
  rw [sv_xor]
  have e : sv 1 = 1 := rfl
  rw [e]
  have := N_xor0 (sv v / 2)
  rw [show 2 * (sv v / 2) = sv v by omega] at this
  omega
theorem b_not1 (v : Int64) (h : ¬ sv v % 2 = 0) : sv (v ^^^ 1) = 2 * (sv v / 2) := by
  rw [sv_xor]
  have e : sv 1 = 1 := rfl
  rw [e]
  have := N_xor1 (sv v / 2)
  rw [show 2 * (sv v / 2) + 1 = sv v by omega] at this
  omega
theorem b_pop0 (v : Int64) (h : sv v < 2 ^ 60) : sv (((us v 2) <<< (Int32.toInt64 1 &&& 63)) ||| 0) = 2 * (sv v / 4) := by
  rw [sv_or, sv_shl _ (by rw [sv_us2]; omega), sv_us2]
  have e : sv 0 = 0 := rfl
  rw [e, Nat.or_zero]
theorem b_pop1 (v : Int64) (h : sv v < 2 ^ 60) : sv (((us v 2) <<< (Int32.toInt64 1 &&& 63)) ||| 1) = 2 * (sv v / 4) + 1 := by
  rw [sv_or, sv_shl _ (by rw [sv_us2]; omega), sv_us2]
  have e : sv 1 = 1 := rfl
  rw [e, N_or1]
theorem I_div (a c : Int32) (ha : 0 ≤ a.toInt) (hc : 0 < c.toInt) : (a / c).toInt = a.toInt / c.toInt := by
  rw [Int32.toInt_div, Int.tdiv_eq_ediv_of_nonneg ha, Int.bmod_def]
  have h1 : a.toInt / c.toInt ≤ a.toInt := Int.ediv_le_self _ ha
  have h2 : 0 ≤ a.toInt / c.toInt := Int.ediv_nonneg ha (by omega)
  have h3 := Int32.toInt_lt a
  split <;> omega
theorem I_mul (a b : Int32) (h1 : -1000000000 ≤ a.toInt * b.toInt) (h2 : a.toInt * b.toInt ≤ 1000000000) : (a * b).toInt = a.toInt * b.toInt := by
  rw [Int32.toInt_mul, Int.bmod_def]
  generalize a.toInt * b.toInt = x at *
  split <;> omega
theorem I_eq {a b : Int32} (h : a.toInt = b.toInt) : a = b := Int32.toInt_inj.mp h
theorem sumTo_nn {f : Nat → Int} : ∀ {n : Nat}, (∀ j, j < n → 0 ≤ f j) → 0 ≤ sumTo f n
  | 0, _ => Int.le_refl 0
  | n + 1, h => by
    have h1 := sumTo_nn (n := n) (fun j hj => h j (by omega))
    have h2 := h n (by omega)
    show 0 ≤ sumTo f n + f n
    omega
theorem sumTo_cg {f g : Nat → Int} : ∀ {n : Nat}, (∀ j, j < n → f j = g j) → sumTo f n = sumTo g n
  | 0, _ => rfl
  | n + 1, h => by
    have h1 := sumTo_cg (n := n) (fun j hj => h j (by omega))
    have h2 := h n (by omega)
    show sumTo f n + f n = sumTo g n + g n
    omega
theorem sumTo_one {f g : Nat → Int} {i : Nat} : ∀ {n : Nat}, i < n → (∀ j, j < n → j ≠ i → f j = g j) → sumTo f n = sumTo g n + (f i - g i)
  | 0, h, _ => by omega
  | n + 1, h, hh => by
    show sumTo f n + f n = sumTo g n + g n + (f i - g i)
    by_cases e : i = n
    · subst e
      have := sumTo_cg (f := f) (g := g) (n := i) (fun j hj => hh j (by omega) (by omega))
      omega
    · have h1 := sumTo_one (f := f) (g := g) (i := i) (n := n) (by omega) (fun j hj hne => hh j (by omega) hne)
      have h2 := hh n (by omega) (fun q => e q.symm)
      omega
theorem sumTo_le {f : Nat → Int} {i : Nat} : ∀ {n : Nat}, i < n → (∀ j, j < n → 0 ≤ f j) → f i ≤ sumTo f n
  | 0, h, _ => by omega
  | n + 1, h, hh => by
    show f i ≤ sumTo f n + f n
    by_cases e : i = n
    · subst e
      have := sumTo_nn (f := f) (n := i) (fun j hj => hh j (by omega))
      omega
    · have h1 := sumTo_le (f := f) (i := i) (n := n) (by omega) (fun j hj => hh j (by omega))
      have h2 := hh n (by omega)
      omega
