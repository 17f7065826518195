/-! long division, bit by bit: the lack of the house, parted -/
section Z8
theorem sv_t (v : Int64) (h : 0 ≤ v.toInt) : (sv v : Int) = v.toInt := by
  have e : v.toInt = v.toBitVec.toInt := rfl
  have h2 := BitVec.toInt_eq_toNat_cond v.toBitVec
  rw [e] at h ⊢
  unfold sv
  split at h2 <;> omega
theorem sv_i (v : Int64) (h : sv v < 2 ^ 62) : v.toInt = (sv v : Int) := by
  have e : v.toInt = v.toBitVec.toInt := rfl
  have h2 := BitVec.toInt_eq_toNat_cond v.toBitVec
  rw [e]
  unfold sv at h ⊢
  split at h2 <;> omega
theorem sv_par (v : Int64) : ((sv v % 2 : Nat) : Int) = v.toInt % 2 := by
  have e : v.toInt = v.toBitVec.toInt := rfl
  have h2 := BitVec.toInt_eq_toNat_cond v.toBitVec
  rw [e]
  unfold sv
  split at h2 <;> omega
theorem L_shl1 (v : Int64) (h0 : 0 ≤ v.toInt) (h1 : v.toInt ≤ 1000000000000000) : (v <<< (Int32.toInt64 1 &&& 63)).toInt = 2 * v.toInt := by
  have a := sv_t v h0
  have b := sv_shl v (by omega)
  rw [sv_i _ (by omega), b]
  omega
theorem L_amt : ∀ b, b < 63 → (Int32.toInt64 (Int32.ofNat b) &&& 63) = Int64.ofNat b := by decide +kernel
theorem L_smod : ∀ b, b < 63 → ((Int64.ofNat b).toBitVec.smod 64).toNat = b := by decide +kernel
theorem L_shr (x : Int64) {b : Nat} (hb : b < 63) : (x >>> Int64.ofNat b).toInt = x.toInt / 2 ^ b := by
  have e : (x >>> Int64.ofNat b).toBitVec = x.toBitVec.sshiftRight ((Int64.ofNat b).toBitVec.smod 64).toNat := rfl
  show (x >>> Int64.ofNat b).toBitVec.toInt = x.toBitVec.toInt / 2 ^ b
  rw [e, L_smod b hb, BitVec.toInt_sshiftRight, Int.shiftRight_eq_div_pow]
  rfl
theorem L_bit (x : Int64) {b : Nat} (hb : b < 63) : ((x >>> (Int32.toInt64 (Int32.ofNat b) &&& 63)) &&& 1) = if x.toInt / 2 ^ b % 2 = 0 then 0 else 1 := by
  rw [L_amt b hb, b_and1]
  have e := sv_par (x >>> Int64.ofNat b)
  rw [L_shr x hb] at e
  by_cases c : sv (x >>> Int64.ofNat b) % 2 = 0
  · rw [if_pos c, if_pos (by omega)]
  · rw [if_neg c, if_neg (by omega)]
theorem dv_q {q al cb lk r : Int} (e : q * al + r = cb * lk) (r0 : 0 ≤ r) (r1 : r < al) (l0 : 0 ≤ lk) (la : lk ≤ al) (c0 : 0 ≤ cb) : 0 ≤ q ∧ q ≤ cb := by
  have z : 0 ≤ cb * lk := Int.mul_nonneg c0 l0
  refine ⟨?_, ?_⟩
  · apply Classical.byContradiction
    intro h
    have := Int.mul_le_mul_of_nonneg_right (show q ≤ -1 by omega) (show 0 ≤ al by omega)
    omega
  · apply Classical.byContradiction
    intro h
    have h1 := Int.mul_le_mul_of_nonneg_right (show cb + 1 ≤ q by omega) (show 0 ≤ al by omega)
    have h2 := Int.mul_le_mul_of_nonneg_left la c0
    have h3 : (cb + 1) * al = cb * al + al := by rw [Int.add_mul, Int.one_mul]
    omega
/-- one bit of the division -/
theorem dv_s {q al cb lk r b : Int} (e : q * al + r = cb * lk) (r0 : 0 ≤ r) (r1 : r < al) (l0 : 0 ≤ lk) (la : lk ≤ al) (hb : b = 0 ∨ b = 1) {q1 rr1 q2 rr2 : Int} (h1 : (2 * r < al ∧ q1 = 2 * q ∧ rr1 = 2 * r) ∨ (al ≤ 2 * r ∧ q1 = 2 * q + 1 ∧ rr1 = 2 * r - al)) (h2 : (rr1 + b * lk < al ∧ q2 = q1 ∧ rr2 = rr1 + b * lk) ∨ (al ≤ rr1 + b * lk ∧ q2 = q1 + 1 ∧ rr2 = rr1 + b * lk - al)) : q2 * al + rr2 = (2 * cb + b) * lk ∧ 0 ≤ rr2 ∧ rr2 < al := by
  have e1 : (2 * q) * al = 2 * (q * al) := by rw [Int.mul_assoc]
  have e2 : (2 * q + 1) * al = 2 * (q * al) + al := by rw [Int.add_mul, Int.one_mul, e1]
  have e3 : (2 * q + 1 + 1) * al = 2 * (q * al) + al + al := by rw [Int.add_mul, Int.one_mul, e2]
  have e4 : (2 * cb + b) * lk = 2 * (cb * lk) + b * lk := by rw [Int.add_mul, Int.mul_assoc]
  have e5 : b * lk = 0 ∨ b * lk = lk := by rcases hb with rfl | rfl <;> omega
  rw [e4]
  rcases h1 with ⟨a1, rfl, rfl⟩ | ⟨a1, rfl, rfl⟩ <;> rcases h2 with ⟨a2, rfl, rfl⟩ | ⟨a2, rfl, rfl⟩
  · rw [e1]; omega
  · rw [e2]; omega
  · rw [e2]; omega
  · rw [e3]; omega
theorem pw_h (x : Int) (b : Nat) : x / 2 ^ b = 2 * (x / 2 ^ (b + 1)) + x / 2 ^ b % 2 := by
  have : x / 2 ^ (b + 1) = x / 2 ^ b / 2 := by rw [Int.pow_succ, Int.ediv_ediv_of_nonneg]; exact Int.pow_nonneg (by decide)
  omega
def QL (c lk al : Int64) : Int64 := Int64.ofInt (c.toInt * lk.toInt / al.toInt)
def RmL (c lk al : Int64) : Int64 := Int64.ofInt (c.toInt * lk.toInt % al.toInt)
theorem of_L (x : Int) (h1 : -1000000000000000000 ≤ x) (h2 : x ≤ 1000000000000000000) : (Int64.ofInt x).toInt = x := by
  have e : ((Int64.size : Nat) : Int) = 18446744073709551616 := rfl
  rw [Int64.toInt_ofInt, Int.bmod_def, e]
  split <;> omega
theorem L_eq {a b : Int64} (h : a.toInt = b.toInt) : a = b := Int64.toInt_inj.mp h
theorem dv_e {q r c lk al : Int64} (e : q.toInt * al.toInt + r.toInt = c.toInt * lk.toInt) (r0 : 0 ≤ r.toInt) (r1 : r.toInt < al.toInt) (aB : al.toInt ≤ 1000000000000000) (c0 : 0 ≤ c.toInt) (cB : c.toInt ≤ 1000000000000000) (l0 : 0 ≤ lk.toInt) (la : lk.toInt ≤ al.toInt) : q = QL c lk al ∧ r = RmL c lk al := by
  obtain ⟨q0, q1⟩ := dv_q e r0 r1 l0 la c0
  have h := Int.ediv_emod_unique (a := c.toInt * lk.toInt) (b := al.toInt) (r := r.toInt) (q := q.toInt) (by omega)
  obtain ⟨h1, h2⟩ := h.mpr ⟨by rw [Int.mul_comm al.toInt]; omega, r0, r1⟩
  unfold QL RmL
  rw [h1, h2]
  exact ⟨L_eq (by rw [of_L _ (by omega) (by omega)]), L_eq (by rw [of_L _ (by omega) (by omega)])⟩
theorem lp_part {C : Mm} (k30 : mK C 30 = (3, 7)) (r1 : mR C 30 1 = some 32) (k32 : mK C 32 = (23, 16)) {p : Nat} (hp : p < 16) {c lk al : Int64} (c0 : 0 ≤ c.toInt) (cB : c.toInt ≤ 1000000000000) (l0 : 0 ≤ lk.toInt) (la : lk.toInt ≤ al.toInt) (aB : al.toInt ≤ 10000000000000) : ∀ (b n : Nat) (q r : Int64), b ≤ 63 → b < n → q.toInt * al.toInt + r.toInt = (c.toInt / 2 ^ b) * lk.toInt → 0 ≤ r.toInt → r.toInt < al.toInt → House_partOf_L10 n 30 (Int32.ofNat p) c lk al q r (Int32.ofNat b - 1) C = some (QL c lk al, sL C 32 p (RmL c lk al)) := by
  intro b
  induction b with
  | zero =>
    intro n q r hb hn e r0 r2
    obtain ⟨n, rfl⟩ : ∃ x, n = x + 1 := ⟨n - 1, by omega⟩
    show House_partOf_B10 _ _ _ _ _ _ _ _ _ _ = _
    unfold House_partOf_B10
    have P0 : (0 : Int32) ≤ Int32.ofNat p := of_nn _ (by omega)
    have P1 : ix (Int32.ofNat p) = p := ix_of _ (by omega)
    rw [Int.pow_zero, Int.ediv_one] at e
    obtain ⟨rfl, rfl⟩ := dv_e e r0 r2 (by omega) c0 (by omega) l0 la
    rw [if_pos (by decide), kO_t k30, ck_t, r1, nn_s, kA_t k32 P0 (by omega), ck_t, P1]
  | succ b ih =>
    intro n q r hb hn e r0 r2
    obtain ⟨n, rfl⟩ : ∃ x, n = x + 1 := ⟨n - 1, by omega⟩
    have cb0 : 0 ≤ c.toInt / 2 ^ (b + 1) := Int.ediv_nonneg c0 (Int.pow_nonneg (by decide))
    have cbB : c.toInt / 2 ^ (b + 1) ≤ c.toInt := Int.ediv_le_self _ c0
    obtain ⟨q0, q1⟩ := dv_q e r0 r2 l0 la cb0
    have eb : Int32.ofNat (b + 1) - 1 = Int32.ofNat b := by rw [← of_s1 b (by omega)]; grind
    have ev : Int32.ofNat b + (-1) = Int32.ofNat b - 1 := by grind
    have nl : ¬ Int32.ofNat b < 0 := by have := of_nn b (show b < 2147483648 by omega); rw [I_le] at this; rw [I_lt]; omega
    have s1 := L_shl1 q q0 (by omega)
    have s2 := L_shl1 r r0 (by omega)
    have bt := L_bit c (b := b) (by omega)
    have one1 : (1 : Int64).toInt = 1 := rfl
    show House_partOf_B10 _ _ _ _ _ _ _ _ _ _ = _
    unfold House_partOf_B10
    rw [eb]
    simp only [if_neg nl]
    -- the first halving
    have J48 : ∀ q1 rr1 : Int64, ((2 * r.toInt < al.toInt ∧ q1.toInt = 2 * q.toInt ∧ rr1.toInt = 2 * r.toInt) ∨ (al.toInt ≤ 2 * r.toInt ∧ q1.toInt = 2 * q.toInt + 1 ∧ rr1.toInt = 2 * r.toInt - al.toInt)) → House_partOf_J48 (House_partOf_L10 n) 30 (Int32.ofNat p) c lk al q1 rr1 (Int32.ofNat b) C = some (QL c lk al, sL C 32 p (RmL c lk al)) := by
      intro q1 rr1 h1
      have J66 : ∀ (v : Int64) (bb : Int), bb = c.toInt / 2 ^ b % 2 → v.toInt = rr1.toInt + bb * lk.toInt → House_partOf_J66 (House_partOf_L10 n) 30 (Int32.ofNat p) c lk al q1 v (Int32.ofNat b) C = some (QL c lk al, sL C 32 p (RmL c lk al)) := by
        intro v bb hbb hv
        have b01 : bb = 0 ∨ bb = 1 := by omega
        have bl : bb * lk.toInt = 0 ∨ bb * lk.toInt = lk.toInt := by rcases b01 with z | z <;> rw [z] <;> omega
        have hc := pw_h c.toInt b
        unfold House_partOf_J66
        by_cases c1 : v < al
        · rw [if_pos c1]
          rw [L_lt] at c1
          have d := dv_s (q2 := q1.toInt) (rr2 := v.toInt) e r0 r2 l0 la b01 h1 (Or.inl ⟨by omega, rfl, by omega⟩)
          unfold House_partOf_J87
          rw [ev]
          refine ih n q1 v (by omega) (by omega) ?_ d.2.1 d.2.2
          rw [hc, ← hbb]
          exact d.1
        · rw [if_neg c1]
          rw [L_lt] at c1
          have t1 : (v - al).toInt = v.toInt - al.toInt := L_sub _ _ (by omega) (by omega) (by omega) (by omega)
          have t2 : (q1 + 1).toInt = q1.toInt + 1 := by rw [L_add _ _ (by omega) (by omega) (by rw [one1]; omega) (by rw [one1]; omega), one1]
          have d := dv_s (q2 := (q1 + 1).toInt) (rr2 := (v - al).toInt) e r0 r2 l0 la b01 h1 (Or.inr ⟨by omega, t2, by omega⟩)
          unfold House_partOf_J87
          simp only
          rw [ev]
          refine ih n (q1 + 1) (v - al) (by omega) (by omega) ?_ d.2.1 d.2.2
          rw [hc, ← hbb]
          exact d.1
      unfold House_partOf_J48
      rw [bt]
      by_cases z : c.toInt / 2 ^ b % 2 = 0
      · rw [if_pos z, if_neg (by decide)]
        exact J66 rr1 0 z.symm (by omega)
      · rw [if_neg z, if_pos rfl]
        exact J66 (rr1 + lk) 1 (by omega) (by rw [L_add _ _ (by omega) (by omega) (by omega) (by omega)]; omega)
    by_cases c1 : (r <<< (Int32.toInt64 1 &&& 63)) < al
    · rw [if_pos c1]
      rw [L_lt, s2] at c1
      exact J48 _ _ (Or.inl ⟨c1, s1, s2⟩)
    · rw [if_neg c1]
      rw [L_lt, s2] at c1
      refine J48 _ _ (Or.inr ⟨by omega, ?_, ?_⟩)
      · rw [L_add _ _ (by omega) (by omega) (by rw [one1]; omega) (by rw [one1]; omega), s1, one1]
      · rw [L_sub _ _ (by omega) (by omega) (by omega) (by omega), s2]
theorem lp_parts {R : Mm} (k39 : mK R 39 = (12, 107)) (r101 : mR R 39 101 = some 110) (r102 : mR R 39 102 = some 111) (k110 : mK R 110 = (23, 16)) (k111 : mK R 111 = (23, 16)) {p : Nat} (hp : p < 16) {c lk al : Int64} (c0 : 0 ≤ c.toInt) (ca : c.toInt ≤ al.toInt) (l0 : 0 ≤ lk.toInt) (la : lk.toInt ≤ al.toInt) (aB : al.toInt ≤ 10000000000000) : ∀ (b n : Nat) (q r : Int64), b ≤ 63 → b < n → q.toInt * al.toInt + r.toInt = (lk.toInt / 2 ^ b) * c.toInt → 0 ≤ r.toInt → r.toInt < al.toInt → Mod_parts_L33 n 39 (Int32.ofNat p) lk al c q r (Int32.ofNat b - 1) R = some ((), sL (sL R 110 p (QL c lk al)) 111 p (if c = 0 then -1 else RmL c lk al)) := by
  intro b
  induction b with
  | zero =>
    intro n q r hb hn e r0 r2
    obtain ⟨n, rfl⟩ : ∃ x, n = x + 1 := ⟨n - 1, by omega⟩
    show Mod_parts_B33 _ _ _ _ _ _ _ _ _ _ = _
    unfold Mod_parts_B33
    have P0 : (0 : Int32) ≤ Int32.ofNat p := of_nn _ (by omega)
    have P1 : ix (Int32.ofNat p) = p := ix_of _ (by omega)
    rw [Int.pow_zero, Int.ediv_one, Int.mul_comm lk.toInt] at e
    obtain ⟨rfl, rfl⟩ := dv_e e r0 r2 (by omega) c0 (by omega) l0 la
    simp only [if_pos (show Int32.ofNat 0 - 1 < 0 by decide), kO_t k39, ck_t, r101, nn_s, kA_t k110 P0 (show ix (Int32.ofNat p) < 16 by omega), P1, mR_sL, r102, kA_sL, kA_t k111 P0 (show ix (Int32.ofNat p) < 16 by omega)]
    by_cases z : c = 0
    · rw [if_pos z, if_pos z]
    · rw [if_neg z, if_neg z]
  | succ b ih =>
    intro n q r hb hn e r0 r2
    obtain ⟨n, rfl⟩ : ∃ x, n = x + 1 := ⟨n - 1, by omega⟩
    have cb0 : 0 ≤ lk.toInt / 2 ^ (b + 1) := Int.ediv_nonneg l0 (Int.pow_nonneg (by decide))
    have cbB : lk.toInt / 2 ^ (b + 1) ≤ lk.toInt := Int.ediv_le_self _ l0
    obtain ⟨q0, q1⟩ := dv_q e r0 r2 c0 ca cb0
    have eb : Int32.ofNat (b + 1) - 1 = Int32.ofNat b := by rw [← of_s1 b (by omega)]; grind
    have ev : Int32.ofNat b + (-1) = Int32.ofNat b - 1 := by grind
    have nl : ¬ Int32.ofNat b < 0 := by have := of_nn b (show b < 2147483648 by omega); rw [I_le] at this; rw [I_lt]; omega
    have s1 : (q + q).toInt = 2 * q.toInt := by rw [L_add _ _ (by omega) (by omega) (by omega) (by omega)]; omega
    have s2 : (r + r).toInt = 2 * r.toInt := by rw [L_add _ _ (by omega) (by omega) (by omega) (by omega)]; omega
    have bt := L_bit lk (b := b) (by omega)
    have one1 : (1 : Int64).toInt = 1 := rfl
    have hc := pw_h lk.toInt b
    show Mod_parts_B33 _ _ _ _ _ _ _ _ _ _ = _
    unfold Mod_parts_B33
    rw [eb]
    simp only [if_neg nl]
    have J73 : ∀ q1 rr1 : Int64, ((2 * r.toInt < al.toInt ∧ q1.toInt = 2 * q.toInt ∧ rr1.toInt = 2 * r.toInt) ∨ (al.toInt ≤ 2 * r.toInt ∧ q1.toInt = 2 * q.toInt + 1 ∧ rr1.toInt = 2 * r.toInt - al.toInt)) → Mod_parts_J73 (Mod_parts_L33 n) 39 (Int32.ofNat p) lk al c q1 rr1 (Int32.ofNat b) R = some ((), sL (sL R 110 p (QL c lk al)) 111 p (if c = 0 then -1 else RmL c lk al)) := by
      intro q1 rr1 h1
      unfold Mod_parts_J73
      rw [bt]
      by_cases z : lk.toInt / 2 ^ b % 2 = 0
      · rw [if_pos z, if_pos rfl]
        have d := dv_s (b := 0) (q2 := q1.toInt) (rr2 := rr1.toInt) e r0 r2 c0 ca (Or.inl rfl) h1 (Or.inl ⟨by omega, rfl, by omega⟩)
        unfold Mod_parts_J115
        simp only
        rw [ev]
        refine ih n q1 rr1 (by omega) (by omega) ?_ d.2.1 d.2.2
        rw [hc, z]
        exact d.1
      · have z1 : lk.toInt / 2 ^ b % 2 = 1 := by omega
        rw [if_neg z, if_neg (by decide)]
        have sv : (rr1 + c).toInt = rr1.toInt + c.toInt := L_add _ _ (by omega) (by omega) (by omega) (by omega)
        simp only
        by_cases c1 : rr1 + c < al
        · rw [if_pos c1]
          rw [L_lt, sv] at c1
          have d := dv_s (b := 1) (q2 := q1.toInt) (rr2 := (rr1 + c).toInt) e r0 r2 c0 ca (Or.inr rfl) h1 (Or.inl ⟨by omega, rfl, by omega⟩)
          unfold Mod_parts_J115
          simp only
          rw [ev]
          refine ih n q1 _ (by omega) (by omega) ?_ d.2.1 d.2.2
          rw [hc, z1]
          exact d.1
        · rw [if_neg c1]
          rw [L_lt, sv] at c1
          have t1 : (rr1 + c - al).toInt = rr1.toInt + c.toInt - al.toInt := by rw [L_sub _ _ (by omega) (by omega) (by omega) (by omega), sv]
          have t2 : (q1 + 1).toInt = q1.toInt + 1 := by rw [L_add _ _ (by omega) (by omega) (by rw [one1]; omega) (by rw [one1]; omega), one1]
          have d := dv_s (b := 1) (q2 := (q1 + 1).toInt) (rr2 := (rr1 + c - al).toInt) e r0 r2 c0 ca (Or.inr rfl) h1 (Or.inr ⟨by omega, t2, by omega⟩)
          unfold Mod_parts_J115
          simp only
          rw [ev]
          refine ih n (q1 + 1) _ (by omega) (by omega) ?_ d.2.1 d.2.2
          rw [hc, z1]
          exact d.1
    by_cases c1 : r + r < al
    · rw [if_pos c1]
      rw [L_lt, s2] at c1
      exact J73 _ _ (Or.inl ⟨c1, s1, s2⟩)
    · rw [if_neg c1]
      rw [L_lt, s2] at c1
      refine J73 _ _ (Or.inr ⟨by omega, ?_, ?_⟩)
      · rw [L_add _ _ (by omega) (by omega) (by rw [one1]; omega) (by rw [one1]; omega), s1, one1]
      · rw [L_sub _ _ (by omega) (by omega) (by omega) (by omega), s2]
end Z8
