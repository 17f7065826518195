section W2
variable {k : Nat} {ad : Nat → Nat → Nat} {C R : Mm}
theorem sumL_b {f : Nat → Int64} {B : Int} (hB : 0 ≤ B ∧ B ≤ 10000000000) : ∀ {n : Nat}, n ≤ 16 → (∀ j, j < n → 0 ≤ (f j).toInt ∧ (f j).toInt ≤ B) → 0 ≤ (sumL f n).toInt ∧ (sumL f n).toInt ≤ n * B
  | 0, _, _ => by
    show 0 ≤ (0 : Int64).toInt ∧ (0 : Int64).toInt ≤ _
    rw [show (0 : Int64).toInt = 0 from rfl]
    omega
  | n + 1, hn, h => by
    have h1 := sumL_b (f := f) (B := B) hB (n := n) (by omega) (fun j hj => h j (by omega))
    have h2 := h n (by omega)
    have e : ((n + 1 : Nat) : Int) * B = n * B + B := by rw [Int.natCast_add, Int.add_mul]; omega
    have hb : (n : Int) * B ≤ 16 * B := Int.mul_le_mul_of_nonneg_right (by omega) hB.1
    show 0 ≤ (sumL f n + f n).toInt ∧ (sumL f n + f n).toInt ≤ ((n + 1 : Nat) : Int) * B
    rw [L_add _ _ (by omega) (by omega) (by omega) (by omega), e]
    omega
theorem lcl_b (h : Rel k ad C R) : 0 ≤ (lcl R).toInt ∧ (lcl R).toInt ≤ 9999 := by
  unfold lcl
  have hc := h.isc.closes
  by_cases c : mI R 39 71 = 0
  · rw [if_pos c, i0T]; omega
  · rw [if_neg c]
    have h2 : 0 ≤ mI R 39 71 - 1 := by grind
    have := h.ipe.2.2.2.2.1 (ix (mI R 39 71 - 1)) (ix_b 24 h2 (show mI R 39 71 - 1 < 24 by grind) (by decide) (by decide))
    rw [I_le, I_le, i0T, show (9999 : Int32).toInt = 9999 from rfl] at this
    exact this
theorem shR_b (h : Rel k ad C R) {s : Nat} (hs : s < 4) : 0 ≤ (shR R s).toInt ∧ (shR R s).toInt ≤ 100 := by
  have o1 := outR_t h hs
  obtain ⟨p1, p2, p3, p4, p5, p6, p7, p8⟩ := h.st_b hs
  have t100 : (100 : Int32).toInt = 100 := rfl
  unfold shR
  by_cases c : outR R s = 0
  · rw [if_pos c, t100]; omega
  · have n0 : (outR R s).toInt ≠ 0 := fun q => c (I_eq (by rw [q]; rfl))
    have m2 : (mI R 54 s * 100).toInt = (mI R 54 s).toInt * 100 := by rw [I_mul _ _ (by rw [t100]; omega) (by rw [t100]; omega), t100]
    have d : (mI R 54 s * 100 / outR R s).toInt = (mI R 54 s).toInt * 100 / (outR R s).toInt := by rw [I_div _ _ (by omega) (by omega), m2]
    have d0 : 0 ≤ (mI R 54 s).toInt * 100 / (outR R s).toInt := Int.ediv_nonneg (by omega) (by omega)
    rw [if_neg c]
    split
    · rename_i q; rw [I_lt, t100] at q; omega
    · rw [t100]; omega
theorem own_b (h : Rel k ad C R) {p : Nat} (hp : p < 16) : 0 ≤ (ownR R p).toInt ∧ (ownR R p).toInt ≤ 110000000000 := by
  have h4 := sto4 h
  have cb := coins_b h hp
  have l0 : (0 : Int64).toInt = 0 := rfl
  have cp : 0 ≤ (cP R p).toInt ∧ (cP R p).toInt ≤ 100000000000 := by
    unfold cP
    split
    · rw [l0]; omega
    · rename_i q; rw [L_le, l0] at q; omega
  have st : 0 ≤ (sumL (stT R p) (ix (mI R 39 22))).toInt ∧ (sumL (stT R p) (ix (mI R 39 22))).toInt ≤ (ix (mI R 39 22) : Int) * 1000000000 := by
    refine sumL_b (by omega) (by omega) (fun s hs => ?_)
    have pb := paper_b h hp (show s < 4 by omega)
    have lb := lcl_b h
    have sb := shR_b h (show s < 4 by omega)
    have m1 := mul_b pb.1 (show (mI R 53 (4 * p + s)).toInt ≤ 30000 by omega) lb.1 lb.2
    have e1 : (Int32.toInt64 (mI R 53 (4 * p + s)) * Int32.toInt64 (lcl R)).toInt = (mI R 53 (4 * p + s)).toInt * (lcl R).toInt := by rw [L_mul _ _ (by rw [T_L, T_L]; omega) (by rw [T_L, T_L]; omega), T_L, T_L]
    generalize (mI R 53 (4 * p + s)).toInt * (lcl R).toInt = x at *
    have m2 := mul_b m1.1 (show x ≤ 299970000 by omega) sb.1 sb.2
    have e2 : (Int32.toInt64 (mI R 53 (4 * p + s)) * Int32.toInt64 (lcl R) * Int32.toInt64 (shR R s)).toInt = x * (shR R s).toInt := by rw [L_mul _ _ (by rw [e1, T_L]; omega) (by rw [e1, T_L]; omega), e1, T_L]
    unfold stT
    rw [L_div _ _ (by rw [e2]; exact m2.1) (by decide), e2, show (100 : Int64).toInt = 100 from rfl]
    generalize x * (shR R s).toInt = y at *
    omega
  have hb : (ix (mI R 39 22) : Int) * 1000000000 ≤ 4000000000 := by omega
  unfold ownR
  rw [L_add _ _ (by omega) (by omega) (by omega) (by omega)]
  omega
/-- the state of a reckoning -/
def FS (C R : Mm) : Prop := TRf C R ∧ (∀ i, i < ix (mI R 39 9) → (0 ≤ mI R 113 i ∧ mI R 113 i ≤ 100) ∧ (0 ≤ mI R 114 i ∧ mI R 114 i ≤ 100)) ∧ ∀ i, i < ix (mI R 39 9) → mL C 36 i = ownR R i
theorem owT_b (h : Rel k ad C R) (hf : FS C R) {p q : Nat} (hp : p < 16) (hq : q < ix (mI R 39 9)) (rd : Int32) : 0 ≤ (owT R p rd q).toInt ∧ (owT R p rd q).toInt ≤ 99999 := by
  have h16 := p16 h
  have d := h.ipe.2.1 (16 * q + p) (by omega)
  rw [I_le, I_le, i0T, i99T] at d
  have pt := (hf.2.1 q hq).2
  rw [I_le, I_le, i0T, show (100 : Int32).toInt = 100 from rfl] at pt
  have m := mul_b d.1 d.2 pt.1 pt.2
  have m' := mul_b d.1 (Int.le_refl _) pt.1 pt.2
  have e : (Int32.toInt64 (mI R 112 (16 * q + p)) * Int32.toInt64 (mI R 114 q)).toInt = (mI R 112 (16 * q + p)).toInt * (mI R 114 q).toInt := by rw [L_mul _ _ (by rw [T_L, T_L]; omega) (by rw [T_L, T_L]; omega), T_L, T_L]
  unfold owT
  split
  · rw [T_L]; exact d
  · split
    · rw [T_L]; exact d
    · rw [L_div _ _ (by rw [e]; exact m.1) (by decide), e, show (100 : Int64).toInt = 100 from rfl]
      generalize (mI R 112 (16 * q + p)).toInt * (mI R 114 q).toInt = x at *
      omega
theorem as_b (h : Rel k ad C R) (hf : FS C R) {p : Nat} (hp : p < 16) (rd : Int32) : 0 ≤ (asR R p rd).toInt ∧ (asR R p rd).toInt ≤ 200000000000 := by
  have h16 := p16 h
  have o := own_b h hp
  have s := sumL_b (f := owT R p rd) (B := 99999) (by omega) (n := ix (mI R 39 9)) h16 (fun q hq => owT_b h hf hp hq rd)
  have : (ix (mI R 39 9) : Int) * 99999 ≤ 1600000 := by omega
  unfold asR
  rw [L_add _ _ (by omega) (by omega) (by omega) (by omega)]
  omega
theorem db_b (h : Rel k ad C R) {p : Nat} (hp : p < 16) : 0 ≤ (dbR R p).toInt ∧ (dbR R p).toInt ≤ 200000000000 := by
  have h16 := p16 h
  have cb := coins_b h hp
  have l0 : (0 : Int64).toInt = 0 := rfl
  have cm : 0 ≤ (cM R p).toInt ∧ (cM R p).toInt ≤ 100000000000 := by
    unfold cM
    split
    · rw [l0]; omega
    · rename_i q; rw [L_le, l0] at q; rw [L_neg _ (by omega) (by omega)]; omega
  have s := sumL_b (f := fun q => Int32.toInt64 (mI R 112 (16 * p + q))) (B := 99999) (by omega) (n := ix (mI R 39 9)) h16 (fun q hq => by
    have d := h.ipe.2.1 (16 * p + q) (by omega)
    rw [I_le, I_le, i0T, i99T] at d
    show 0 ≤ (Int32.toInt64 (mI R 112 (16 * p + q))).toInt ∧ (Int32.toInt64 (mI R 112 (16 * p + q))).toInt ≤ 99999
    rw [T_L]
    exact d)
  have : (ix (mI R 39 9) : Int) * 99999 ≤ 1600000 := by omega
  unfold dbR
  rw [L_add _ _ (by omega) (by omega) (by omega) (by omega)]
  omega
theorem own_ex {R1 : Mm} (hr : ExR R R1) (p : Nat) : ownR R1 p = ownR R p := by
  unfold ownR cP
  have e : stT R1 p = stT R p := by
    funext s
    unfold stT lcl shR outR
    rw [hr.1 53 (by unfold tR; omega), hr.1 39 (by unfold tR; omega), hr.1 91 (by unfold tR; omega), hr.1 54 (by unfold tR; omega), hr.1 55 (by unfold tR; omega), hr.1 56 (by unfold tR; omega), hr.1 57 (by unfold tR; omega)]
  rw [e, hr.2.1 52 (by decide) (by decide), hr.1 39 (by unfold tR; omega)]
/-- how many have failed -/
def nfI (R : Mm) : Int := sumTo (fun q => if mI R 113 q = 0 then 0 else 1) (ix (mI R 39 9))
theorem parts_b {a d : Int64} (h0 : 0 ≤ a.toInt) (h1 : a.toInt ≤ 200000000000) (h2 : a.toInt < d.toInt) : 0 ≤ Int64.toInt32 (a * 100 / d) ∧ Int64.toInt32 (a * 100 / d) ≤ 100 := by
  have t : (100 : Int64).toInt = 100 := rfl
  have e : (a * 100).toInt = a.toInt * 100 := by rw [L_mul _ _ (by rw [t]; omega) (by rw [t]; omega), t]
  have hd : (a * 100 / d).toInt = a.toInt * 100 / d.toInt := by rw [L_div _ _ (by omega) (by omega), e]
  have b0 : 0 ≤ a.toInt * 100 / d.toInt := Int.ediv_nonneg (by omega) (by omega)
  have b1 : a.toInt * 100 / d.toInt ≤ 100 := by
    have : a.toInt * 100 / d.toInt < 100 + 1 := Int.ediv_lt_of_lt_mul (by omega) (by omega)
    omega
  have q : (Int64.toInt32 (a * 100 / d)).toInt = a.toInt * 100 / d.toInt := by
    rw [Int64.toInt_toInt32, hd, Int.bmod_def]
    split <;> omega
  rw [I_le, I_le, i0T, show (100 : Int32).toInt = 100 from rfl, q]
  exact ⟨b0, b1⟩
end W2
