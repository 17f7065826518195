/-! whose remainder is the greatest; one after another bears one more -/
section ZA
variable {k : Nat} {ad : Nat → Nat → Nat} {C R : Mm}
def amx (g : Nat → Int64) : Nat → Nat → Nat → Nat
  | 0, _, c => c
  | d + 1, p, c => amx g d (p + 1) (if g p ≤ g c then c else p)
theorem amx_lt {g : Nat → Int64} : ∀ {d p c n : Nat}, p + d = n → c < n → amx g d p c < n
  | 0, _, _, _, _, h => h
  | d + 1, p, c, n, e, h => amx_lt (d := d) (by omega) (by split <;> omega)
theorem amx_sim {g g' : Nat → Int64} {n : Nat} (H : ∀ p, p < n → 0 ≤ (g p).toInt ∧ ((g p).toInt = (g' p).toInt ∨ ((g p).toInt = 0 ∧ (g' p).toInt = -1))) (q : ∃ q, q < n ∧ 0 < (g q).toInt) : ∀ {d p c c' : Nat}, p + d = n → c < n → c' < n → (∀ x, x < p → (g x).toInt ≤ (g c).toInt) → (c = c' ∨ ((g c).toInt = 0 ∧ (g' c').toInt ≤ 0)) → amx g d p c = amx g' d p c' ∧ 0 < (g (amx g d p c)).toInt
  | 0, p, c, c', e, h1, h2, h3, h4 => by
    obtain ⟨x, x1, x2⟩ := q
    have := h3 x (by omega)
    show c = c' ∧ 0 < (g c).toInt
    exact ⟨by omega, by omega⟩
  | d + 1, p, c, c', e, h1, h2, h3, h4 => by
    have a := H p (by omega)
    have b := H c h1
    have b' := H c' h2
    show amx g d (p + 1) (if g p ≤ g c then c else p) = amx g' d (p + 1) (if g' p ≤ g' c' then c' else p) ∧ 0 < (g (amx g d (p + 1) (if g p ≤ g c then c else p))).toInt
    have mono : ∀ c1, (c1 = c ∧ (g p).toInt ≤ (g c).toInt) ∨ (c1 = p ∧ (g c).toInt < (g p).toInt) → ∀ x, x < p + 1 → (g x).toInt ≤ (g c1).toInt := by
      intro c1 hc1 x hx
      by_cases ex : x = p
      · subst ex
        rcases hc1 with ⟨rfl, z⟩ | ⟨rfl, z⟩ <;> omega
      · have := h3 x (by omega)
        rcases hc1 with ⟨rfl, z⟩ | ⟨rfl, z⟩ <;> omega
    by_cases c1 : g p ≤ g c
    · rw [if_pos c1]
      rw [L_le] at c1
      by_cases c2 : g' p ≤ g' c'
      · rw [if_pos c2]
        exact amx_sim H q (by omega) h1 h2 (mono c (Or.inl ⟨rfl, c1⟩)) h4
      · rw [if_neg c2]
        rw [L_le] at c2
        refine amx_sim H q (by omega) h1 (by omega) (mono c (Or.inl ⟨rfl, c1⟩)) (Or.inr ?_)
        rcases h4 with rfl | h4 <;> omega
    · rw [if_neg c1]
      rw [L_le] at c1
      by_cases c2 : g' p ≤ g' c'
      · exfalso
        rw [L_le] at c2
        rcases h4 with rfl | h4 <;> omega
      · rw [if_neg c2]
        exact amx_sim H q (by omega) (by omega) (by omega) (mono p (Or.inr ⟨rfl, by omega⟩)) (Or.inl rfl)
theorem lp_amc {D : Mm} {g : Nat → Int64} (k30 : mK D 30 = (3, 7)) (r1 : mR D 30 1 = some 32) (k32 : mK D 32 = (23, 16)) (hg : ∀ p, p < 16 → mL D 32 p = g p) {n : Nat} (hn : n ≤ 16) : ∀ (d m p c : Nat), p + d = n → d < m → c < n → House_greatestRemainder_L4 m 30 (Int32.ofNat n) (Int32.ofNat c) (Int32.ofNat p) D = some (Int32.ofNat (amx g d p c), D) := by
  intro d
  induction d with
  | zero =>
    intro m p c hp hm hc
    obtain ⟨m, rfl⟩ : ∃ x, m = x + 1 := ⟨m - 1, by omega⟩
    show House_greatestRemainder_B4 _ _ _ _ _ _ = _
    unfold House_greatestRemainder_B4
    rw [if_pos ((of_le n p (by omega) (by omega)).mpr (by omega))]
    rfl
  | succ d ih =>
    intro m p c hp hm hc
    obtain ⟨m, rfl⟩ : ∃ x, m = x + 1 := ⟨m - 1, by omega⟩
    have P0 : (0 : Int32) ≤ Int32.ofNat p := of_nn _ (by omega)
    have P1 : ix (Int32.ofNat p) = p := ix_of _ (by omega)
    have C0 : (0 : Int32) ≤ Int32.ofNat c := of_nn _ (by omega)
    have C1 : ix (Int32.ofNat c) = c := ix_of _ (by omega)
    show House_greatestRemainder_B4 _ _ _ _ _ _ = some (Int32.ofNat (amx g d (p + 1) (if g p ≤ g c then c else p)), D)
    unfold House_greatestRemainder_B4 House_greatestRemainder_J27
    simp only [if_neg (fun w => by have := (of_le n p (by omega) (by omega)).mp w; omega : ¬ Int32.ofNat n ≤ Int32.ofNat p), kO_t k30, ck_t, r1, nn_s, kA_t k32 P0 (show ix (Int32.ofNat p) < 16 by omega), kA_t k32 C0 (show ix (Int32.ofNat c) < 16 by omega), P1, C1, hg p (by omega), hg c (by omega), of_s1 p (by omega)]
    by_cases z : g p ≤ g c
    · rw [if_pos z, if_pos z]
      exact ih m (p + 1) c (by omega) (by omega) hc
    · rw [if_neg z, if_neg z]
      exact ih m (p + 1) p (by omega) (by omega) (by omega)
theorem lp_amr {E : Mm} {g : Nat → Int64} (sr : SR E) (hg : ∀ p, p < 16 → mL E 111 p = g p) {n : Nat} (h9 : mI E 39 9 = Int32.ofNat n) (hn : n ≤ 16) (K : Nat → Int64 → Int64 → Mm → Option (Unit × Mm)) (lk l : Int64) : ∀ (d m p c : Nat), p + d = n → d < m → c < n → Mod_bears_L119 K m 39 lk l (Int32.ofNat c) (Int32.ofNat p) E = K 39 lk (l - 1) (sL (sL E 110 (amx g d p c) (mL E 110 (amx g d p c) + 1)) 111 (amx g d p c) (-1)) := by
  intro d
  induction d with
  | zero =>
    intro m p c hp hm hc
    obtain ⟨m, rfl⟩ : ∃ x, m = x + 1 := ⟨m - 1, by omega⟩
    have C0 : (0 : Int32) ≤ Int32.ofNat c := of_nn _ (by omega)
    have C1 : ix (Int32.ofNat c) = c := ix_of _ (by omega)
    show Mod_bears_B119 _ _ _ _ _ _ _ _ = K 39 lk (l - 1) (sL (sL E 110 c (mL E 110 c + 1)) 111 c (-1))
    unfold Mod_bears_B119
    simp only [kO_t sr.k39, ck_t, h9, if_pos ((of_le n p (by omega) (by omega)).mpr (by omega)), sr.r39_101, sr.r39_102, nn_s, kA_t sr.k110 C0 (show ix (Int32.ofNat c) < 16 by omega), mR_sL, kA_sL, kA_t sr.k111 C0 (show ix (Int32.ofNat c) < 16 by omega), C1]
  | succ d ih =>
    intro m p c hp hm hc
    obtain ⟨m, rfl⟩ : ∃ x, m = x + 1 := ⟨m - 1, by omega⟩
    have P0 : (0 : Int32) ≤ Int32.ofNat p := of_nn _ (by omega)
    have P1 : ix (Int32.ofNat p) = p := ix_of _ (by omega)
    have C0 : (0 : Int32) ≤ Int32.ofNat c := of_nn _ (by omega)
    have C1 : ix (Int32.ofNat c) = c := ix_of _ (by omega)
    have ea : amx g (d + 1) p c = amx g d (p + 1) (if g p ≤ g c then c else p) := rfl
    rw [ea]
    show Mod_bears_B119 _ _ _ _ _ _ _ _ = _
    unfold Mod_bears_B119 Mod_bears_J150
    simp only [kO_t sr.k39, ck_t, h9, if_neg (fun w => by have := (of_le n p (by omega) (by omega)).mp w; omega : ¬ Int32.ofNat n ≤ Int32.ofNat p), sr.r39_102, nn_s, kA_t sr.k111 P0 (show ix (Int32.ofNat p) < 16 by omega), kA_t sr.k111 C0 (show ix (Int32.ofNat c) < 16 by omega), P1, C1, hg p (by omega), hg c (by omega), of_s1 p (by omega)]
    by_cases z : g p ≤ g c
    · simp only [if_pos z]
      exact ih m (p + 1) c (by omega) (by omega) hc
    · simp only [if_neg z]
      exact ih m (p + 1) p (by omega) (by omega) (by omega)
theorem sumTo_lin {q r h : Nat → Int} {al lk : Int} : ∀ {n : Nat}, (∀ p, p < n → q p * al + r p = h p * lk) → sumTo q n * al + sumTo r n = sumTo h n * lk
  | 0, _ => by show 0 * al + 0 = 0 * lk; omega
  | n + 1, H => by
    have a := sumTo_lin (n := n) (fun p hp => H p (by omega))
    have b := H n (by omega)
    show (sumTo q n + q n) * al + (sumTo r n + r n) = (sumTo h n + h n) * lk
    rw [Int.add_mul, Int.add_mul]
    omega
theorem sumTo_lt {r : Nat → Int} {al : Int} : ∀ {n : Nat}, (∀ p, p < n → r p + 1 ≤ al) → sumTo r n + n ≤ n * al
  | 0, _ => by show (0 : Int) + (0 : Nat) ≤ (0 : Nat) * al; omega
  | n + 1, H => by
    have a := sumTo_lt (n := n) (fun p hp => H p (by omega))
    have b := H n (by omega)
    show sumTo r n + r n + ((n + 1 : Nat) : Int) ≤ ((n + 1 : Nat) : Int) * al
    rw [show ((n + 1 : Nat) : Int) = (n : Int) + 1 from rfl, Int.add_mul, Int.one_mul]
    omega
theorem sumL_t {f : Nat → Int64} : ∀ {n : Nat}, n ≤ 16 → (∀ j, j < n → 0 ≤ (f j).toInt ∧ (f j).toInt ≤ 100000000000) → (sumL f n).toInt = sumTo (fun j => (f j).toInt) n ∧ 0 ≤ (sumL f n).toInt ∧ (sumL f n).toInt ≤ n * 100000000000
  | 0, _, _ => by
    refine ⟨rfl, ?_, ?_⟩
    · show (0 : Int) ≤ 0; omega
    · show (0 : Int) ≤ _; omega
  | n + 1, hn, H => by
    obtain ⟨a, b, c⟩ := sumL_t (n := n) (by omega) (fun j hj => H j (by omega))
    have d := H n (by omega)
    show (sumL f n + f n).toInt = sumTo (fun j => (f j).toInt) n + (f n).toInt ∧ 0 ≤ (sumL f n + f n).toInt ∧ (sumL f n + f n).toInt ≤ _
    rw [L_add _ _ (by omega) (by omega) (by omega) (by omega)]
    omega
end ZA
