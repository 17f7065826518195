/-! which rules are in force; whether a condition holds -/
section L2
variable {k : Nat} {ad : Nat → Nat → Nat} {C R : Mm}
theorem lp_force (h : Rel k ad C R) : ∀ (d n m j : Nat) (b : Int32), j + d = ix (mI R 39 37) → d < n → d < m → (b = -1 ∨ (0 ≤ b ∧ b < mI R 39 37)) → ∃ r, Law_inForce_L4 n 19 (mI R 39 0) b (Int32.ofNat j) C = some (r, C) ∧ Mod_inForce_L4 m 39 b (Int32.ofNat j) R = some (r, R) ∧ (r = -1 ∨ (0 ≤ r ∧ r < mI R 39 37)) := by
  have ht := h.isc.texts
  have h8 : ix (mI R 39 37) ≤ 8 := by grind [ix_t]
  intro d
  induction d with
  | zero =>
    intro n m j b hj hn hm hb
    obtain ⟨n, rfl⟩ : ∃ x, n = x + 1 := ⟨n - 1, by omega⟩
    obtain ⟨m, rfl⟩ : ∃ x, m = x + 1 := ⟨m - 1, by omega⟩
    have e : mI R 39 37 ≤ Int32.ofNat j := by grind [ix_t, of_t]
    refine ⟨b, ?_, ?_, hb⟩
    · show Law_inForce_B4 _ _ _ _ _ _ = _
      unfold Law_inForce_B4
      rw [h.o19, ck_t, h.l19_3, if_pos e]
    · show Mod_inForce_B4 _ _ _ _ _ = _
      unfold Mod_inForce_B4
      rw [h.o39, ck_t, if_pos e]
  | succ d ih =>
    intro n m j b hj hn hm hb
    obtain ⟨n, rfl⟩ : ∃ x, n = x + 1 := ⟨n - 1, by omega⟩
    obtain ⟨m, rfl⟩ : ∃ x, m = x + 1 := ⟨m - 1, by omega⟩
    have e : ¬ mI R 39 37 ≤ Int32.ofNat j := by grind [ix_t, of_t]
    have e0 : (0 : Int32) ≤ Int32.ofNat j := of_nn j (by omega)
    have e1 : ix (Int32.ofNat j) = j := ix_of j (by omega)
    have lt : j < ix (mI R 39 37) := by omega
    have sh := h.she j lt
    have ej : Int32.ofNat j < mI R 39 37 := by grind
    have i1 := ih n m (j + 1) b (by omega) (by omega) (by omega) hb
    have i2 := ih n m (j + 1) (Int32.ofNat j) (by omega) (by omega) (by omega) (Or.inr ⟨e0, ej⟩)
    show ∃ r, Law_inForce_B4 (Law_inForce_L4 n) 19 (mI R 39 0) b (Int32.ofNat j) C = some (r, C) ∧ Mod_inForce_B4 (Mod_inForce_L4 m) 39 b (Int32.ofNat j) R = some (r, R) ∧ _
    unfold Law_inForce_B4 Mod_inForce_B4 Law_inForce_J51 Law_inForce_J53 Mod_inForce_J44 Mod_inForce_J46
    simp only [h.o19, h.o39, ck_t, h.l19_3, if_neg e, h.sc.r19_1, h.sr.r39_40, nn_s, kA_t h.sc.k28 e0 (show ix (Int32.ofNat j) < 8 by omega), kA_t h.sr.k68 e0 (show ix (Int32.ofNat j) < 8 by omega), e1, sh.1, kO_t sh.2.1, h.le0 lt, of_s1 j (by omega)]
    by_cases c1 : mI R 39 0 < mI R 68 j
    · simp only [if_pos c1]
      exact i1
    · simp only [if_neg c1]
      rcases hb with hb | hb
      · subst hb
        simp only [if_true, show ((-1 : Int32) < 0) = True from eq_true (by decide)]
        exact i2
      · have hbl : ix b < ix (mI R 39 37) := ix_mo hb.1 hb.2
        have sb := h.she (ix b) hbl
        have n1 : ¬ b = -1 := by grind
        have n2 : ¬ b < 0 := by grind
        simp only [if_neg n1, if_neg n2, kA_t h.sc.k28 hb.1 (show ix b < 8 by omega), kA_t h.sr.k68 hb.1 (show ix b < 8 by omega), ck_t, sb.1, nn_s, kO_t sb.2.1, h.le0 hbl]
        by_cases c2 : mI R 68 j < mI R 68 (ix b)
        · simp only [if_pos c2]
          exact i1
        · simp only [if_neg c2]
          exact i2
theorem ev_force (h : Rel k ad C R) : ∃ r, Law_inForce C 19 (mI R 39 0) = some (r, C) ∧ Mod_inForce R 39 = some (r, R) ∧ (r = -1 ∨ (0 ≤ r ∧ r < mI R 39 37)) := by
  have ht := h.isc.texts
  have h8 : ix (mI R 39 37) ≤ 8 := by grind [ix_t]
  exact lp_force h (ix (mI R 39 37)) fu fu 0 (-1) (by omega) (fu_g (by omega)) (fu_g (by omega)) (Or.inl rfl)
/-- does a fact hold -/
def cmB (sg v n : Int32) : Int32 := if sg = 0 then (if n ≤ v then 0 else 1) else if sg = 1 then (if v ≤ n then 0 else 1) else (if v = n then 1 else 0)
theorem fact_dec (a sg n : Int32) (h0 : 0 ≤ a) (h1 : a ≤ 6) (h2 : 0 ≤ sg) (h3 : sg ≤ 2) (h4 : 0 ≤ n) (h5 : n ≤ 99999) : 0 ≤ (a * 3 + sg) * 100000 + n ∧ rm ((a * 3 + sg) * 100000 + n) 100000 = n ∧ rm (((a * 3 + sg) * 100000 + n) / 100000) 3 = sg ∧ (((a * 3 + sg) * 100000 + n) / 100000) / 3 = a := by
  rw [I_le] at h0 h1 h2 h3 h4 h5
  have t0 : (0 : Int32).toInt = 0 := rfl
  have t6 : (6 : Int32).toInt = 6 := rfl
  have t2 : (2 : Int32).toInt = 2 := rfl
  have t3 : (3 : Int32).toInt = 3 := rfl
  have t9 : (99999 : Int32).toInt = 99999 := rfl
  have tm : (100000 : Int32).toInt = 100000 := rfl
  rw [t0] at h0 h2 h4
  rw [t6] at h1
  rw [t2] at h3
  rw [t9] at h5
  have e1 : (a * 3).toInt = a.toInt * 3 := by rw [I_mul _ _ (by rw [t3]; omega) (by rw [t3]; omega), t3]
  have e2 : (a * 3 + sg).toInt = a.toInt * 3 + sg.toInt := by rw [I_add _ _ (by omega) (by omega) (by omega) (by omega), e1]
  have e3 : ((a * 3 + sg) * 100000).toInt = (a.toInt * 3 + sg.toInt) * 100000 := by rw [I_mul _ _ (by rw [tm]; omega) (by rw [tm]; omega), tm, e2]
  have e4 : ((a * 3 + sg) * 100000 + n).toInt = (a.toInt * 3 + sg.toInt) * 100000 + n.toInt := by rw [I_add _ _ (by omega) (by omega) (by omega) (by omega), e3]
  generalize (a * 3 + sg) * 100000 + n = e at *
  have d1 : (e / 100000).toInt = a.toInt * 3 + sg.toInt := by rw [I_div _ _ (by omega) (by rw [tm]; omega), tm]; omega
  have d2 : (e / 100000 / 3).toInt = a.toInt := by rw [I_div _ _ (by omega) (by rw [t3]; omega), t3]; omega
  refine ⟨?_, ?_, ?_, I_eq d2⟩
  · rw [I_le, t0]; omega
  · apply I_eq
    have m1 : (e / 100000 * 100000).toInt = (a.toInt * 3 + sg.toInt) * 100000 := by rw [I_mul _ _ (by rw [tm]; omega) (by rw [tm]; omega), tm, d1]
    show (e - e / 100000 * 100000).toInt = _
    rw [I_sub _ _ (by omega) (by omega) (by omega) (by omega)]
    omega
  · apply I_eq
    have m1 : (e / 100000 / 3 * 3).toInt = a.toInt * 3 := by rw [I_mul _ _ (by rw [t3]; omega) (by rw [t3]; omega), t3, d2]
    show (e / 100000 - e / 100000 / 3 * 3).toInt = _
    rw [I_sub _ _ (by omega) (by omega) (by omega) (by omega)]
    omega
theorem ev_fact (h : Rel k ad C R) (hf : Fok C R) (a sg n : Int32) (h0 : 0 ≤ a) (h1 : a ≤ 6) (h2 : 0 ≤ sg) (h3 : sg ≤ 2) (h4 : 0 ≤ n) (h5 : n ≤ 99999) : Edict_isFact C ((a * 3 + sg) * 100000 + n) 29 = some (cmB sg (kn R (ix a)) n, C) := by
  obtain ⟨-, e1, e2, e3⟩ := fact_dec a sg n h0 h1 h2 h3 h4 h5
  have a7 : ix a < 7 := ix_b 7 h0 (show a < 7 by grind) (by decide) (by decide)
  have l7 : ln C 29 = 7 := by unfold ln; rw [h.sc.k29]; rfl
  unfold Edict_isFact cmB
  simp only [e1, e2, e3, kT_t h.sc.k29, ck_t, l7, if_neg (show ¬ a < 0 by grind), if_pos (show a < 7 by grind), kA_t h.sc.k29 h0 a7, hf (ix a) (by omega)]
  repeat' split
  all_goals rfl
/-- the bits of the nodes that wait -/
def enc (f : Nat → Int32) : List Nat → Nat
  | [] => 0
  | x :: r => 2 * enc f r + (if f x = 0 then 0 else 1)
theorem enc_b (f : Nat → Int32) : ∀ l : List Nat, enc f l < 2 ^ l.length
  | [] => Nat.lt_succ_self 0
  | x :: r => by
    have h1 := enc_b f r
    show 2 * enc f r + (if f x = 0 then 0 else 1) < 2 ^ (r.length + 1)
    rw [Nat.pow_succ]
    split <;> omega
theorem enc_cg {f g : Nat → Int32} : ∀ l : List Nat, (∀ x, x ∈ l → f x = g x) → enc f l = enc g l
  | [], _ => rfl
  | x :: r, h => by
    have h1 := enc_cg (f := f) (g := g) r (fun y hy => h y (List.mem_cons_of_mem _ hy))
    have h2 := h x List.mem_cons_self
    show 2 * enc f r + (if f x = 0 then 0 else 1) = 2 * enc g r + (if g x = 0 then 0 else 1)
    rw [h1, h2]
theorem enc_60 (f : Nat → Int32) (l : List Nat) (h : l.length ≤ 40) : enc f l < 2 ^ 60 := Nat.lt_of_lt_of_le (enc_b f l) (Nat.pow_le_pow_right (by decide) (by omega))
end L2
