/-! bargains are judged: both sides -/
section ZF
variable {k : Nat} {ad : Nat → Nat → Nat} {C R M : Mm}
theorem sI_sm {a j : Nat} {v : Int32} (h : mI M a j = v) : sI M a j v = M := by
  obtain ⟨i, l, r, kk, z, s⟩ := M
  show (_, l, r, kk, z, s) = _
  congr 1
  funext b x
  by_cases e : b = a ∧ x = j
  · rw [if_pos e, e.1, e.2]; exact h.symm
  · rw [if_neg e]; rfl
theorem sI_4 {a b x : Nat} {l0 p0 l p : Int32} (ne : a ≠ b) : sI (sI (sI (sI M a x l0) b x p0) a x l) b x p = sI (sI M a x l) b x p := by
  unfold sI
  congr 1
  funext c y
  show (if c = b ∧ y = x then p else if c = a ∧ y = x then l else if c = b ∧ y = x then p0 else if c = a ∧ y = x then l0 else mI M c y) = (if c = b ∧ y = x then p else if c = a ∧ y = x then l else mI M c y)
  by_cases c1 : c = b ∧ y = x
  · simp only [if_pos c1]
  · simp only [if_neg c1]
    by_cases c2 : c = a ∧ y = x
    · simp only [if_pos c2]
    · simp only [if_neg c2]
theorem half2 (a : Int32) (h0 : 0 ≤ a) (h1 : a ≤ 9999) : (a + a) / 2 = a := by
  rw [I_le, i0T] at h0
  rw [I_le, show (9999 : Int32).toInt = 9999 from rfl] at h1
  apply I_eq
  have e : (a + a).toInt = a.toInt + a.toInt := I_add _ _ (by omega) (by omega) (by omega) (by omega)
  rw [I_div _ _ (by omega) (by decide), e, show (2 : Int32).toInt = 2 from rfl]
  omega
theorem half_b (a b : Int32) (h0 : 0 ≤ a) (h1 : a ≤ 9999) (g0 : 0 ≤ b) (g1 : b ≤ 9999) : 0 ≤ (a + b) / 2 ∧ (a + b) / 2 ≤ 9999 := by
  rw [I_le, i0T] at h0 g0
  rw [I_le, show (9999 : Int32).toInt = 9999 from rfl] at h1 g1
  have e : (a + b).toInt = a.toInt + b.toInt := I_add _ _ (by omega) (by omega) (by omega) (by omega)
  rw [I_le, I_le, I_div _ _ (by omega) (by decide), e, show (2 : Int32).toInt = 2 from rfl, i0T, show (9999 : Int32).toInt = 9999 from rfl]
  omega
theorem judge1 {N s b : Nat} {cv cw : Int32} (h : Rel k ad (ac M N cv cw) R) (off : mI R 39 73 = 0) (hs : s < ix (mI R 39 70)) (hb : b < ix (mI R 88 s)) (z3 : mI R 103 (60 * s + b) = 0) (z4 : mI R 104 (60 * s + b) = 0) : ∃ l p, (Bargain_judge M (ad 15 (60 * s + b)) = some ((), sI (sI M (ad 15 (60 * s + b)) 12 l) (ad 15 (60 * s + b)) 13 p)) ∧ Mod_judges R 39 (Int32.ofNat s) (Int32.ofNat b) = some ((), sI (sI R 103 (60 * s + b) l) 104 (60 * s + b) p) ∧ (0 ≤ l ∧ l ≤ 99) ∧ (0 ≤ p ∧ p ≤ 9999) ∧ (l = 0 → p = 0) := by
  have h24 := s24 h
  have j1 := h.ise.1 s (by omega)
  have u88 : ix (mI R 88 s) ≤ 60 := by have a := j1.1; have c := j1.2.1; clear h; grind [ix_t]
  have bn := (h.shn.1 s hs).2.2.2.2.2.2.2.2.2 b hb
  have farb : ad 15 (60 * s + b) ≠ 31 ∧ ad 15 (60 * s + b) ≠ 30 := by have := h.hA.1 15 (60 * s + b); omega
  have eb : mI (ac M N cv cw) (ad 15 (60 * s + b)) = mI M (ad 15 (60 * s + b)) := ac_I farb.1 farb.2
  have i2 := h.lb2 hs hb
  have i3 := h.lb3 hs hb
  have i5 := h.lb5 hs hb
  have i6 := h.lb6 hs hb
  have i7 := h.lb7 hs hb
  have i8 := h.lb8 hs hb
  have i12 := h.lb12 hs hb
  have i13 := h.lb13 hs hb
  obtain ⟨d9, d10, d105, d106⟩ := h.den s b hs hb
  rw [eb] at i2 i3 i5 i6 i7 i8 i12 i13 d9 d10 d105 d106
  obtain ⟨-, -, c100, c101, -⟩ := h.ise.2.2.2.2.2.1 s b (by omega) hb
  obtain ⟨n0, m0, w0⟩ := h.ise.2.2.2.2.2.2.2.1 (2 * (60 * s + b)) (by omega)
  obtain ⟨n1, m1, w1⟩ := h.ise.2.2.2.2.2.2.2.1 (2 * (60 * s + b) + 1) (by omega)
  have ky : kO M (ad 15 (60 * s + b)) 0 14 = true := kO_t bn.2
  have ex : (60 : Int32) * Int32.ofNat s + Int32.ofNat b = Int32.ofNat (60 * s + b) := by
    rw [show (60 : Int32) = Int32.ofNat 60 from rfl, of_mul, of_add]
  have ex2 : (120 : Int32) * Int32.ofNat s + 2 * Int32.ofNat b = Int32.ofNat (2 * (60 * s + b)) := by
    rw [show (120 : Int32) = Int32.ofNat 120 from rfl, show (2 : Int32) = Int32.ofNat 2 from rfl, of_mul, of_mul, of_add, show 120 * s + 2 * b = 2 * (60 * s + b) by omega]
  have xB : 60 * s + b < 1440 := by omega
  generalize hx : 60 * s + b = x at *
  have X0 : (0 : Int32) ≤ Int32.ofNat x := of_nn _ (by omega)
  have X1 : ix (Int32.ofNat x) = x := ix_of _ (by omega)
  have Xlt : ix (Int32.ofNat x) < 1440 := by omega
  have Y0 : (0 : Int32) ≤ Int32.ofNat (2 * x) := of_nn _ (by omega)
  have Y1 : ix (Int32.ofNat (2 * x)) = 2 * x := ix_of _ (by omega)
  have Ylt : ix (Int32.ofNat (2 * x)) < 2880 := by omega
  have Z0 : (0 : Int32) ≤ Int32.ofNat (2 * x + 1) := of_nn _ (by omega)
  have Z1 : ix (Int32.ofNat (2 * x + 1)) = 2 * x + 1 := ix_of _ (by omega)
  have Zlt : ix (Int32.ofNat (2 * x + 1)) < 2880 := by omega
  generalize hy : ad 15 x = y at *
  have stand : ∀ l p, Bargain_standAs M y l p = some ((), sI (sI M y 12 l) y 13 p) := fun l p => by
    unfold Bargain_standAs
    rw [ky, ck_t]
  have den0 : Bargain_isDenied M y = some ((if mI R 105 x = 0 then 0 else 1 : Int32), M) := by
    unfold Bargain_isDenied
    rw [ky, ck_t]
    rcases d9 with e9 | e9 <;> rcases d10 with e10 | e10 <;> rw [e9, e10] at d105 <;> simp only [e9, e10, d105] <;> rfl
  have same : sI (sI M y 12 0) y 13 0 = M := by
    rw [sI_sm (M := M) (by rw [i12, z3])]
    exact sI_sm (by rw [i13, z4])
  have mj : Mod_judges R 39 (Int32.ofNat s) (Int32.ofNat b) = (if mI R 105 x = 0 then some ((), sI (sI R 103 x (mI R 100 x)) 104 x (mI R 101 x)) else if mI R 107 (2 * x) ≤ 0 then Mod_judges_J172 39 (Int32.ofNat x) (Int32.ofNat (2 * x)) (sI (sI R 103 x (mI R 100 x)) 104 x (mI R 101 x)) else if mI R 107 (2 * x + 1) ≤ 0 then Mod_judges_J172 39 (Int32.ofNat x) (Int32.ofNat (2 * x)) (sI (sI R 103 x (mI R 100 x)) 104 x (mI R 101 x)) else some ((), sI (sI R 103 x (if mI R 107 (2 * x + 1) < mI R 107 (2 * x) then mI R 107 (2 * x + 1) else mI R 107 (2 * x))) 104 x ((mI R 108 (2 * x) + mI R 108 (2 * x + 1)) / 2))) := by
    unfold Mod_judges Mod_judges_J151
    simp only [ex, ex2, of_s1 (2 * x) (by omega), h.o39, ck_t, h.sr.r39_94, h.sr.r39_91, nn_s, kA_t h.sr.k100 X0 Xlt, kA_t h.sr.k103 X0 Xlt, X1, mR_sI, kA_sI, kO_sI, h.sr.r39_95, h.sr.r39_92, kA_t h.sr.k101 X0 Xlt, kA_t h.sr.k104 X0 Xlt, h.sr.r39_96, kA_t h.sr.k105 X0 Xlt, row_n (show 101 ≠ 103 by decide), row_n (show 105 ≠ 104 by decide), row_n (show 105 ≠ 103 by decide), h.sr.r39_98, kA_t h.sr.k107 Y0 Ylt, kA_t h.sr.k107 Z0 Zlt, Y1, Z1, row_n (show 107 ≠ 104 by decide), row_n (show 107 ≠ 103 by decide), ev_mmin, bd_s, h.sr.r39_99, kA_t h.sr.k108 Y0 Ylt, kA_t h.sr.k108 Z0 Zlt, row_n (show 108 ≠ 104 by decide), row_n (show 108 ≠ 103 by decide), sI_4 (M := R) (show 103 ≠ 104 by decide)]
    by_cases c1 : mI R 105 x = 0
    · rw [if_pos c1, if_pos c1]
    · rw [if_neg c1, if_neg c1]
      by_cases c2 : mI R 107 (2 * x) ≤ 0
      · rw [if_pos c2, if_pos c2]
      · rw [if_neg c2, if_neg c2]
        by_cases c3 : mI R 107 (2 * x + 1) ≤ 0
        · rw [if_pos c3, if_pos c3]
        · rw [if_neg c3, if_neg c3]
          by_cases c4 : mI R 107 (2 * x) = mI R 107 (2 * x + 1)
          · rw [if_pos c4]
            by_cases c5 : mI R 108 (2 * x) = mI R 108 (2 * x + 1)
            · rw [if_pos c5, ← c5, half2 _ m0.1 m0.2]
            · rw [if_neg c5]
          · rw [if_neg c4]
  have j172 : ∀ f : Nat, (f = 0 ∧ mI R 106 x = 1 ∨ f = 1 ∧ mI R 106 x = 2) → Mod_judges_J172 39 (Int32.ofNat x) (Int32.ofNat (2 * x)) (sI (sI R 103 x (mI R 100 x)) 104 x (mI R 101 x)) = some ((), sI (sI R 103 x (mI R 107 (2 * x + f))) 104 x (if mI R 107 (2 * x + f) ≤ 0 then 0 else mI R 108 (2 * x + f))) := fun f hf => by
    have V : Int32.ofNat (2 * x) + mI R 106 x - 1 = Int32.ofNat (2 * x + f) := by
      rcases hf with ⟨rfl, e⟩ | ⟨rfl, e⟩
      · rw [e]; show Int32.ofNat (2 * x) + 1 - 1 = Int32.ofNat (2 * x); clear h; grind
      · rw [e, ← of_s1 (2 * x) (by omega)]; clear h; grind
    have V0 : (0 : Int32) ≤ Int32.ofNat (2 * x + f) := of_nn _ (by omega)
    have V1 : ix (Int32.ofNat (2 * x + f)) = 2 * x + f := ix_of _ (by omega)
    have Vlt : ix (Int32.ofNat (2 * x + f)) < 2880 := by omega
    unfold Mod_judges_J172
    simp only [kO_sI, h.o39, ck_t, mR_sI, h.sr.r39_97, nn_s, kA_sI, kA_t h.sr.k106 X0 Xlt, X1, row_n (show 106 ≠ 104 by decide), row_n (show 106 ≠ 103 by decide), V, V1, h.sr.r39_94, h.sr.r39_98, kA_t h.sr.k107 V0 Vlt, kA_t h.sr.k103 X0 Xlt, row_n (show 107 ≠ 104 by decide), row_n (show 107 ≠ 103 by decide), h.sr.r39_95, kA_t h.sr.k104 X0 Xlt, h.sr.r39_99, kA_t h.sr.k108 V0 Vlt, row_n (show 108 ≠ 104 by decide), row_n (show 108 ≠ 103 by decide), sI_4 (M := R) (show 103 ≠ 104 by decide)]
    split <;> rfl
  have bj : Bargain_judge M y = (if mI R 105 x = 0 then some ((), sI (sI M y 12 (mI R 100 x)) y 13 (mI R 101 x)) else if mI R 107 (2 * x) ≤ 0 then Bargain_judge_J65 y M else if mI R 107 (2 * x + 1) ≤ 0 then Bargain_judge_J65 y M else some ((), sI (sI M y 12 (if mI R 107 (2 * x + 1) < mI R 107 (2 * x) then mI R 107 (2 * x + 1) else mI R 107 (2 * x))) y 13 ((mI R 108 (2 * x) + mI R 108 (2 * x + 1)) / 2))) := by
    unfold Bargain_judge
    simp only [ky, ck_t, den0, bd_s, i2, i3, stand, i5, i7, ev_min, i6, i8]
    by_cases c1 : mI R 105 x = 0
    · rw [if_pos c1, if_pos c1, if_pos rfl]
    · rw [if_neg c1, if_neg c1, if_neg (by decide)]
  have j65 : Bargain_judge_J65 y M = (if mI M y 11 = 0 then (if mI R 107 (2 * x + 1) ≤ 0 then some ((), M) else some ((), sI (sI M y 12 (mI R 107 (2 * x + 1))) y 13 (mI R 108 (2 * x + 1)))) else (if mI R 107 (2 * x) ≤ 0 then some ((), M) else some ((), sI (sI M y 12 (mI R 107 (2 * x))) y 13 (mI R 108 (2 * x))))) := by
    unfold Bargain_judge_J65 Bargain_judge_J94
    simp only [ky, ck_t, i5, i6, i7, i8, stand, bd_s]
    by_cases c1 : mI M y 11 = 0
    · simp only [if_pos c1]
    · simp only [if_neg c1]
  have z0 : ∀ {a : Int32}, 0 ≤ a → a ≤ 0 → a = 0 := fun a b => Int32.le_antisymm b a
  have fin : mI R 105 x ≠ 0 → ∃ l p, Bargain_judge_J65 y M = some ((), sI (sI M y 12 l) y 13 p) ∧ Mod_judges_J172 39 (Int32.ofNat x) (Int32.ofNat (2 * x)) (sI (sI R 103 x (mI R 100 x)) 104 x (mI R 101 x)) = some ((), sI (sI R 103 x l) 104 x p) ∧ (0 ≤ l ∧ l ≤ 99) ∧ (0 ≤ p ∧ p ≤ 9999) ∧ (l = 0 → p = 0) := fun ne => by
    have f := d106 ne
    by_cases c1 : mI M y 11 = 0
    · rw [if_pos c1] at f
      rw [j65, if_pos c1, j172 1 (Or.inr ⟨rfl, f⟩)]
      by_cases c2 : mI R 107 (2 * x + 1) ≤ 0
      · have e := z0 n1.1 c2
        refine ⟨0, 0, ?_, ?_, ⟨by decide, by decide⟩, ⟨by decide, by decide⟩, fun _ => rfl⟩
        · rw [if_pos c2, same]
        · rw [if_pos c2, e]
      · refine ⟨_, _, by rw [if_neg c2], by rw [if_neg c2], n1, m1, w1⟩
    · rw [if_neg c1] at f
      rw [j65, if_neg c1, j172 0 (Or.inl ⟨rfl, f⟩)]
      by_cases c2 : mI R 107 (2 * x) ≤ 0
      · have e := z0 n0.1 c2
        refine ⟨0, 0, ?_, ?_, ⟨by decide, by decide⟩, ⟨by decide, by decide⟩, fun _ => rfl⟩
        · rw [if_pos c2, same]
        · rw [Nat.add_zero, if_pos c2, e]
      · refine ⟨_, _, by rw [if_neg c2], by rw [Nat.add_zero, if_neg c2], n0, m0, w0⟩
  rw [bj, mj]
  by_cases c1 : mI R 105 x = 0
  · rw [if_pos c1, if_pos c1]
    refine ⟨_, _, rfl, rfl, ⟨by clear h; grind, by clear h; grind⟩, ⟨by clear h; grind, c101.2⟩, fun e => ?_⟩
    rw [e] at c100
    exact absurd c100.1 (by decide)
  · rw [if_neg c1, if_neg c1]
    by_cases c2 : mI R 107 (2 * x) ≤ 0
    · rw [if_pos c2, if_pos c2]; exact fin c1
    · rw [if_neg c2, if_neg c2]
      by_cases c3 : mI R 107 (2 * x + 1) ≤ 0
      · rw [if_pos c3, if_pos c3]; exact fin c1
      · rw [if_neg c3, if_neg c3]
        refine ⟨_, _, rfl, rfl, ?_, half_b _ _ m0.1 m0.2 m1.1 m1.2, fun e => ?_⟩
        · split
          · exact n1
          · exact n0
        · exfalso
          split at e
          · exact c3 (by rw [e]; decide)
          · exact c2 (by rw [e]; decide)
theorem lp_judge {N s z : Nat} {cv cw ah v : Int32} (hz : z = ad 10 s) : ∀ (d m m2 b : Nat) (M R : Mm), s < ix (mI R 39 70) → b + d = ix (mI R 88 s) → d < m → d < m2 → Rel k ad (ac M N cv cw) R → mI R 39 73 = 0 → (∀ c, b ≤ c → c < 60 → mI R 103 (60 * s + c) = 0 ∧ mI R 104 (60 * s + c) = 0) → ∃ M' R', Session_end_L66 m z (Int32.ofNat b) M = some ((), M') ∧ Mod_closesSession_L160 m2 39 (Int32.ofNat s) ah v (Int32.ofNat b) R = bd (Mod_clears R' 39 (Int32.ofNat s) ah v) (fun _ M39 => some ((), M39)) ∧ Rel k ad (ac M' N cv cw) R' ∧ mI R' 39 = mI R 39 ∧ mL R' = mL R ∧ mI R' 47 = mI R 47 ∧ mI R' 85 = mI R 85 ∧ mI R' 88 = mI R 88 ∧ mI M' 30 = mI M 30 ∧ mI M' 31 = mI M 31 := by
  intro d
  induction d with
  | zero =>
    intro m m2 b M R hs hb hm1 hm2 h off hq
    obtain ⟨m, rfl⟩ : ∃ x, m = x + 1 := ⟨m - 1, by omega⟩
    obtain ⟨m2, rfl⟩ : ∃ x, m2 = x + 1 := ⟨m2 - 1, by omega⟩
    have h24 := s24 h
    have S0 : (0 : Int32) ≤ Int32.ofNat s := of_nn _ (by omega)
    have S1 : ix (Int32.ofNat s) = s := ix_of _ (by omega)
    have sn := h.shn.1 s hs
    have a88 := (h.ise.1 s (by omega)).2.1
    have e88 : mI R 88 s = Int32.ofNat b := by rw [show b = ix (mI R 88 s) by omega]; exact (of_ix _ a88.1).symm
    have le : mI R 88 s ≤ Int32.ofNat b := by rw [e88]; exact Int32.le_refl _
    have far : ad 10 s ≠ 31 ∧ ad 10 s ≠ 30 := by have := h.hA.1 10 s; omega
    have i5 : mI M (ad 10 s) 5 = mI R 88 s := by rw [← ac_I (N := N) (v := cv) (w := cw) far.1 far.2]; exact h.ln5 hs
    have kz : kO M (ad 10 s) 9 11 = true := kO_t sn.2.1
    refine ⟨M, R, ?_, ?_, h, rfl, rfl, rfl, rfl, rfl, rfl, rfl⟩
    · show Session_end_B66 _ _ _ _ = _
      unfold Session_end_B66
      rw [hz, kz, ck_t, i5, if_pos le]
    · show Mod_closesSession_B160 _ _ _ _ _ _ _ = _
      unfold Mod_closesSession_B160
      simp only [h.o39, ck_t, h.sr.r39_79, nn_s, kA_t h.sr.k88 S0 (show ix (Int32.ofNat s) < 24 by omega), S1, if_pos le]
  | succ d ih =>
    intro m m2 b M R hs hb hm1 hm2 h off hq
    obtain ⟨m, rfl⟩ : ∃ x, m = x + 1 := ⟨m - 1, by omega⟩
    obtain ⟨m2, rfl⟩ : ∃ x, m2 = x + 1 := ⟨m2 - 1, by omega⟩
    have h24 := s24 h
    have S0 : (0 : Int32) ≤ Int32.ofNat s := of_nn _ (by omega)
    have S1 : ix (Int32.ofNat s) = s := ix_of _ (by omega)
    have Slt : ix (Int32.ofNat s) < 24 := by omega
    have sn := h.shn.1 s hs
    have j1 := h.ise.1 s (by omega)
    have a88 := j1.2.1
    have u88 : ix (mI R 88 s) ≤ 60 := by have a := j1.1; have c := j1.2.1; clear h; grind [ix_t]
    have hb1 : b < ix (mI R 88 s) := by omega
    have B0 : (0 : Int32) ≤ Int32.ofNat b := of_nn _ (by omega)
    have B1 : ix (Int32.ofNat b) = b := ix_of _ (by omega)
    have nle : ¬ mI R 88 s ≤ Int32.ofNat b := by
      rw [(of_ix _ a88.1).symm]
      intro w
      have := (of_le _ b (by omega) (by omega)).mp w
      omega
    have bn := sn.2.2.2.2.2.2.2.2.2 b hb1
    obtain ⟨l, p, t1, t2, t3, t4, t5⟩ := judge1 h off hs hb1 (hq b (by omega) (by omega)).1 (hq b (by omega) (by omega)).2
    have rel := h.wJud off hs hb1 t3 t4 t5
    have far : ad 10 s ≠ 31 ∧ ad 10 s ≠ 30 := by have := h.hA.1 10 s; omega
    have farb : ad 15 (60 * s + b) ≠ 31 ∧ ad 15 (60 * s + b) ≠ 30 := by have := h.hA.1 15 (60 * s + b); omega
    have bz : ad 10 s ≠ ad 15 (60 * s + b) := fun e => by have := (h.hA.2 _ _ _ _ e).1; omega
    rw [← ac_sI farb.1 farb.2, ← ac_sI farb.1 farb.2] at rel
    have i5 : mI M (ad 10 s) 5 = mI R 88 s := by rw [← ac_I (N := N) (v := cv) (w := cw) far.1 far.2]; exact h.ln5 hs
    have i6 : mI M (ad 10 s) 6 = mI R 89 s := by rw [← ac_I (N := N) (v := cv) (w := cw) far.1 far.2]; exact h.ln6 hs
    have kz : kO M (ad 10 s) 9 11 = true := kO_t sn.2.1
    have kb : kO M (ad 15 (60 * s + b)) 0 14 = true := kO_t bn.2
    have r3 : mR M (ad 10 s) 3 = some (ad 13 s) := sn.2.2.2.2.1
    have k13 : kA M (ad 13 s) 29 (Int32.ofNat b) = true := kA_t sn.2.2.2.2.2.2.2.1 B0 (by omega)
    have r13 : mR M (ad 13 s) b = some (ad 15 (60 * s + b)) := bn.1
    have i12 : mI (sI (sI M (ad 15 (60 * s + b)) 12 l) (ad 15 (60 * s + b)) 13 p) (ad 15 (60 * s + b)) 12 = l := by
      rw [mI_sI, if_neg (by omega), mI_sI, if_pos ⟨rfl, rfl⟩]
    have i6' : mI (sI (sI M (ad 15 (60 * s + b)) 12 l) (ad 15 (60 * s + b)) 13 p) (ad 10 s) 6 = mI R 89 s := by
      rw [row_n bz, row_n bz]; exact i6
    have ex : (60 : Int32) * Int32.ofNat s + Int32.ofNat b = Int32.ofNat (60 * s + b) := by
      rw [show (60 : Int32) = Int32.ofNat 60 from rfl, of_mul, of_add]
    have X0 : (0 : Int32) ≤ Int32.ofNat (60 * s + b) := of_nn _ (by omega)
    have X1 : ix (Int32.ofNat (60 * s + b)) = 60 * s + b := ix_of _ (by omega)
    have Xlt : ix (Int32.ofNat (60 * s + b)) < 1440 := by omega
    have e103 : mI (sI (sI R 103 (60 * s + b) l) 104 (60 * s + b) p) 103 (60 * s + b) = l := by
      rw [row_n (by decide), mI_sI, if_pos ⟨rfl, rfl⟩]
    have hq2 : ∀ R2 : Mm, mI R2 103 = mI (sI (sI R 103 (60 * s + b) l) 104 (60 * s + b) p) 103 → mI R2 104 = mI (sI (sI R 103 (60 * s + b) l) 104 (60 * s + b) p) 104 → ∀ c, b + 1 ≤ c → c < 60 → mI R2 103 (60 * s + c) = 0 ∧ mI R2 104 (60 * s + c) = 0 := fun R2 g1 g2 c c1 c2 => by
      rw [g1, g2, row_n (show 103 ≠ 104 by decide), mI_sI, if_neg (by omega), mI_sI (b := 104), if_neg (by omega), row_n (show 104 ≠ 103 by decide)]
      exact hq c (by omega) c2
    have cls : Session_end_B66 (Session_end_L66 m) z (Int32.ofNat b) M = (if l ≤ 0 then Session_end_L66 m z (Int32.ofNat (b + 1)) (sI (sI M (ad 15 (60 * s + b)) 12 l) (ad 15 (60 * s + b)) 13 p) else Session_end_L66 m z (Int32.ofNat (b + 1)) (sI (sI (sI M (ad 15 (60 * s + b)) 12 l) (ad 15 (60 * s + b)) 13 p) z 6 (mI R 89 s + 1))) := by
      unfold Session_end_B66 Session_end_J105
      rw [hz]
      simp only [kz, ck_t, i5, if_neg nle, r3, nn_s, k13, B1, r13, kb, t1, bd_s, kO_sI, mR_sI, kA_sI, i12, i6', of_s1 b (by omega)]
    have rfs : Mod_closesSession_B160 (Mod_closesSession_L160 m2) 39 (Int32.ofNat s) ah v (Int32.ofNat b) R = (if l ≤ 0 then Mod_closesSession_L160 m2 39 (Int32.ofNat s) ah v (Int32.ofNat (b + 1)) (sI (sI R 103 (60 * s + b) l) 104 (60 * s + b) p) else Mod_closesSession_L160 m2 39 (Int32.ofNat s) ah v (Int32.ofNat (b + 1)) (sI (sI (sI R 103 (60 * s + b) l) 104 (60 * s + b) p) 89 s (mI R 89 s + 1))) := by
      unfold Mod_closesSession_B160 Mod_closesSession_J203
      simp only [h.o39, ck_t, h.sr.r39_79, nn_s, kA_t h.sr.k88 S0 Slt, S1, if_neg nle, t2, bd_s, kO_sI, mR_sI, kA_sI, h.sr.r39_94, ex, kA_t h.sr.k103 X0 Xlt, X1, e103, h.sr.r39_80, kA_t h.sr.k89 S0 Slt, row_n (show 89 ≠ 104 by decide), row_n (show 89 ≠ 103 by decide), of_s1 b (by omega)]
    by_cases c1 : l ≤ 0
    · rw [if_pos c1] at cls rfs
      obtain ⟨M', R', y1, y2, y3, y4, y5, y6, y7, y8, y9, y10⟩ := ih m m2 (b + 1) _ _ (by exact hs) (by show b + 1 + d = ix (mI R 88 s); omega) (by omega) (by omega) rel (by exact off) (hq2 _ rfl rfl)
      refine ⟨M', R', cls.trans y1, rfs.trans y2, y3, y4, y5, y6, y7, y8, y9.trans ?_, y10.trans ?_⟩
      · rw [row_n (fun e => farb.2 e.symm), row_n (fun e => farb.2 e.symm)]
      · rw [row_n (fun e => farb.1 e.symm), row_n (fun e => farb.1 e.symm)]
    · rw [if_neg c1] at cls rfs
      have rel2 := rel.wSto off hs (v := mI R 89 s + 1)
      rw [← ac_sI far.1 far.2, ← hz] at rel2
      obtain ⟨M', R', y1, y2, y3, y4, y5, y6, y7, y8, y9, y10⟩ := ih m m2 (b + 1) _ _ (by exact hs) (by show b + 1 + d = ix (mI R 88 s); omega) (by omega) (by omega) rel2 (by exact off) (hq2 _ rfl rfl)
      refine ⟨M', R', cls.trans y1, rfs.trans y2, y3, y4, y5, y6, y7, y8, y9.trans ?_, y10.trans ?_⟩
      · rw [hz, row_n (fun e => far.2 e.symm), row_n (fun e => farb.2 e.symm), row_n (fun e => farb.2 e.symm)]
      · rw [hz, row_n (fun e => far.1 e.symm), row_n (fun e => farb.1 e.symm), row_n (fun e => farb.1 e.symm)]
end ZF
