/-! a text of rules: its tokens, as the reference reads them -/
section ZM
variable {E E' : Mm} {f : Nat → Int32} {N : Nat}
theorem b255 (x : Int32) (h0 : -128 ≤ x) (h1 : x ≤ 127) : (0 ≤ x.toInt → x &&& 255 = x) ∧ (x.toInt < 0 → 128 ≤ (x &&& 255).toInt ∧ (x &&& 255).toInt ≤ 255) := by
  rw [I_le, show (-128 : Int32).toInt = -128 from rfl] at h0
  rw [I_le, show (127 : Int32).toInt = 127 from rfl] at h1
  have e : (x &&& 255).toBitVec.toNat = x.toBitVec.toNat % 256 := by
    rw [Int32.toBitVec_and, BitVec.toNat_and]
    show x.toBitVec.toNat &&& 255 = _
    exact Nat.and_two_pow_sub_one_eq_mod x.toBitVec.toNat 8
  have c1 := BitVec.toInt_eq_toNat_cond x.toBitVec
  have c2 := BitVec.toInt_eq_toNat_cond (x &&& 255).toBitVec
  have d1 : x.toInt = x.toBitVec.toInt := rfl
  have d2 : (x &&& 255).toInt = (x &&& 255).toBitVec.toInt := rfl
  refine ⟨fun q => I_eq ?_, fun q => ?_⟩
  · split at c1 <;> split at c2 <;> omega
  · split at c1 <;> split at c2 <;> omega
/-- a byte as the reference sees it -/
def hh (f : Nat → Int32) (p : Nat) : Int32 := f p &&& 255
theorem hh_c {p : Nat} (hb : -128 ≤ f p ∧ f p ≤ 127) {lo hi : Int32} (h0 : 0 ≤ lo.toInt) (h1 : hi.toInt ≤ 127) : (lo ≤ hh f p ∧ hh f p ≤ hi) ↔ (lo ≤ f p ∧ f p ≤ hi) := by
  obtain ⟨a, b⟩ := b255 (f p) hb.1 hb.2
  unfold hh
  rw [I_le, I_le, I_le, I_le]
  by_cases c : 0 ≤ (f p).toInt
  · rw [a c]
  · have := b (by omega)
    omega
theorem hh_e {p : Nat} (hb : -128 ≤ f p ∧ f p ≤ 127) {c : Int32} (h0 : 0 ≤ c.toInt) (h1 : c.toInt ≤ 127) : hh f p = c ↔ f p = c := by
  obtain ⟨a, b⟩ := b255 (f p) hb.1 hb.2
  unfold hh
  by_cases d : 0 ≤ (f p).toInt
  · rw [a d]
  · have := b (by omega)
    constructor
    · intro q; rw [q] at this; omega
    · intro q; rw [q] at d; omega
theorem hh_nn {p : Nat} (hb : -128 ≤ f p ∧ f p ≤ 127) : 0 ≤ hh f p := by
  obtain ⟨a, b⟩ := b255 (f p) hb.1 hb.2
  unfold hh
  rw [I_le, i0T]
  by_cases d : 0 ≤ (f p).toInt
  · rw [a d]; exact d
  · have := b (by omega); omega
/-- the same but for these cells of the reference's reader -/
def Rx (S : Nat → Prop) (E E' : Mm) : Prop := mR E' = mR E ∧ mK E' = mK E ∧ (∀ a, a ≠ 39 → mI E' a = mI E a ∧ mL E' a = mL E a) ∧ (∀ j, ¬ S j → mI E' 39 j = mI E 39 j) ∧ (∀ j, j ≠ 64 → mL E' 39 j = mL E 39 j)
theorem Rx.rf {S : Nat → Prop} : Rx S E E := ⟨rfl, rfl, fun _ _ => ⟨rfl, rfl⟩, fun _ _ => rfl, fun _ _ => rfl⟩
theorem Rx.tr {S : Nat → Prop} {E2 : Mm} (h : Rx S E E') (h2 : Rx S E' E2) : Rx S E E2 := ⟨h2.1.trans h.1, h2.2.1.trans h.2.1, fun a q => ⟨(h2.2.2.1 a q).1.trans (h.2.2.1 a q).1, (h2.2.2.1 a q).2.trans (h.2.2.1 a q).2⟩, fun j q => (h2.2.2.2.1 j q).trans (h.2.2.2.1 j q), fun j q => (h2.2.2.2.2 j q).trans (h.2.2.2.2 j q)⟩
theorem Rx.s {S : Nat → Prop} {j : Nat} {v : Int32} (h : Rx S E E') (hj : S j) : Rx S E (sI E' 39 j v) := ⟨h.1, h.2.1, fun a q => ⟨(row_n q).trans (h.2.2.1 a q).1, (h.2.2.1 a q).2⟩, fun i q => by rw [mI_sI, if_neg (fun w => q (by rw [w.2]; exact hj))]; exact h.2.2.2.1 i q, h.2.2.2.2⟩
theorem Rx.l {S : Nat → Prop} {v : Int64} (h : Rx S E E') : Rx S E (sL E' 39 64 v) := ⟨h.1, h.2.1, fun a q => ⟨(h.2.2.1 a q).1, by rw [rowL_n q]; exact (h.2.2.1 a q).2⟩, h.2.2.2.1, fun i q => by rw [mL_sL, if_neg (fun w => q w.2)]; exact h.2.2.2.2 i q⟩
theorem Rx.mono {S S' : Nat → Prop} (h : Rx S E E') (q : ∀ j, S j → S' j) : Rx S' E E' := ⟨h.1, h.2.1, h.2.2.1, fun j w => h.2.2.2.1 j (fun z => w (q j z)), h.2.2.2.2⟩
theorem Rx.sr {S : Nat → Prop} (h : Rx S E E') (s : SR E) : SR E' := s.sm h.2.1 h.1
def Byt (f : Nat → Int32) : Prop := ∀ j, j < 500 → -128 ≤ f j ∧ f j ≤ 127
theorem ev_here (sr : SR E) (h79 : mI E 79 = f) (hN : N ≤ 500) (h56 : mI E 39 56 = Int32.ofNat N) {q : Nat} (hq : q ≤ N) (h57 : mI E 39 57 = Int32.ofNat q) : Mod_here E 39 = some (if q < N then hh f q else -1, E) := by
  have Q0 : (0 : Int32) ≤ Int32.ofNat q := of_nn _ (by omega)
  have Q1 : ix (Int32.ofNat q) = q := ix_of _ (by omega)
  unfold Mod_here
  rw [kO_t sr.k39, ck_t, h56, h57]
  by_cases c : q < N
  · rw [if_neg (fun w => by have := (of_le N q (by omega) (by omega)).mp w; omega), sr.r39_53, nn_s, kA_t sr.k79 Q0 (show ix (Int32.ofNat q) < 500 by omega), ck_t, Q1, if_pos c, h79]
    rfl
  · rw [if_pos ((of_le N q (by omega) (by omega)).mpr (by omega)), if_neg c]
/-! the letters of a word, as one number -/
def cL (f : Nat → Int32) (p : Nat) : Nat → Int64
  | 0 => 0
  | j + 1 => if j < 10 then cL f p j * 27 + Int32.toInt64 (hh f (p + j) - 96) else -1
theorem lp_let (hN : N ≤ 500) (hby : Byt f) {p : Nat} : ∀ (d n q : Nat) (E : Mm), q + d = N → d < n → p ≤ q → SR E → mI E 79 = f → mI E 39 56 = Int32.ofNat N → mI E 39 57 = Int32.ofNat q → mI E 39 58 = Int32.ofNat p → mL E 39 64 = cL f p (q - p) → ∃ E', Mod_next_L94 n 39 E = some ((), E') ∧ Rx (fun j => j = 57) E E' ∧ mI E' 39 57 = Int32.ofNat (rnL f d q) ∧ mL E' 39 64 = cL f p (rnL f d q - p) := by
  intro d
  induction d with
  | zero =>
    intro n q E hq hn hp sr h79 h56 h57 h58 hw
    obtain ⟨n, rfl⟩ : ∃ x, n = x + 1 := ⟨n - 1, by omega⟩
    have he := ev_here sr h79 hN h56 (by omega) h57
    rw [if_neg (by omega)] at he
    refine ⟨E, ?_, Rx.rf, h57, hw⟩
    show Mod_next_B94 _ _ _ = _
    unfold Mod_next_B94
    simp only [kO_t sr.k39, ck_t, he, bd_s, ev_in]
    rw [if_pos (show (if (97 : Int32) ≤ -1 ∧ (-1 : Int32) ≤ 122 then (1 : Int32) else 0) = 0 by decide)]
  | succ d ih =>
    intro n q E hq hn hp sr h79 h56 h57 h58 hw
    obtain ⟨n, rfl⟩ : ∃ x, n = x + 1 := ⟨n - 1, by omega⟩
    have he := ev_here sr h79 hN h56 (by omega) h57
    rw [if_pos (by omega)] at he
    have hc := hh_c (f := f) (p := q) (hby q (by omega)) (lo := 97) (hi := 122) (by decide) (by decide)
    show ∃ E', Mod_next_B94 (Mod_next_L94 n) 39 E = some ((), E') ∧ Rx (fun j => j = 57) E E' ∧ mI E' 39 57 = Int32.ofNat (if isL (f q) then rnL f d (q + 1) else q) ∧ mL E' 39 64 = cL f p ((if isL (f q) then rnL f d (q + 1) else q) - p)
    by_cases c : isL (f q)
    · rw [if_pos c]
      have e1 : mI (sL E 39 64 (cL f p (q + 1 - p))) 39 57 = Int32.ofNat q := h57
      obtain ⟨E', z1, z2, z3, z4⟩ := ih n (q + 1) (sI (sL E 39 64 (cL f p (q + 1 - p))) 39 57 (Int32.ofNat (q + 1))) (by omega) (by omega) (by omega) sr h79 h56 (by rw [mI_sI, if_pos ⟨rfl, rfl⟩]) h58 (by rw [mL_sI, mL_sL, if_pos ⟨rfl, rfl⟩])
      refine ⟨E', ?_, (Rx.s (S := fun j => j = 57) Rx.rf.l rfl).tr z2, z3, z4⟩
      rw [← z1]
      have cn : cL f p (q + 1 - p) = if q - p < 10 then cL f p (q - p) * 27 + Int32.toInt64 (hh f q - 96) else -1 := by
        rw [show q + 1 - p = (q - p) + 1 by omega]
        show (if q - p < 10 then cL f p (q - p) * 27 + Int32.toInt64 (hh f (p + (q - p)) - 96) else -1) = _
        rw [show p + (q - p) = q by omega]
      have dd : Int32.ofNat q - Int32.ofNat p = Int32.ofNat (q - p) := of_sub _ _ hp
      unfold Mod_next_B94 Mod_next_J146
      simp only [kO_t sr.k39, ck_t, he, bd_s, ev_in, if_pos (hc.mpr c), if_neg (show ¬ (1 : Int32) = 0 by decide), h57, h58, dd, hw, kO_sL, mI_sL, of_s1 q (by omega)]
      by_cases t : q - p < 10
      · rw [if_neg (show ¬ (10 : Int32) ≤ Int32.ofNat (q - p) from fun w => by have := (of_le 10 (q - p) (by omega) (by omega)).mp w; omega), cn, if_pos t]
      · rw [if_pos (show (10 : Int32) ≤ Int32.ofNat (q - p) from (of_le 10 (q - p) (by omega) (by omega)).mpr (by omega)), cn, if_neg t]
    · rw [if_neg c]
      refine ⟨E, ?_, Rx.rf, h57, hw⟩
      unfold Mod_next_B94
      simp only [kO_t sr.k39, ck_t, he, bd_s, ev_in, if_neg (fun w => c (hc.mp w)), if_pos trivial]
theorem nuT_sn : ∀ (j p : Nat) (a : Int32), nuT f (j + 1) p a = nuT f j p a * 10 + f (p + j) - 48
  | 0, p, a => rfl
  | j + 1, p, a => by
    show nuT f (j + 1) (p + 1) (a * 10 + f p - 48) = nuT f j (p + 1) (a * 10 + f p - 48) * 10 + f (p + (j + 1)) - 48
    rw [nuT_sn j (p + 1) (a * 10 + f p - 48), show p + 1 + j = p + (j + 1) by omega]
theorem nuT_b {p : Nat} : ∀ (j : Nat), j ≤ 5 → (∀ i, p ≤ i → i < p + j → isD (f i)) → 0 ≤ (nuT f j p 0).toInt ∧ (nuT f j p 0).toInt < 10 ^ j
  | 0, _, _ => ⟨by show (0 : Int) ≤ 0; omega, by show (0 : Int) < 1; omega⟩
  | j + 1, h, hd => by
    obtain ⟨a, b⟩ := nuT_b j (by omega) (fun i h1 h2 => hd i h1 (by omega))
    have d := hd (p + j) (by omega) (by omega)
    have d1 := d.1
    have d2 := d.2
    rw [I_le, show (48 : Int32).toInt = 48 from rfl] at d1
    rw [I_le, show (57 : Int32).toInt = 57 from rfl] at d2
    have e : (10 : Int) ^ (j + 1) = 10 ^ j * 10 := Int.pow_succ 10 j
    have u : (10 : Int) ^ j ≤ 10000 := by
      rcases (show j = 0 ∨ j = 1 ∨ j = 2 ∨ j = 3 ∨ j = 4 by omega) with q | q | q | q | q <;> subst q <;> decide
    rw [nuT_sn j p 0, e]
    have t10 : (10 : Int32).toInt = 10 := rfl
    have t48 : (48 : Int32).toInt = 48 := rfl
    have m : (nuT f j p 0 * 10).toInt = (nuT f j p 0).toInt * 10 := by rw [I_mul _ _ (by rw [t10]; omega) (by rw [t10]; omega), t10]
    have s : (nuT f j p 0 * 10 + f (p + j)).toInt = (nuT f j p 0).toInt * 10 + (f (p + j)).toInt := by rw [I_add _ _ (by omega) (by omega) (by omega) (by omega), m]
    rw [I_sub _ _ (by omega) (by omega) (by rw [t48]; omega) (by rw [t48]; omega), s, t48]
    omega
theorem lp_dig (hN : N ≤ 500) (hby : Byt f) {p : Nat} : ∀ (d n q : Nat) (E : Mm), q + d = N → d < n → p ≤ q → SR E → mI E 79 = f → mI E 39 56 = Int32.ofNat N → mI E 39 57 = Int32.ofNat q → mI E 39 58 = Int32.ofNat p → (∀ i, p ≤ i → i < q → isD (f i)) → (q - p ≤ 5 → mI E 39 61 = nuT f (q - p) p 0) → ∃ E', Mod_next_L173 n 39 E = some ((), E') ∧ Rx (fun j => j = 57 ∨ j = 59 ∨ j = 61) E E' ∧ mI E' 39 57 = Int32.ofNat (rnG f d q) ∧ mI E' 39 59 = (if rnG f d q - p ≤ 5 then 2 else 4) ∧ (rnG f d q - p ≤ 5 → mI E' 39 61 = nuT f (rnG f d q - p) p 0 ∧ ∀ i, p ≤ i → i < rnG f d q → isD (f i)) := by
  intro d
  have fin : ∀ (K : Nat → Mm → Option (Unit × Mm)) (q : Nat) (E : Mm), q ≤ N → p ≤ q → SR E → mI E 39 57 = Int32.ofNat q → mI E 39 58 = Int32.ofNat p → Mod_here E 39 = some (if q < N then hh f q else -1, E) → ¬ (48 ≤ (if q < N then hh f q else -1 : Int32) ∧ (if q < N then hh f q else -1 : Int32) ≤ 57) → (∀ i, p ≤ i → i < q → isD (f i)) → (q - p ≤ 5 → mI E 39 61 = nuT f (q - p) p 0) → ∃ E', Mod_next_B173 K 39 E = some ((), E') ∧ Rx (fun j => j = 57 ∨ j = 59 ∨ j = 61) E E' ∧ mI E' 39 57 = Int32.ofNat q ∧ mI E' 39 59 = (if q - p ≤ 5 then 2 else 4) ∧ (q - p ≤ 5 → mI E' 39 61 = nuT f (q - p) p 0 ∧ ∀ i, p ≤ i → i < q → isD (f i)) := by
    intro K q E hqN hp sr h57 h58 he nd hd hv
    have dd : Int32.ofNat q - Int32.ofNat p = Int32.ofNat (q - p) := of_sub _ _ hp
    refine ⟨sI E 39 59 (if q - p ≤ 5 then 2 else 4), ?_, Rx.rf.s (Or.inr (Or.inl rfl)), h57, by rw [mI_sI, if_pos ⟨rfl, rfl⟩], fun t => ⟨by rw [mI_sI, if_neg (by omega)]; exact hv t, hd⟩⟩
    unfold Mod_next_B173
    simp only [kO_t sr.k39, ck_t, he, bd_s, ev_in, if_neg nd, if_pos trivial, h57, h58, dd]
    by_cases t : q - p ≤ 5
    · rw [if_neg (show ¬ (5 : Int32) < Int32.ofNat (q - p) from fun w => by have := (of_lt 5 (q - p) (by omega) (by omega)).mp w; omega), if_pos t]
    · rw [if_pos (show (5 : Int32) < Int32.ofNat (q - p) from (of_lt 5 (q - p) (by omega) (by omega)).mpr (by omega)), if_neg t]
  induction d with
  | zero =>
    intro n q E hq hn hp sr h79 h56 h57 h58 hd hv
    obtain ⟨n, rfl⟩ : ∃ x, n = x + 1 := ⟨n - 1, by omega⟩
    exact fin (Mod_next_L173 n) q E (by omega) hp sr h57 h58 (ev_here sr h79 hN h56 (by omega) h57) (by rw [if_neg (by omega)]; decide) hd hv
  | succ d ih =>
    intro n q E hq hn hp sr h79 h56 h57 h58 hd hv
    obtain ⟨n, rfl⟩ : ∃ x, n = x + 1 := ⟨n - 1, by omega⟩
    have he := ev_here sr h79 hN h56 (show q ≤ N by omega) h57
    have hc := hh_c (f := f) (p := q) (hby q (by omega)) (lo := 48) (hi := 57) (by decide) (by decide)
    show ∃ E', Mod_next_B173 (Mod_next_L173 n) 39 E = some ((), E') ∧ Rx (fun j => j = 57 ∨ j = 59 ∨ j = 61) E E' ∧ mI E' 39 57 = Int32.ofNat (if isD (f q) then rnG f d (q + 1) else q) ∧ mI E' 39 59 = (if (if isD (f q) then rnG f d (q + 1) else q) - p ≤ 5 then 2 else 4) ∧ ((if isD (f q) then rnG f d (q + 1) else q) - p ≤ 5 → mI E' 39 61 = nuT f ((if isD (f q) then rnG f d (q + 1) else q) - p) p 0 ∧ ∀ i, p ≤ i → i < (if isD (f q) then rnG f d (q + 1) else q) → isD (f i))
    by_cases c : isD (f q)
    · rw [if_pos c]
      have hf : hh f q = f q := (b255 (f q) (hby q (by omega)).1 (hby q (by omega)).2).1 (by have := c.1; rw [I_le, show (48 : Int32).toInt = 48 from rfl] at this; omega)
      rw [if_pos (by omega), hf] at he
      obtain ⟨v, ev⟩ : ∃ v, (if (1000000 : Int32) < mI E 39 61 then 1000000 else mI E 39 61) * 10 + f q - 48 = v := ⟨_, rfl⟩
      obtain ⟨E', z1, z2, z3, z4, z5⟩ := ih n (q + 1) (sI (sI E 39 61 v) 39 57 (Int32.ofNat (q + 1))) (by omega) (by omega) (by omega) sr h79 h56 (by rw [mI_sI, if_pos ⟨rfl, rfl⟩]) h58 (fun i h1 h2 => by
          by_cases e : i = q
          · rw [e]; exact c
          · exact hd i h1 (by omega)) (fun t => by
          rw [mI_sI, if_neg (by omega), mI_sI, if_pos ⟨rfl, rfl⟩, show q + 1 - p = (q - p) + 1 by omega, nuT_sn, show p + (q - p) = q by omega, ← ev, hv (by omega)]
          have b := nuT_b (f := f) (p := p) (q - p) (by omega) (fun i h1 h2 => hd i h1 (by omega))
          have u : (10 : Int) ^ (q - p) ≤ 10000 := by
            rcases (show q - p = 0 ∨ q - p = 1 ∨ q - p = 2 ∨ q - p = 3 ∨ q - p = 4 by omega) with w | w | w | w | w <;> rw [w] <;> decide
          rw [if_neg (show ¬ (1000000 : Int32) < nuT f (q - p) p 0 from fun w => by rw [I_lt, show (1000000 : Int32).toInt = 1000000 from rfl] at w; omega)])
      refine ⟨E', ?_, ((Rx.rf.s (Or.inr (Or.inr rfl))).s (Or.inl rfl)).tr z2, z3, z4, z5⟩
      rw [← z1]
      have i57 : mI (sI E 39 61 v) 39 57 = Int32.ofNat q := h57
      unfold Mod_next_B173
      simp only [kO_t sr.k39, ck_t, he, bd_s, ev_in, if_pos c, if_neg (show ¬ (1 : Int32) = 0 by decide), ev_mmin, ev, i57, of_s1 q (by omega)]
    · rw [if_neg c]
      exact fin (Mod_next_L173 n) q E (by omega) hp sr h57 h58 he (by rw [if_pos (by omega)]; exact fun w => c (hc.mp w)) hd hv
end ZM
