/-! words and their numbers; the reference's next token -/
section ZN
variable {E E' : Mm} {f : Nat → Int32} {N : Nat}
def Wd (k : Nat) : Int64 := ([3436200, 1239032113, 187426886, 133925, 55175, 153623, 5146, 4075196, 275695007, 10423497, 158537, 2968, 168984, 459652, 1841972, 200966728393, 360941, 11522, 10502465, 123002136, 249, 423, 1111, 10631] : List Int64).getD k 0
def cI (h : Nat → Int) : Nat → Int
  | 0 => 0
  | j + 1 => cI h j * 27 + h j
theorem Wd_c : ∀ k, k < 24 → (Wd k).toInt = cI (fun j => (tx1 (wSt k + j)).toInt - 96) (wLn k) ∧ (∀ j, j < wLn k → 1 ≤ (tx1 (wSt k + j)).toInt - 96 ∧ (tx1 (wSt k + j)).toInt - 96 ≤ 26) := by decide +kernel
theorem Wd_i : ∀ k, k < 24 → ∀ k', k' < 24 → Wd k = Wd k' → k = k' := by decide +kernel
theorem Wd_n1 : ∀ k, k < 24 → ¬ (-1 : Int64) = Wd k := by decide +kernel
theorem cI_nn {h : Nat → Int} : ∀ {m : Nat}, (∀ i, i < m → 1 ≤ h i ∧ h i ≤ 26) → 0 ≤ cI h m ∧ (0 < m → 1 ≤ cI h m)
  | 0, _ => ⟨Int.le_refl 0, fun q => by omega⟩
  | m + 1, H => by
    have a := (cI_nn (m := m) (fun i hi => H i (by omega))).1
    have b := H m (by omega)
    show 0 ≤ cI h m * 27 + h m ∧ (0 < m + 1 → 1 ≤ cI h m * 27 + h m)
    omega
theorem cI_inj {h h' : Nat → Int} : ∀ {m m' : Nat}, (∀ i, i < m → 1 ≤ h i ∧ h i ≤ 26) → (∀ i, i < m' → 1 ≤ h' i ∧ h' i ≤ 26) → cI h m = cI h' m' → m = m' ∧ ∀ i, i < m → h i = h' i
  | 0, 0, _, _, _ => ⟨rfl, fun i hi => by omega⟩
  | 0, m' + 1, _, H', e => by
    have := (cI_nn (m := m' + 1) H').2 (by omega)
    have e : (0 : Int) = cI h' (m' + 1) := e
    omega
  | m + 1, 0, H, _, e => by
    have := (cI_nn (m := m + 1) H).2 (by omega)
    have e : cI h (m + 1) = (0 : Int) := e
    omega
  | m + 1, m' + 1, H, H', e => by
    have e : cI h m * 27 + h m = cI h' m' * 27 + h' m' := e
    have a := H m (by omega)
    have b := H' m' (by omega)
    have ee : cI h m = cI h' m' ∧ h m = h' m' := by omega
    obtain ⟨c1, c2⟩ := cI_inj (m := m) (m' := m') (fun i hi => H i (by omega)) (fun i hi => H' i (by omega)) ee.1
    obtain rfl := c1
    refine ⟨rfl, fun i hi => ?_⟩
    by_cases q : i = m
    · rw [q]; exact ee.2
    · exact c2 i (by omega)
theorem L_let {x : Int32} (h : isL x) : 97 ≤ x.toInt ∧ x.toInt ≤ 122 := by
  have a := h.1
  have b := h.2
  rw [I_le, show (97 : Int32).toInt = 97 from rfl] at a
  rw [I_le, show (122 : Int32).toInt = 122 from rfl] at b
  exact ⟨a, b⟩
theorem hh_let {p : Nat} (hb : -128 ≤ f p ∧ f p ≤ 127) (h : isL (f p)) : hh f p = f p := (b255 (f p) hb.1 hb.2).1 (by have := L_let h; omega)
theorem cL_t (hby : Byt f) {p : Nat} : ∀ (j : Nat), j ≤ 10 → p + j ≤ 500 → (∀ i, i < j → isL (f (p + i))) → (cL f p j).toInt = cI (fun i => (f (p + i)).toInt - 96) j ∧ 0 ≤ (cL f p j).toInt ∧ (cL f p j).toInt < 27 ^ j
  | 0, _, _, _ => ⟨rfl, by show (0 : Int) ≤ 0; omega, by show (0 : Int) < 1; omega⟩
  | j + 1, h, hp, hl => by
    obtain ⟨a, b, c⟩ := cL_t hby j (by omega) (by omega) (fun i hi => hl i (by omega))
    have l := hl j (by omega)
    have lt := L_let l
    have eh := hh_let (hby (p + j) (by omega)) l
    have u : (27 : Int) ^ j ≤ 27 ^ 9 := by
      rcases (show j = 0 ∨ j = 1 ∨ j = 2 ∨ j = 3 ∨ j = 4 ∨ j = 5 ∨ j = 6 ∨ j = 7 ∨ j = 8 ∨ j = 9 by omega) with q | q | q | q | q | q | q | q | q | q <;> subst q <;> decide
    have u9 : (27 : Int) ^ 9 = 7625597484987 := by decide
    have e : (27 : Int) ^ (j + 1) = 27 ^ j * 27 := Int.pow_succ 27 j
    have cs : cL f p (j + 1) = cL f p j * 27 + Int32.toInt64 (f (p + j) - 96) := by
      show (if j < 10 then cL f p j * 27 + Int32.toInt64 (hh f (p + j) - 96) else -1) = _
      rw [if_pos (by omega), eh]
    have t27 : (27 : Int64).toInt = 27 := rfl
    have t96 : (96 : Int32).toInt = 96 := rfl
    have m : (cL f p j * 27).toInt = (cL f p j).toInt * 27 := by rw [L_mul _ _ (by rw [t27]; omega) (by rw [t27]; omega), t27]
    have s : (Int32.toInt64 (f (p + j) - 96)).toInt = (f (p + j)).toInt - 96 := by rw [T_L, I_sub _ _ (by omega) (by omega) (by rw [t96]; omega) (by rw [t96]; omega), t96]
    have t : (cL f p (j + 1)).toInt = (cL f p j).toInt * 27 + ((f (p + j)).toInt - 96) := by rw [cs, L_add _ _ (by omega) (by omega) (by omega) (by omega), m, s]
    refine ⟨?_, by omega, by rw [e]; omega⟩
    show _ = cI (fun i => (f (p + i)).toInt - 96) j * 27 + ((f (p + j)).toInt - 96)
    omega
theorem cL_big {p : Nat} : ∀ (j : Nat), cL f p (j + 11) = -1
  | j => by
    show (if j + 10 < 10 then cL f p (j + 10) * 27 + Int32.toInt64 (hh f (p + (j + 10)) - 96) else -1) = -1
    rw [if_neg (by omega)]
theorem smB_iff {p s : Nat} : ∀ (d i : Nat), smB f p s d i = true ↔ ∀ j, i ≤ j → j < i + d → tx1 (s + (j - p)) = f j
  | 0, i => ⟨fun _ j h1 h2 => by omega, fun _ => rfl⟩
  | d + 1, i => by
    have ih := smB_iff (p := p) (s := s) d (i + 1)
    show (if tx1 (s + (i - p)) = f i then smB f p s d (i + 1) else false) = true ↔ _
    by_cases c : tx1 (s + (i - p)) = f i
    · rw [if_pos c, ih]
      refine ⟨fun q j h1 h2 => ?_, fun q j h1 h2 => q j (by omega) (by omega)⟩
      by_cases e : j = i
      · rw [e]; exact c
      · exact q j (by omega) (by omega)
    · rw [if_neg c]
      refine ⟨fun q => (by cases q), fun q => absurd (q i (by omega) (by omega)) c⟩
theorem gW_iff {p L k : Nat} : gW f p (p + L) k = true ↔ wLn k = L ∧ ∀ i, i < L → tx1 (wSt k + i) = f (p + i) := by
  unfold gW
  rw [Bool.and_eq_true, decide_eq_true_eq, smB_iff, show p + L - p = L by omega]
  refine ⟨fun q => ⟨q.1, fun i hi => ?_⟩, fun q => ⟨q.1, fun j h1 h2 => ?_⟩⟩
  · have := q.2 (p + i) (by omega) (by omega)
    rw [show p + i - p = i by omega] at this
    exact this
  · have := q.2 (j - p) (by omega)
    rw [show p + (j - p) = j by omega] at this
    exact this
theorem word_bg {p L wl : Nat} {wd : Int64} (t5 : wl ≤ 8) (n1 : ¬ (-1 : Int64) = wd) (c : ¬ L ≤ 10) : ¬ cL f p L = wd ∧ ¬ wl = L := by
  obtain ⟨j, hj⟩ : ∃ j, L = j + 11 := ⟨L - 11, by omega⟩
  refine ⟨fun q => ?_, by clear n1; omega⟩
  rw [hj, cL_big] at q
  exact n1 q
theorem word_fw (hby : Byt f) {p L wl : Nat} {wd : Int64} {t : Nat → Int32} (w1 : wd.toInt = cI (fun j => (t j).toInt - 96) wl) (w2 : ∀ j, j < wl → 1 ≤ (t j).toInt - 96 ∧ (t j).toInt - 96 ≤ 26) (c : L ≤ 10) (hp : p + L ≤ 500) (hl : ∀ i, i < L → isL (f (p + i))) (q : cL f p L = wd) : wl = L ∧ ∀ i, i < L → t i = f (p + i) := by
  obtain ⟨a, -, -⟩ := cL_t hby L c hp hl
  have dig : ∀ i, i < L → 1 ≤ (f (p + i)).toInt - 96 ∧ (f (p + i)).toInt - 96 ≤ 26 := fun i hi => by have := L_let (hl i hi); omega
  have e : cI (fun i => (f (p + i)).toInt - 96) L = cI (fun j => (t j).toInt - 96) wl := by rw [← a, ← w1, q]
  obtain ⟨r1, r2⟩ := cI_inj (h := fun i => (f (p + i)).toInt - 96) (h' := fun j => (t j).toInt - 96) dig w2 e
  refine ⟨r1.symm, fun i hi => I_eq ?_⟩
  have this : (f (p + i)).toInt - 96 = (t i).toInt - 96 := r2 i hi
  omega
theorem word_bw (hby : Byt f) {p L wl : Nat} {wd : Int64} {t : Nat → Int32} (w1 : wd.toInt = cI (fun j => (t j).toInt - 96) wl) (c : L ≤ 10) (hp : p + L ≤ 500) (hl : ∀ i, i < L → isL (f (p + i))) (q : wl = L ∧ ∀ i, i < L → t i = f (p + i)) : cL f p L = wd := by
  obtain ⟨a, -, -⟩ := cL_t hby L c hp hl
  have key : ∀ m, m ≤ L → cI (fun i => (f (p + i)).toInt - 96) m = cI (fun j => (t j).toInt - 96) m := by
    intro m
    induction m with
    | zero =>
      intro _
      show (0 : Int) = 0
      rfl
    | succ m ih =>
      intro hm
      have i1 := ih (by omega)
      have i2 := q.2 m (by omega)
      show cI (fun i => (f (p + i)).toInt - 96) m * 27 + ((f (p + m)).toInt - 96) = cI (fun j => (t j).toInt - 96) m * 27 + ((t m).toInt - 96)
      rw [i1, i2]
  apply L_eq
  rw [a, w1, q.1]
  exact key L (Nat.le_refl _)
theorem word_gen (hby : Byt f) {p L wl : Nat} {wd : Int64} {t : Nat → Int32} (w1 : wd.toInt = cI (fun j => (t j).toInt - 96) wl) (w2 : ∀ j, j < wl → 1 ≤ (t j).toInt - 96 ∧ (t j).toInt - 96 ≤ 26) (t5 : wl ≤ 8) (n1 : ¬ (-1 : Int64) = wd) (hp : p + L ≤ 500) (hl : ∀ i, i < L → isL (f (p + i))) : cL f p L = wd ↔ (wl = L ∧ ∀ i, i < L → t i = f (p + i)) := by
  by_cases c : L ≤ 10
  · exact ⟨word_fw hby w1 w2 c hp hl, word_bw hby w1 c hp hl⟩
  · obtain ⟨x, y⟩ := word_bg (f := f) (p := p) t5 n1 c
    exact ⟨fun q => absurd q x, fun q => absurd q.1 y⟩
theorem word_iff (hby : Byt f) {p L k : Nat} (hk : k < 24) (hp : p + L ≤ 500) (hl : ∀ i, i < L → isL (f (p + i))) : cL f p L = Wd k ↔ gW f p (p + L) k = true := by
  rw [gW_iff]
  exact word_gen hby (Wd_c k hk).1 (Wd_c k hk).2 (tx_w2 k hk).2.2.2.2.1 (Wd_n1 k hk) hp hl
theorem fWd_s {g : Nat → Bool} : ∀ (d k0 : Nat), (fWd g d k0 = -1 ∧ ∀ k, k0 ≤ k → k < k0 + d → g k = false) ∨ ∃ k, k0 ≤ k ∧ k < k0 + d ∧ g k = true ∧ fWd g d k0 = Int32.ofNat k
  | 0, k0 => Or.inl ⟨rfl, fun k h1 h2 => by omega⟩
  | d + 1, k0 => by
    have ih := fWd_s (g := g) d (k0 + 1)
    have e : fWd g (d + 1) k0 = if g k0 = true then Int32.ofNat k0 else fWd g d (k0 + 1) := rfl
    by_cases c : g k0 = true
    · rw [if_pos c] at e
      exact Or.inr ⟨k0, by omega, by omega, c, e⟩
    · rw [if_neg c] at e
      rw [e]
      rcases ih with ⟨h1, h2⟩ | ⟨k, h1, h2, h3, h4⟩
      · refine Or.inl ⟨h1, fun k q1 q2 => ?_⟩
        by_cases e2 : k = k0
        · rw [e2]; exact Bool.eq_false_iff.mpr c
        · exact h2 k (by omega) (by omega)
      · exact Or.inr ⟨k, by omega, by omega, h3, h4⟩
theorem rnL_a : ∀ (d p i : Nat), p ≤ i → i < rnL f d p → isL (f i)
  | 0, p, i, h1, h2 => by have h2 : i < p := h2; omega
  | d + 1, p, i, h1, h2 => by
    have h2 : i < (if isL (f p) then rnL f d (p + 1) else p) := h2
    by_cases c : isL (f p)
    · rw [if_pos c] at h2
      by_cases e : i = p
      · rw [e]; exact c
      · exact rnL_a d (p + 1) i (by omega) h2
    · rw [if_neg c] at h2; omega
theorem en_let {p : Nat} (hp : p < N) (hl : isL (f p)) : ∀ i, i < enT f N p - p → isL (f (p + i)) := fun i hi => by
  have e : enT f N p = rnL f (N - (p + 1)) (p + 1) := by unfold enT; rw [if_pos hl]
  by_cases c : i = 0
  · rw [c]; exact hl
  · rw [e] at hi
    exact rnL_a (N - (p + 1)) (p + 1) (p + i) (by omega) (by omega)
theorem kd_iff (hby : Byt f) (hN : N ≤ 500) {p : Nat} (hp : p < N) (hl : isL (f p)) : (∀ k, k < 24 → (cL f p (enT f N p - p) = Wd k ↔ kdT f N p = Int32.ofNat k)) ∧ (kdT f N p = -1 ∨ ∃ k, k < 24 ∧ kdT f N p = Int32.ofNat k ∧ enT f N p = p + wLn k) := by
  have eb := enT_b (f := f) hp
  have ek : kdT f N p = fWd (gW f p (enT f N p)) 24 0 := by unfold kdT; rw [if_pos hl]
  have wi := fun k (hk : k < 24) => word_iff (k := k) hby hk (p := p) (L := enT f N p - p) (by omega) (en_let hp hl)
  rw [show p + (enT f N p - p) = enT f N p by omega] at wi
  rcases fWd_s (g := gW f p (enT f N p)) 24 0 with ⟨h1, h2⟩ | ⟨k, h1, h2, h3, h4⟩
  · refine ⟨fun k hk => ?_, Or.inl (by rw [ek]; exact h1)⟩
    rw [wi k hk, ek, h1, h2 k (by omega) (by omega)]
    refine ⟨fun q => (by cases q), fun q => ?_⟩
    have := of_nn k (show k < 2147483648 by omega)
    rw [← q] at this
    exact absurd this (by decide)
  · refine ⟨fun k' hk' => ?_, Or.inr ⟨k, by omega, by rw [ek]; exact h4, ?_⟩⟩
    · rw [ek, h4]
      refine ⟨fun q => ?_, fun q => ?_⟩
      · have e2 := (wi k (by omega)).mpr h3
        rw [Wd_i k (by omega) k' hk' (by rw [← e2, ← q])]
      · rw [← (of_eq k k' (by omega) (by omega)).mp q]
        exact (wi k (by omega)).mpr h3
    · have := (gW_iff (f := f) (p := p) (L := enT f N p - p) (k := k)).mp (by rw [show p + (enT f N p - p) = enT f N p by omega]; exact h3)
      omega
def sgC (j : Nat) : Int32 := ([60, 62, 61, 59, 40, 41] : List Int32).getD j 0
theorem sgT_s (x : Int32) : (sgT x = -1 ∧ ∀ j, j < 6 → x ≠ sgC j) ∨ ∃ j, j < 6 ∧ x = sgC j ∧ sgT x = Int32.ofNat (24 + j) := by
  unfold sgT
  by_cases c0 : 60 = x
  · rw [if_pos c0]; exact Or.inr ⟨0, by decide, c0.symm, rfl⟩
  rw [if_neg c0]
  by_cases c1 : 62 = x
  · rw [if_pos c1]; exact Or.inr ⟨1, by decide, c1.symm, rfl⟩
  rw [if_neg c1]
  by_cases c2 : 61 = x
  · rw [if_pos c2]; exact Or.inr ⟨2, by decide, c2.symm, rfl⟩
  rw [if_neg c2]
  by_cases c3 : 59 = x
  · rw [if_pos c3]; exact Or.inr ⟨3, by decide, c3.symm, rfl⟩
  rw [if_neg c3]
  by_cases c4 : 40 = x
  · rw [if_pos c4]; exact Or.inr ⟨4, by decide, c4.symm, rfl⟩
  rw [if_neg c4]
  by_cases c5 : 41 = x
  · rw [if_pos c5]; exact Or.inr ⟨5, by decide, c5.symm, rfl⟩
  rw [if_neg c5]
  refine Or.inl ⟨rfl, fun j hj e => ?_⟩
  rcases (show j = 0 ∨ j = 1 ∨ j = 2 ∨ j = 3 ∨ j = 4 ∨ j = 5 by omega) with q | q | q | q | q | q <;> subst q
  · exact c0 e.symm
  · exact c1 e.symm
  · exact c2 e.symm
  · exact c3 e.symm
  · exact c4 e.symm
  · exact c5 e.symm
/-- what the reference's reader holds is a token of this kind and number -/
def TK (E : Mm) (kd nu : Int32) : Prop := (mI E 39 59 = 0 ↔ kd = 31) ∧ (∀ k, k < 24 → ((mI E 39 59 = 1 ∧ mL E 39 64 = Wd k) ↔ kd = Int32.ofNat k)) ∧ (∀ j, j < 6 → ((mI E 39 59 = 3 ∧ mI E 39 60 = sgC j) ↔ kd = Int32.ofNat (24 + j))) ∧ (mI E 39 59 = 2 ↔ kd = 30) ∧ (kd = 30 → mI E 39 61 = nu)
theorem of_ne {a b : Nat} (ha : a < 2147483648) (hb : b < 2147483648) (h : a ≠ b) : ¬ Int32.ofNat a = Int32.ofNat b := fun q => h ((of_eq a b ha hb).mp q)
theorem of_n1 {a : Nat} (ha : a < 2147483648) : ¬ (-1 : Int32) = Int32.ofNat a := fun q => by
  have := of_nn a ha
  rw [← q] at this
  exact absurd this (by decide)
theorem TK_end (h : mI E 39 59 = 0) (nu : Int32) : TK E 31 nu := by
  unfold TK
  rw [h]
  exact ⟨⟨fun _ => rfl, fun _ => rfl⟩, fun k hk => ⟨fun q => absurd q.1 (by decide), fun q => absurd q (of_ne (a := 31) (by decide) (by omega) (by omega))⟩, fun j hj => ⟨fun q => absurd q.1 (by decide), fun q => absurd q (of_ne (a := 31) (by decide) (by omega) (by omega))⟩, ⟨fun q => absurd q (by decide), fun q => absurd q (by decide)⟩, fun q => absurd q (by decide)⟩
theorem TK_let (hby : Byt f) (hN : N ≤ 500) {p : Nat} (hp : p < N) (hl : isL (f p)) (h59 : mI E 39 59 = 1) (h64 : mL E 39 64 = cL f p (enT f N p - p)) (nu : Int32) : TK E (kdT f N p) nu := by
  obtain ⟨a, b⟩ := kd_iff hby hN hp hl
  have big : ∀ x : Nat, 24 ≤ x → x < 100 → ¬ kdT f N p = Int32.ofNat x := fun x h1 h2 q => by
    rcases b with e | ⟨k, e1, e2, -⟩
    · rw [e] at q; exact of_n1 (by omega) q
    · rw [e2] at q; exact of_ne (by omega) (by omega) (by omega) q
  unfold TK
  rw [h59, h64]
  exact ⟨⟨fun q => absurd q (by decide), fun q => absurd q (big 31 (by decide) (by decide))⟩, fun k hk => ⟨fun q => (a k hk).mp q.2, fun q => ⟨rfl, (a k hk).mpr q⟩⟩, fun j hj => ⟨fun q => absurd q.1 (by decide), fun q => absurd q (big (24 + j) (by omega) (by omega))⟩, ⟨fun q => absurd q (by decide), fun q => absurd q (big 30 (by decide) (by decide))⟩, fun q => absurd q (big 30 (by decide) (by decide))⟩
theorem TK_dig {p : Nat} (nl : ¬ isL (f p)) (hd : isD (f p)) (h59 : mI E 39 59 = if enT f N p - p ≤ 5 then 2 else 4) (h61 : enT f N p - p ≤ 5 → mI E 39 61 = nbT f N p) : TK E (kdT f N p) (nbT f N p) := by
  have ek : kdT f N p = if enT f N p - p ≤ 5 then 30 else -1 := by unfold kdT; rw [if_neg nl, if_pos hd]
  unfold TK
  rw [h59, ek]
  by_cases c : enT f N p - p ≤ 5
  · rw [if_pos c, if_pos c]
    exact ⟨⟨fun q => absurd q (by decide), fun q => absurd q (by decide)⟩, fun k hk => ⟨fun q => absurd q.1 (by decide), fun q => absurd q (of_ne (a := 30) (by decide) (by omega) (by omega))⟩, fun j hj => ⟨fun q => absurd q.1 (by decide), fun q => absurd q (of_ne (a := 30) (by decide) (by omega) (by omega))⟩, ⟨fun _ => rfl, fun _ => rfl⟩, fun _ => h61 c⟩
  · rw [if_neg c, if_neg c]
    exact ⟨⟨fun q => absurd q (by decide), fun q => absurd q (by decide)⟩, fun k hk => ⟨fun q => absurd q.1 (by decide), fun q => absurd q (of_n1 (by omega))⟩, fun j hj => ⟨fun q => absurd q.1 (by decide), fun q => absurd q (of_n1 (by omega))⟩, ⟨fun q => absurd q (by decide), fun q => absurd q (by decide)⟩, fun q => absurd q (by decide)⟩
theorem TK_sig (hb : ∀ p, p < N → -128 ≤ f p ∧ f p ≤ 127) {p : Nat} (hp : p < N) (nl : ¬ isL (f p)) (nd : ¬ isD (f p)) (h59 : mI E 39 59 = if sgT (f p) = -1 then 4 else 3) (h60 : mI E 39 60 = hh f p) (nu : Int32) : TK E (kdT f N p) nu := by
  have ek : kdT f N p = sgT (f p) := by unfold kdT; rw [if_neg nl, if_neg nd]
  unfold TK
  rw [h59, h60, ek]
  rcases sgT_s (f p) with ⟨e1, e2⟩ | ⟨j, e1, e2, e3⟩
  · rw [e1, if_pos rfl]
    exact ⟨⟨fun q => absurd q (by decide), fun q => absurd q (by decide)⟩, fun k hk => ⟨fun q => absurd q.1 (by decide), fun q => absurd q (of_n1 (by omega))⟩, fun j hj => ⟨fun q => absurd q.1 (by decide), fun q => absurd q (of_n1 (by omega))⟩, ⟨fun q => absurd q (by decide), fun q => absurd q (by decide)⟩, fun q => absurd q (by decide)⟩
  · rw [e3, if_neg (fun q => of_n1 (show 24 + j < 2147483648 by omega) q.symm)]
    have cB : ∀ i, i < 6 → 0 ≤ (sgC i).toInt ∧ (sgC i).toInt ≤ 127 := by decide
    have cJ : ∀ i, i < 6 → ∀ i', i' < 6 → sgC i = sgC i' → i = i' := by decide
    refine ⟨⟨fun q => absurd q (by decide), fun q => absurd q (of_ne (b := 31) (by omega) (by decide) (by omega))⟩, fun k hk => ⟨fun q => absurd q.1 (by decide), fun q => absurd q (of_ne (by omega) (by omega) (by omega))⟩, fun i hi => ⟨fun q => ?_, fun q => ⟨rfl, ?_⟩⟩, ⟨fun q => absurd q (by decide), fun q => absurd q (of_ne (b := 30) (by omega) (by decide) (by omega))⟩, fun q => absurd q (of_ne (b := 30) (by omega) (by decide) (by omega))⟩
    · have := (hh_e (hb p hp) (cB i hi).1 (cB i hi).2).mp q.2
      rw [e2] at this
      rw [cJ j e1 i hi this]
    · have := (of_eq _ _ (by omega) (by omega)).mp q
      rw [show i = j by omega]
      exact (hh_e (hb p hp) (cB j e1).1 (cB j e1).2).mpr e2
end ZN
