/-! a text of rules: its tokens, laid by the class -/
section ZL
variable {C D : Mm} {f : Nat → Int32} {N : Nat}
def skD (f : Nat → Int32) : Nat → Nat → Nat
  | 0, p => p
  | d + 1, p => if f p = 32 ∨ f p = 10 then skD f d (p + 1) else p
def skT (f : Nat → Int32) (N p : Nat) : Nat := skD f (N - p) p
def PT (f : Nat → Int32) (N : Nat) : Nat → Nat
  | 0 => skT f N 0
  | i + 1 => if PT f N i < N then skT f N (enT f N (PT f N i)) else N
theorem skD_b : ∀ (d p : Nat), p ≤ skD f d p ∧ skD f d p ≤ p + d
  | 0, p => ⟨Nat.le_refl _, Nat.le_refl _⟩
  | d + 1, p => by
    show p ≤ (if f p = 32 ∨ f p = 10 then skD f d (p + 1) else p) ∧ (if f p = 32 ∨ f p = 10 then skD f d (p + 1) else p) ≤ p + (d + 1)
    have := skD_b d (p + 1)
    split <;> omega
theorem skT_b {p : Nat} (hp : p ≤ N) : p ≤ skT f N p ∧ skT f N p ≤ N := by
  unfold skT
  have := skD_b (f := f) (N - p) p
  omega
theorem skT_1 {p : Nat} (hp : p < N) (hb : f p = 32 ∨ f p = 10) : skT f N p = skT f N (p + 1) := by
  unfold skT
  rw [show N - p = (N - (p + 1)) + 1 by omega]
  show (if f p = 32 ∨ f p = 10 then skD f (N - (p + 1)) (p + 1) else p) = _
  rw [if_pos hb]
theorem skT_0 {p : Nat} (hp : p < N) (hb : ¬ (f p = 32 ∨ f p = 10)) : skT f N p = p := by
  unfold skT
  rw [show N - p = (N - (p + 1)) + 1 by omega]
  show (if f p = 32 ∨ f p = 10 then skD f (N - (p + 1)) (p + 1) else p) = _
  rw [if_neg hb]
theorem skT_N : skT f N N = N := by
  unfold skT
  rw [Nat.sub_self]
  rfl
def tkC (f : Nat → Int32) (N : Nat) (D : Mm) (j : Nat) : Prop := mI D 25 j = kdT f N (PT f N j) ∧ mI D 27 j = (if kdT f N (PT f N j) = 30 then nbT f N (PT f N j) else -1)
def CTk (f : Nat → Int32) (N T : Nat) (D : Mm) : Prop := T ≤ N ∧ PT f N T = N ∧ (∀ j, j < T → PT f N j < N) ∧ mI D 20 9 = Int32.ofNat T ∧ (∀ j, j ≤ T → mI D 26 j = Int32.ofNat (PT f N j)) ∧ (∀ j, j < T → tkC f N D j)
/-- the class's memory while tokens are laid -/
def Bst (f : Nat → Int32) (N : Nat) (C D : Mm) (i : Nat) : Prop := (mR D = mR C ∧ mK D = mK C ∧ mZ D = mZ C ∧ mS D = mS C ∧ mL D = mL C) ∧ (∀ a, a ≠ 20 → a ≠ 25 → a ≠ 26 → a ≠ 27 → mI D a = mI C a) ∧ (∀ j, j ≠ 9 → mI D 20 j = mI C 20 j) ∧ mI D 20 9 = Int32.ofNat i ∧ (∀ j, j < i → mI D 26 j = Int32.ofNat (PT f N j) ∧ tkC f N D j)
theorem lp_beg (sc : SC C) (hN : N ≤ 500) (hf : f = mI C 18) : ∀ (d n at_ i : Nat) (D : Mm), N - at_ ≤ d → at_ ≤ N → d < n → i ≤ at_ → Bst f N C D i → skT f N at_ = PT f N i → (∀ j, j < i → PT f N j < N) → ∃ T D', Scribe_begin_L36 n 20 18 (Int32.ofNat N) (Int32.ofNat at_) D = some ((), D') ∧ CTk f N T D' ∧ (mR D' = mR C ∧ mK D' = mK C ∧ mZ D' = mZ C ∧ mS D' = mS C ∧ mL D' = mL C) ∧ (∀ a, a ≠ 20 → a ≠ 25 → a ≠ 26 → a ≠ 27 → mI D' a = mI C a) ∧ (∀ j, j ≠ 9 → mI D' 20 j = mI C 20 j) := by
  intro d
  induction d with
  | zero =>
    intro n at_ i D hd ha hn hi hB hsk hlt
    obtain ⟨n, rfl⟩ : ∃ x, n = x + 1 := ⟨n - 1, by omega⟩
    have ea : at_ = N := by omega
    subst ea
    obtain ⟨b1, b2, b3, b4, b5⟩ := hB
    have scD : SC D := sc.sm b1.2.1 b1.1
    have I0 : (0 : Int32) ≤ Int32.ofNat i := of_nn _ (by omega)
    have I1 : ix (Int32.ofNat i) = i := ix_of _ (by omega)
    have l1 : mI (sI D 26 i (Int32.ofNat at_)) 20 9 = Int32.ofNat i := b4
    rw [skT_N] at hsk
    refine ⟨i, sI (sI D 26 i (Int32.ofNat at_)) 25 i 31, ?_, ⟨hi, hsk.symm, hlt, b4, fun j hj => ?_, fun j hj => ?_⟩, b1, fun a q1 q2 q3 q4 => ?_, fun j q => b3 j q⟩
    · show Scribe_begin_B36 _ _ _ _ _ _ = _
      unfold Scribe_begin_B36
      simp only [if_pos (Int32.le_refl _), kO_t scD.k20, ck_t, scD.r20_7, nn_s, b4, kA_t scD.k26 I0 (show ix (Int32.ofNat i) < 501 by omega), I1, mR_sI, scD.r20_6, kA_sI, l1, kA_t scD.k25 I0 (show ix (Int32.ofNat i) < 501 by omega)]
    · rw [row_n (show 26 ≠ 25 by decide), mI_sI]
      by_cases e : j = i
      · rw [if_pos ⟨rfl, e⟩, e, ← hsk]
      · rw [if_neg (fun w => e w.2)]; exact (b5 j (by omega)).1
    · have := (b5 j hj).2
      unfold tkC at this ⊢
      rw [mI_sI (b := 25), if_neg (by omega), row_n (show 25 ≠ 26 by decide), row_n (show 27 ≠ 25 by decide), row_n (show 27 ≠ 26 by decide)]
      exact this
    · rw [row_n q2, row_n q3]; exact b2 a q1 q2 q3 q4
  | succ d ih =>
    intro n at_ i D hd ha hn hi hB hsk hlt
    by_cases ea : at_ = N
    · -- as above
      obtain ⟨n, rfl⟩ : ∃ x, n = x + 1 := ⟨n - 1, by omega⟩
      subst ea
      obtain ⟨b1, b2, b3, b4, b5⟩ := hB
      have scD : SC D := sc.sm b1.2.1 b1.1
      have I0 : (0 : Int32) ≤ Int32.ofNat i := of_nn _ (by omega)
      have I1 : ix (Int32.ofNat i) = i := ix_of _ (by omega)
      have l1 : mI (sI D 26 i (Int32.ofNat at_)) 20 9 = Int32.ofNat i := b4
      rw [skT_N] at hsk
      refine ⟨i, sI (sI D 26 i (Int32.ofNat at_)) 25 i 31, ?_, ⟨hi, hsk.symm, hlt, b4, fun j hj => ?_, fun j hj => ?_⟩, b1, fun a q1 q2 q3 q4 => ?_, fun j q => b3 j q⟩
      · show Scribe_begin_B36 _ _ _ _ _ _ = _
        unfold Scribe_begin_B36
        simp only [if_pos (Int32.le_refl _), kO_t scD.k20, ck_t, scD.r20_7, nn_s, b4, kA_t scD.k26 I0 (show ix (Int32.ofNat i) < 501 by omega), I1, mR_sI, scD.r20_6, kA_sI, l1, kA_t scD.k25 I0 (show ix (Int32.ofNat i) < 501 by omega)]
      · rw [row_n (show 26 ≠ 25 by decide), mI_sI]
        by_cases e : j = i
        · rw [if_pos ⟨rfl, e⟩, e, ← hsk]
        · rw [if_neg (fun w => e w.2)]; exact (b5 j (by omega)).1
      · have := (b5 j hj).2
        unfold tkC at this ⊢
        rw [mI_sI (b := 25), if_neg (by omega), row_n (show 25 ≠ 26 by decide), row_n (show 27 ≠ 25 by decide), row_n (show 27 ≠ 26 by decide)]
        exact this
      · rw [row_n q2, row_n q3]; exact b2 a q1 q2 q3 q4
    · obtain ⟨n, rfl⟩ : ∃ x, n = x + 1 := ⟨n - 1, by omega⟩
      have lt : at_ < N := by omega
      have hB' := hB
      obtain ⟨b1, b2, b3, b4, b5⟩ := hB'
      have scD : SC D := sc.sm b1.2.1 b1.1
      have fD : mI D 18 = f := by rw [b2 18 (by decide) (by decide) (by decide) (by decide), hf]
      have A0 : (0 : Int32) ≤ Int32.ofNat at_ := of_nn _ (by omega)
      have A1 : ix (Int32.ofNat at_) = at_ := ix_of _ (by omega)
      have I0 : (0 : Int32) ≤ Int32.ofNat i := of_nn _ (by omega)
      have I1 : ix (Int32.ofNat i) = i := ix_of _ (by omega)
      have nle : ¬ Int32.ofNat N ≤ Int32.ofNat at_ := fun w => by have := (of_le N at_ (by omega) (by omega)).mp w; omega
      have te := ev_tend (M := D) scD.k18 hN lt
      rw [fD] at te
      have eb := enT_b (f := f) lt
      have mx : ∀ M : Mm, Math_max_I M (Int32.ofNat (at_ + 1)) (Int32.ofNat (enT f N at_)) = some (Int32.ofNat (enT f N at_), M) := fun M => by
        unfold Math_max_I
        by_cases c : (Int32.ofNat (at_ + 1) : Int32) < Int32.ofNat (enT f N at_)
        · rw [if_pos c]
        · rw [if_neg c]
          have : ¬ at_ + 1 < enT f N at_ := fun q => c ((of_lt _ _ (by omega) (by omega)).mpr q)
          rw [show enT f N at_ = at_ + 1 by omega]
      by_cases bl : f at_ = 32 ∨ f at_ = 10
      · have nl : ¬ isL (f at_) := fun q => by
          rcases bl with e | e <;> rw [e] at q <;> exact absurd q (by decide)
        have nd : ¬ isD (f at_) := fun q => by
          rcases bl with e | e <;> rw [e] at q <;> exact absurd q (by decide)
        have en1 : enT f N at_ = at_ + 1 := by unfold enT; rw [if_neg nl, if_neg nd]
        obtain ⟨T, D', z⟩ := ih n (at_ + 1) i D (by omega) (by omega) (by omega) (by omega) hB (by rw [← skT_1 lt bl]; exact hsk) hlt
        refine ⟨T, D', ?_, z.2⟩
        rw [← z.1]
        rw [en1] at te mx
        show Scribe_begin_B36 _ _ _ _ _ _ = _
        unfold Scribe_begin_B36 Scribe_begin_J142
        simp only [if_neg nle, te, bd_s, kA_t scD.k18 A0 (show ix (Int32.ofNat at_) < 500 by omega), ck_t, A1, fD, of_s1 at_ (by omega), mx]
        rcases bl with e | e
        · rw [if_pos e]
        · by_cases e2 : f at_ = 32
          · rw [if_pos e2]
          · rw [if_neg e2, if_pos e]
      · have hp : PT f N i = at_ := by rw [← hsk]; exact skT_0 lt bl
        have n32 : ¬ f at_ = 32 := fun q => bl (Or.inl q)
        have n10 : ¬ f at_ = 10 := fun q => bl (Or.inr q)
        -- the token is laid
        have kd := ev_kind (M := sI D 26 i (Int32.ofNat at_)) (N := N) scD.k18 hN lt
        have f26 : mI (sI D 26 i (Int32.ofNat at_)) 18 = f := fD
        rw [f26] at kd
        generalize hkd : kdT f N at_ = kd0 at *
        have f31 : mI (sI (sI D 26 i (Int32.ofNat at_)) 25 i kd0) 18 = f := fD
        have nu := ev_nu (M := sI (sI D 26 i (Int32.ofNat at_)) 25 i kd0) (N := N) scD.k18 hN lt
        rw [f31] at nu
        have l1 : mI (sI D 26 i (Int32.ofNat at_)) 20 9 = Int32.ofNat i := b4
        have l2 : mI (sI (sI D 26 i (Int32.ofNat at_)) 25 i kd0) 20 9 = Int32.ofNat i := b4
        have l3 : ∀ v, mI (sI (sI (sI D 26 i (Int32.ofNat at_)) 25 i kd0) 27 i v) 20 9 = Int32.ofNat i := fun _ => b4
        have l25 : mI (sI (sI D 26 i (Int32.ofNat at_)) 25 i kd0) 25 i = kd0 := by rw [mI_sI, if_pos ⟨rfl, rfl⟩]
        have nB : ∀ v, v = (if kd0 = 30 then nbT f N at_ else -1) → Bst f N C (sI (sI (sI (sI D 26 i (Int32.ofNat at_)) 25 i kd0) 27 i v) 20 9 (Int32.ofNat (i + 1))) (i + 1) := fun v hv => by
          refine ⟨b1, fun a q1 q2 q3 q4 => ?_, fun j q => ?_, ?_, fun j hj => ?_⟩
          · rw [row_n q1, row_n q4, row_n q2, row_n q3]; exact b2 a q1 q2 q3 q4
          · rw [mI_sI, if_neg (fun w => q w.2), row_n (by decide), row_n (by decide), row_n (by decide)]; exact b3 j q
          · rw [mI_sI, if_pos ⟨rfl, rfl⟩]
          · unfold tkC
            rw [row_n (show 26 ≠ 20 by decide), row_n (show 26 ≠ 27 by decide), row_n (show 26 ≠ 25 by decide), row_n (show 25 ≠ 20 by decide), row_n (show 25 ≠ 27 by decide), row_n (show 27 ≠ 20 by decide), mI_sI (b := 26), mI_sI (b := 25), mI_sI (b := 27)]
            by_cases e : j = i
            · rw [if_pos ⟨rfl, e⟩, if_pos ⟨rfl, e⟩, if_pos ⟨rfl, e⟩, e, hp, hkd]
              exact ⟨rfl, rfl, hv⟩
            · rw [if_neg (fun w => e w.2), if_neg (fun w => e w.2), if_neg (fun w => e w.2), row_n (show 25 ≠ 26 by decide), row_n (show 27 ≠ 25 by decide), row_n (show 27 ≠ 26 by decide)]
              exact b5 j (by omega)
        have hsk2 : skT f N (enT f N at_) = PT f N (i + 1) := by
          show _ = if PT f N i < N then skT f N (enT f N (PT f N i)) else N
          rw [hp, if_pos lt]
        have hlt2 : ∀ j, j < i + 1 → PT f N j < N := fun j hj => by
          by_cases e : j = i
          · rw [e, hp]; exact lt
          · exact hlt j (by omega)
        have st : Scribe_begin_B36 (Scribe_begin_L36 n) 20 18 (Int32.ofNat N) (Int32.ofNat at_) D = Scribe_begin_L36 n 20 18 (Int32.ofNat N) (Int32.ofNat (enT f N at_)) (sI (sI (sI (sI D 26 i (Int32.ofNat at_)) 25 i kd0) 27 i (if kd0 = 30 then nbT f N at_ else -1)) 20 9 (Int32.ofNat (i + 1))) := by
          unfold Scribe_begin_B36 Scribe_begin_J131 Scribe_begin_J142
          simp only [if_neg nle, te, bd_s, kA_t scD.k18 A0 (show ix (Int32.ofNat at_) < 500 by omega), ck_t, A1, fD, if_neg n32, if_neg n10, kO_t scD.k20, scD.r20_7, nn_s, b4, kA_t scD.k26 I0 (show ix (Int32.ofNat i) < 501 by omega), I1, mR_sI, scD.r20_6, kd, l1, kA_sI, kA_t scD.k25 I0 (show ix (Int32.ofNat i) < 501 by omega), kO_sI, scD.r20_8, l2, l25, nu, kA_t scD.k27 I0 (show ix (Int32.ofNat i) < 501 by omega), l3, of_s1 i (by omega), of_s1 at_ (by omega), mx]
          by_cases c : kd0 = 30
          · rw [if_pos c, if_pos c]
          · rw [if_neg c, if_neg c]
        obtain ⟨T, D', z⟩ := ih n (enT f N at_) (i + 1) _ (by omega) (by omega) (by omega) (by omega) (nB _ rfl) hsk2 hlt2
        exact ⟨T, D', st.trans z.1, z.2⟩
theorem ev_begin (sc : SC C) (hN : N ≤ 500) : ∃ T D, Scribe_begin C 20 18 (Int32.ofNat N) = some ((), D) ∧ CTk (mI C 18) N T D ∧ ExC C D ∧ (mI D 20 4 = 0 ∧ mI D 20 5 = 0 ∧ mI D 20 10 = 0) := by
  have sc' : SC (sI (sI (sI (sI C 20 4 0) 20 5 0) 20 9 0) 20 10 0) := sc
  have f' : mI C 18 = mI (sI (sI (sI (sI C 20 4 0) 20 5 0) 20 9 0) 20 10 0) 18 := rfl
  obtain ⟨T, D, z1, z2, z3, z4, z5⟩ := lp_beg (f := mI C 18) (N := N) sc' hN f' N fu 0 0 _ (by omega) (by omega) (by unfold fu; omega) (Nat.le_refl _) ⟨⟨rfl, rfl, rfl, rfl, rfl⟩, fun _ _ _ _ _ => rfl, fun _ _ => rfl, rfl, fun j hj => by omega⟩ rfl (fun j hj => by omega)
  have ln18 : ln (sI (sI (sI (sI C 20 4 0) 20 5 0) 20 9 0) 20 10 0) 18 = 500 := by
    show Int32.ofNat (mK C 18).2 = 500
    rw [sc.k18]; rfl
  have kt : kT (sI (sI (sI (sI C 20 4 0) 20 5 0) 20 9 0) 20 10 0) 18 21 = true := kT_t sc.k18
  have m1 : ∀ M : Mm, Math_min_I M 500 500 = some (500, M) := fun M => by rw [ev_min]; rfl
  have m2 : ∀ M : Mm, Math_min_I M (Int32.ofNat N) 500 = some (Int32.ofNat N, M) := fun M => by
    rw [ev_min, if_neg (show ¬ (500 : Int32) < Int32.ofNat N from fun w => by have := (of_lt 500 N (by omega) (by omega)).mp w; omega)]
  refine ⟨T, D, ?_, z2, ⟨fun a q => ?_, fun a _ _ => by rw [z3.2.2.2.2]; rfl, z3.1, z3.2.1, z3.2.2.1, z3.2.2.2.1⟩, ?_⟩
  · unfold Scribe_begin
    simp only [kO_t sc.k20, ck_t, kt, ln18, m1, bd_s, m2]
    exact z1
  · have q' : a ≠ 20 ∧ a ≠ 25 ∧ a ≠ 26 ∧ a ≠ 27 := by unfold tC at q; omega
    rw [z4 a q'.1 q'.2.1 q'.2.2.1 q'.2.2.2, row_n q'.1, row_n q'.1, row_n q'.1, row_n q'.1]
  · rw [z5 4 (by decide), z5 5 (by decide), z5 10 (by decide)]
    exact ⟨rfl, rfl, rfl⟩
end ZL
