/-! a text whole: both readers -/
section ZX
variable {B C1 D E E0 D' E' D1 : Mm} {f : Nat → Int32} {N T base s0 : Nat}
def ceB (B : Mm) (j : Nat) : Nat := if j = 0 then 0 else ix (mI B 23 (j - 1))
/-- the statements read so far: both sides alike -/
def StR (base s0 st c : Nat) (B E : Mm) : Prop := ceB B st = c ∧ ∀ j, j < st → (mI B 21 j = mI E 69 (s0 + j) ∧ mI B 22 j = mI E 70 (s0 + j)) ∧ (0 ≤ mI E 70 (s0 + j) ∧ mI E 70 (s0 + j) ≤ 99999) ∧ (mI E 69 (s0 + j) = 3 ∨ mI E 69 (s0 + j) = 4 ∨ mI E 69 (s0 + j) = 8 → 1 ≤ mI E 70 (s0 + j)) ∧ 0 ≤ mI B 23 j ∧ ceB B j ≤ ix (mI B 23 j) ∧ ix (mI B 23 j) ≤ c ∧ mI E 72 (s0 + j) = Int32.ofNat (base + ceB B j) ∧ mI E 73 (s0 + j) = Int32.ofNat (base + ix (mI B 23 j)) ∧ ((ceB B j = ix (mI B 23 j) ∧ mI E 71 (s0 + j) = -1) ∨ (ceB B j < ix (mI B 23 j) ∧ ∃ g, mI E 71 (s0 + j) = Int32.ofNat g ∧ g < 2147483648 ∧ PX base B E (ceB B j) (ix (mI B 23 j)) [] [g]))
/-- the reference's memory while a text is read -/
def FrT (s0 nb : Nat) (E E' : Mm) : Prop := mR E' = mR E ∧ mK E' = mK E ∧ (∀ a, a ≠ 39 → ¬ (69 ≤ a ∧ a ≤ 77) → ¬ (80 ≤ a ∧ a ≤ 82) → mI E' a = mI E a) ∧ (∀ a, a ≠ 39 → mL E' a = mL E a) ∧ (∀ j, j ≠ 64 → mL E' 39 j = mL E 39 j) ∧ (∀ j, ¬ SP j → j ≠ 46 → mI E' 39 j = mI E 39 j) ∧ (∀ a, 69 ≤ a → a ≤ 73 → ∀ j, j < s0 → mI E' a j = mI E a j) ∧ (∀ a, 74 ≤ a → a ≤ 77 → ∀ j, j < nb → mI E' a j = mI E a j)
theorem FrT.rf {nb : Nat} : FrT s0 nb E E := ⟨rfl, rfl, fun _ _ _ _ => rfl, fun _ _ => rfl, fun _ _ => rfl, fun _ _ _ => rfl, fun _ _ _ _ _ => rfl, fun _ _ _ _ _ => rfl⟩
theorem FrT.tr {nb : Nat} (h : FrT s0 nb E0 E) (h2 : FrT s0 nb E E') : FrT s0 nb E0 E' := ⟨h2.1.trans h.1, h2.2.1.trans h.2.1, fun a q1 q2 q3 => (h2.2.2.1 a q1 q2 q3).trans (h.2.2.1 a q1 q2 q3), fun a q => (h2.2.2.2.1 a q).trans (h.2.2.2.1 a q), fun j q => (h2.2.2.2.2.1 j q).trans (h.2.2.2.2.1 j q), fun j q q' => (h2.2.2.2.2.2.1 j q q').trans (h.2.2.2.2.2.1 j q q'), fun a q1 q2 j q => (h2.2.2.2.2.2.2.1 a q1 q2 j q).trans (h.2.2.2.2.2.2.1 a q1 q2 j q), fun a q1 q2 j q => (h2.2.2.2.2.2.2.2 a q1 q2 j q).trans (h.2.2.2.2.2.2.2 a q1 q2 j q)⟩
theorem FrT.fr {s nb nb' : Nat} (h : Frm s nb E E') (hs : s0 ≤ s) (hn : nb' ≤ nb) : FrT s0 nb' E E' := ⟨h.1, h.2.1, h.2.2.1, h.2.2.2.1, h.2.2.2.2.1, fun j q _ => h.2.2.2.2.2.1 j q, fun a q1 q2 j q => h.2.2.2.2.2.2.1 a q1 q2 j (by omega), fun a q1 q2 j q => h.2.2.2.2.2.2.2 a q1 q2 j (by omega)⟩
theorem FrT.s46 {nb : Nat} {v : Int32} (h : FrT s0 nb E E') : FrT s0 nb E (sI E' 39 46 v) := h.tr ⟨rfl, rfl, fun a q1 _ _ => row_n q1, fun _ _ => rfl, fun _ _ => rfl, fun j _ q => by rw [mI_sI, if_neg (fun w => q w.2)], fun a q1 q2 j _ => by rw [row_n (by omega)], fun a q1 q2 j _ => by rw [row_n (by omega)]⟩
/-- a statement read: the class's new base -/
theorem stC_bas {st i c : Nat} {w v : Int32} (b : Bas f N T B) (h : Cst f N T B D1 i c) : Bas f N T (stC D1 st w v c) ∧ Cst f N T (stC D1 st w v c) (stC D1 st w v c) i c ∧ mI (stC D1 st w v c) 20 4 = Int32.ofNat (st + 1) := by
  have r : ∀ a, a ≠ 20 → a ≠ 21 → a ≠ 22 → a ≠ 23 → mI (stC D1 st w v c) a = mI D1 a := fun a q1 q2 q3 q4 => by
    unfold stC
    rw [row_n q1, row_n q4, row_n q3, row_n q2]
  have r20 : ∀ j, j ≠ 4 → mI (stC D1 st w v c) 20 j = mI D1 20 j := fun j q => by
    unfold stC
    rw [mI_sI, if_neg (fun w => q w.2), row_n (by decide), row_n (by decide), row_n (by decide)]
  have ct := b.2.2
  refine ⟨⟨b.1, b.2.1.sm h.1.2.1 h.1.1, ct.1, ct.2.1, ct.2.2.1, ?_, fun j q => ?_, fun j q => ?_⟩, ⟨⟨rfl, rfl, rfl, rfl, rfl⟩, fun _ _ _ => rfl, fun _ _ _ => rfl, ?_, ?_, h.2.2.2.2.2⟩, ?_⟩
  · rw [r20 9 (by decide), h.2.2.1 9 (by decide) (by decide)]; exact ct.2.2.2.1
  · rw [r 26 (by decide) (by decide) (by decide) (by decide), h.2.1 26 (by decide) (by decide)]; exact ct.2.2.2.2.1 j q
  · have := ct.2.2.2.2.2 j q
    unfold tkC at this ⊢
    rw [r 25 (by decide) (by decide) (by decide) (by decide), r 27 (by decide) (by decide) (by decide) (by decide), h.2.1 25 (by decide) (by decide), h.2.1 27 (by decide) (by decide)]
    exact this
  · rw [r20 10 (by decide)]; exact h.2.2.2.1
  · rw [r20 5 (by decide)]; exact h.2.2.2.2.1
  · unfold stC; rw [mI_sI, if_pos ⟨rfl, rfl⟩]
theorem Cst.exc {i c : Nat} (h : Cst f N T B D i c) : ExC B D := ⟨fun a q => h.2.1 a (fun e => q (by rw [e]; unfold tC; omega)) (fun e => q (by rw [e]; unfold tC; omega)), fun a _ _ => by rw [h.1.2.2.2.2], h.1.1, h.1.2.1, h.1.2.2.1, h.1.2.2.2.1⟩
theorem stC_exc {st c : Nat} {w v : Int32} : ExC D (stC D st w v c) := ((((ExC.rf.s (a := 21) (by unfold tC; omega)).s (a := 22) (by unfold tC; omega)).s (a := 23) (by unfold tC; omega)).s (a := 20) (by unfold tC; omega))
theorem ev_place (b : Bas f N T B) {i c : Nat} (h : Cst f N T B D i c) : Scribe_placeReached D 20 = some (Int32.ofNat (PT f N i), D) := by
  have sc := h.sc b
  have hT := b.1.2.2.1
  have hN := b.1.1
  have hi := h.2.2.2.2.2.1
  have e9 : mI D 20 9 = Int32.ofNat T := by rw [h.2.2.1 9 (by decide) (by decide)]; exact b.2.2.2.2.2.1
  have I0 : (0 : Int32) ≤ Int32.ofNat i := of_nn _ (by omega)
  have I1 : ix (Int32.ofNat i) = i := ix_of _ (by omega)
  have e26 : mI D 26 i = Int32.ofNat (PT f N i) := by rw [h.2.1 26 (by decide) (by decide)]; exact b.2.2.2.2.2.2.1 i hi
  unfold Scribe_placeReached
  simp only [kO_t sc.k20, ck_t, sc.r20_7, nn_s, h.2.2.2.1, e9, ev_min, bd_s]
  rw [if_neg (show ¬ Int32.ofNat T < Int32.ofNat i from fun w => by have := (of_lt T i (by omega) (by omega)).mp w; omega), kA_t sc.k26 I0 (show ix (Int32.ofNat i) < 501 by omega), ck_t, I1, e26]
theorem lp_text (hb : base ≤ 1800) (hs0 : s0 + 24 ≤ 200) {tw : Int32} : ∀ (dd n m i c st : Nat) (B E : Mm), T - i ≤ dd → dd + 3 < n → dd + 3 < m → st ≤ 24 → Bas f N T B → ExC C1 B → Iv f N T B base B E i c → mI B 20 4 = Int32.ofNat st → mI E 39 46 = Int32.ofNat (s0 + st) → StR base s0 st c B E → FrT s0 base E0 E → (∃ D' E' p, Law_read_L16 n 19 (Int32.ofNat st) B = some (0, sI D' 19 4 (Int32.ofNat p)) ∧ Mod_rules_L75 m 39 tw (Int32.ofNat s0) (Int32.ofNat base) E = Mod_rules_J135 39 tw (Int32.ofNat s0) (Int32.ofNat base) E' ∧ ExC C1 D' ∧ FrT s0 base E0 E' ∧ mI E' 39 65 = 1 ∧ mI E' 39 55 = Int32.ofNat p) ∨ (∃ B' E' st' c', Law_read_L16 n 19 (Int32.ofNat st) B = some (1, B') ∧ Mod_rules_L75 m 39 tw (Int32.ofNat s0) (Int32.ofNat base) E = Mod_rules_J135 39 tw (Int32.ofNat s0) (Int32.ofNat base) E' ∧ ExC C1 B' ∧ FrT s0 base E0 E' ∧ mI E' 39 65 = 0 ∧ st' ≤ 24 ∧ c' ≤ 250 ∧ StR base s0 st' c' B' E' ∧ mI B' 20 4 = Int32.ofNat st' ∧ mI B' 20 5 = Int32.ofNat c' ∧ mI E' 39 46 = Int32.ofNat (s0 + st') ∧ mI E' 39 52 = Int32.ofNat (base + c') ∧ mI E' 39 55 = mI E 39 55) := by
  intro dd
  induction dd with
  | zero =>
    intro n m i c st B E hdd hn hm hst b ex h h4 h46 hS hF
    obtain ⟨n, rfl⟩ : ∃ x, n = x + 1 := ⟨n - 1, by omega⟩
    obtain ⟨m, rfl⟩ : ∃ x, m = x + 1 := ⟨m - 1, by omega⟩
    have sc := b.2.1
    have sr := h.2.1.1
    have ae := h.1.end b
    rw [if_neg (by omega)] at ae
    have tk := (h.2.1.2.2.2.2.2.2.1).mpr (KK_T (by omega))
    refine Or.inr ⟨B, E, st, c, ?_, ?_, ex, hF, h.2.2.1, hst, h.inv.c250 b, hS, h4, h.1.2.2.2.2.1, h46, h.2.2.2.1, rfl⟩
    · show Law_read_B16 _ _ _ _ = _
      unfold Law_read_B16
      simp only [if_neg (show ¬ (24 : Int32) < Int32.ofNat st from fun q => by have := (of_lt 24 st (by decide) (by omega)).mp q; omega), kO_t sc.k19, ck_t, sc.r19_0, nn_s, kO_t sc.k20, ae, bd_s, if_neg (show ¬ (1 : Int32) = 0 by decide)]
    · show Mod_rules_B75 _ _ _ _ _ _ = _
      unfold Mod_rules_B75
      rw [kO_t sr.k39, ck_t, if_pos tk]
  | succ dd ih =>
    intro n m i c st B E hdd hn hm hst b ex h h4 h46 hS hF
    obtain ⟨n, rfl⟩ : ∃ x, n = x + 1 := ⟨n - 1, by omega⟩
    obtain ⟨m, rfl⟩ : ∃ x, m = x + 1 := ⟨m - 1, by omega⟩
    have sc := b.2.1
    have sr := h.2.1.1
    have ae := h.1.end b
    have n24 : ¬ (24 : Int32) < Int32.ofNat st := fun q => by have := (of_lt 24 st (by decide) (by omega)).mp q; omega
    by_cases hi : i < T
    · rw [if_pos hi] at ae
      have ntk : ¬ mI E 39 59 = 0 := fun q => by
        have := (h.2.1.2.2.2.2.2.2.1).mp q
        unfold KK at this
        rw [if_pos hi] at this
        have e := KK_w (f := f) (N := N) (T := T)
        revert this
        have lt := b.1.2.2.2.2 i hi
        intro this
        by_cases cl : isL (f (PT f N i))
        · obtain ⟨-, bb⟩ := kd_iff b.1.2.1 b.1.1 lt cl
          rcases bb with q | ⟨k', q1, q2, q3⟩
          · rw [q] at this; exact absurd this (by decide)
          · rw [q2] at this; exact of_ne (b := 31) (by omega) (by decide) (by omega) this
        · unfold kdT at this
          rw [if_neg cl] at this
          by_cases cd : isD (f (PT f N i))
          · rw [if_pos cd] at this
            split at this
            · exact absurd this (by decide)
            · exact absurd this (by decide)
          · rw [if_neg cd] at this
            rcases sgT_s (f (PT f N i)) with ⟨e1, e2⟩ | ⟨j, e1, e2, e3⟩
            · rw [e1] at this; exact absurd this (by decide)
            · rw [e3] at this; exact of_ne (b := 31) (by omega) (by decide) (by omega) this
      have wrg : ∀ (m : Nat) (E' : Mm), SR E' → mI E' 39 65 = 1 → Mod_rules_L75 (m + 1) 39 tw (Int32.ofNat s0) (Int32.ofNat base) E' = Mod_rules_J135 39 tw (Int32.ofNat s0) (Int32.ofNat base) E' := fun m E' sr' h65 => by
        show Mod_rules_B75 _ _ _ _ _ _ = _
        unfold Mod_rules_B75
        rw [kO_t sr'.k39, ck_t]
        by_cases q : mI E' 39 59 = 0
        · rw [if_pos q]
        · rw [if_neg q, if_neg (by rw [h65]; decide)]
      have d46 : Int32.ofNat (s0 + st) - Int32.ofNat s0 = Int32.ofNat st := by rw [of_sub _ _ (by omega), show s0 + st - s0 = st by omega]
      by_cases q24 : st = 24
      · have rs : Scribe_readStatement B 20 = some (0, B) := by
          unfold Scribe_readStatement
          rw [kO_t sc.k20, ck_t, h4, if_neg (by rw [q24]; decide)]
        have pl := ev_place b h.1
        obtain ⟨fl1, fl2⟩ := h.bad (s := s0 + st) (nb := base)
        obtain ⟨m, rfl⟩ : ∃ x, m = x + 1 := ⟨m - 1, by omega⟩
        refine Or.inl ⟨B, _, PT f N i, ?_, ?_, ex, hF.tr (FrT.fr fl2.2.2.1 (by omega) (Nat.le_refl _)), fl2.2.2.2.1, fl2.2.2.2.2⟩
        · show Law_read_B16 _ _ _ _ = _
          unfold Law_read_B16
          simp only [if_neg n24, kO_t sc.k19, ck_t, sc.r19_0, nn_s, kO_t sc.k20, ae, bd_s, if_true, rs, pl]
        · show Mod_rules_B75 _ _ _ _ _ _ = _
          unfold Mod_rules_B75
          simp only [kO_t sr.k39, ck_t, if_neg ntk, h.2.2.1, if_true, h46, d46, if_pos (show Int32.ofNat st = 24 by rw [q24]; rfl), fl1, bd_s]
          exact wrg m _ sr fl2.2.2.2.1
      · have n46 : ¬ Int32.ofNat st = 24 := of_ne (b := 24) (by omega) (by decide) q24
        rcases stmt_sim (s := s0 + st) b hb (show st < 24 by omega) (by omega) h4 h with ⟨D', E', i', p1, p2, p3⟩ | ⟨D1, E', w, v, i', c', p1, p2, p3, p4, p5, p6, p7, p8, p9, p10, p11, p12, p13, p14, p15, p16⟩
        · obtain ⟨cc, hcc⟩ := p3.2.1
          have pl := ev_place b hcc
          have sc' := hcc.sc b
          obtain ⟨m, rfl⟩ : ∃ x, m = x + 1 := ⟨m - 1, by omega⟩
          have sr' : SR E' := sr.sm p3.2.2.1.2.1 p3.2.2.1.1
          refine Or.inl ⟨D', E', PT f N i', ?_, ?_, ex.tr hcc.exc, hF.tr (FrT.fr p3.2.2.1 (by omega) (by omega)), p3.2.2.2.1, p3.2.2.2.2⟩
          · show Law_read_B16 _ _ _ _ = _
            unfold Law_read_B16
            simp only [if_neg n24, kO_t sc.k19, ck_t, sc.r19_0, nn_s, kO_t sc.k20, ae, bd_s, if_true, p1, kO_t sc'.k19, sc'.r19_0, kO_t sc'.k20, pl]
          · show Mod_rules_B75 _ _ _ _ _ _ = _
            unfold Mod_rules_B75
            simp only [kO_t sr.k39, ck_t, if_neg ntk, h.2.2.1, if_true, h46, d46, if_neg n46, p2, bd_s, kO_t sr'.k39, p3.2.2.2.1, if_neg (show ¬ (1 : Int32) = 0 by decide)]
            exact wrg m _ sr' p3.2.2.2.1
        · have sr' := p3.2.1.1
          obtain ⟨b', cs', e4'⟩ := stC_bas (st := st) (w := w) (v := v) b p3.1
          have c250 := p3.inv.c250 b
          have e46 : mI E' 39 46 = Int32.ofNat (s0 + st) := by rw [p6.2.2.2.2.2.1 46 (by unfold SP; omega)]; exact h46
          have e55 : ∀ v, mI (sI E' 39 46 v) 39 55 = mI E' 39 55 := fun _ => rfl
          have h' : Iv f N T (stC D1 st w v c') base (stC D1 st w v c') (sI E' 39 46 (Int32.ofNat (s0 + (st + 1)))) i' c' := ⟨cs', p3.2.1.s (Or.inl (by decide)), p3.2.2.1, p3.2.2.2.1, p3.2.2.2.2⟩
          have r21 : ∀ j, j < st → mI (stC D1 st w v c') 21 j = mI B 21 j ∧ mI (stC D1 st w v c') 22 j = mI B 22 j ∧ mI (stC D1 st w v c') 23 j = mI B 23 j := fun j q => by
            unfold stC
            refine ⟨?_, ?_, ?_⟩
            · rw [row_n (by decide), row_n (by decide), row_n (by decide), mI_sI, if_neg (by omega), p3.1.2.1 21 (by decide) (by decide)]
            · rw [row_n (by decide), row_n (by decide), mI_sI, if_neg (by omega), row_n (by decide), p3.1.2.1 22 (by decide) (by decide)]
            · rw [row_n (by decide), mI_sI, if_neg (by omega), row_n (by decide), row_n (by decide), p3.1.2.1 23 (by decide) (by decide)]
          have t21 : mI (stC D1 st w v c') 21 st = w ∧ mI (stC D1 st w v c') 22 st = v ∧ mI (stC D1 st w v c') 23 st = Int32.ofNat c' := by
            unfold stC
            refine ⟨?_, ?_, ?_⟩
            · rw [row_n (by decide), row_n (by decide), row_n (by decide), mI_sI, if_pos ⟨rfl, rfl⟩]
            · rw [row_n (by decide), row_n (by decide), mI_sI, if_pos ⟨rfl, rfl⟩]
            · rw [row_n (by decide), mI_sI, if_pos ⟨rfl, rfl⟩]
          have ce0 : ∀ j, j ≤ st → ceB (stC D1 st w v c') j = ceB B j := fun j q => by
            unfold ceB
            by_cases q0 : j = 0
            · rw [if_pos q0, if_pos q0]
            · rw [if_neg q0, if_neg q0, (r21 (j - 1) (by omega)).2.2]
          have ic' : ix (Int32.ofNat c') = c' := ix_of _ (by omega)
          have r24 : mI (stC D1 st w v c') 24 = mI D1 24 := by unfold stC; rw [row_n (by decide), row_n (by decide), row_n (by decide), row_n (by decide)]
          have e6 : ∀ a, 69 ≤ a → a ≤ 77 → mI (sI E' 39 46 (Int32.ofNat (s0 + (st + 1)))) a = mI E' a := fun a q1 q2 => row_n (by omega)
          have S' : StR base s0 (st + 1) c' (stC D1 st w v c') (sI E' 39 46 (Int32.ofNat (s0 + (st + 1)))) := by
            refine ⟨by unfold ceB; rw [if_neg (by omega), show st + 1 - 1 = st by omega, t21.2.2, ic'], fun j hj => ?_⟩
            rw [e6 69 (by decide) (by decide), e6 70 (by decide) (by decide), e6 71 (by decide) (by decide), e6 72 (by decide) (by decide), e6 73 (by decide) (by decide)]
            by_cases q : j = st
            · rw [q, t21.1, t21.2.1, t21.2.2, ce0 st (Nat.le_refl _), hS.1, ic', p7, p8, p9, p10]
              refine ⟨⟨rfl, rfl⟩, p12, p13, of_nn _ (by omega), p5, Nat.le_refl _, rfl, rfl, ?_⟩
              rcases p15 with ⟨x1, x2⟩ | ⟨x1, g, x2, x3, x4⟩
              · exact Or.inl ⟨x1, x2⟩
              · exact Or.inr ⟨x1, g, x2, x3, x4.cg (fun i q => by rw [r24]) (fun a q1 q2 i q => by rw [e6 a (by omega) (by omega)])⟩
            · have o := hS.2 j (by omega)
              have r := r21 j (by omega)
              have fr := fun a (q1 : 69 ≤ a) (q2 : a ≤ 73) => p6.2.2.2.2.2.2.1 a q1 q2 (s0 + j) (by omega)
              rw [r.1, r.2.1, r.2.2, ce0 j (by omega), fr 69 (by decide) (by decide), fr 70 (by decide) (by decide), fr 71 (by decide) (by decide), fr 72 (by decide) (by decide), fr 73 (by decide) (by decide)]
              obtain ⟨o1, o2, o3, o4, o5, o6, o7, o8, o9⟩ := o
              refine ⟨o1, o2, o3, o4, o5, by omega, o7, o8, ?_⟩
              rcases o9 with x | ⟨x1, g, x2, x3, x4⟩
              · exact Or.inl x
              · exact Or.inr ⟨x1, g, x2, x3, x4.cg (fun i q => by rw [r24, p14 i (by omega)]) (fun a q1 q2 i q => by rw [e6 a (by omega) (by omega), p6.2.2.2.2.2.2.2 a q1 q2 i (by omega)])⟩
          have cls : Law_read_L16 (n + 1) 19 (Int32.ofNat st) B = Law_read_L16 n 19 (Int32.ofNat (st + 1)) (stC D1 st w v c') := by
            show Law_read_B16 _ _ _ _ = _
            unfold Law_read_B16
            simp only [if_neg n24, kO_t sc.k19, ck_t, sc.r19_0, nn_s, kO_t sc.k20, ae, bd_s, if_true, p1, if_neg (show ¬ (1 : Int32) = 0 by decide), of_s1 st (by omega)]
          have rfs : Mod_rules_L75 (m + 1) 39 tw (Int32.ofNat s0) (Int32.ofNat base) E = Mod_rules_L75 m 39 tw (Int32.ofNat s0) (Int32.ofNat base) (sI E' 39 46 (Int32.ofNat (s0 + (st + 1)))) := by
            show Mod_rules_B75 _ _ _ _ _ _ = _
            unfold Mod_rules_B75
            simp only [kO_t sr.k39, ck_t, if_neg ntk, h.2.2.1, if_true, h46, d46, if_neg n46, p2, bd_s, kO_t sr'.k39, p3.2.2.1, e46, of_s1 (s0 + st) (by omega)]
            rfl
          rw [cls, rfs]
          have f55 : mI E' 39 55 = mI E 39 55 := p16
          rcases ih n m i' c' (st + 1) (stC D1 st w v c') (sI E' 39 46 (Int32.ofNat (s0 + (st + 1)))) (by omega) (by omega) (by omega) (by omega) b' ((ex.tr p3.1.exc).tr stC_exc) h' e4' (by rw [mI_sI, if_pos ⟨rfl, rfl⟩]) S' ((hF.tr (FrT.fr p6 (by omega) (by omega))).s46) with y | ⟨B', E2, st', c2, y1, y2, y3, y4, y5, y6, y7, y8, y9, y10, y11, y12, y13⟩
          · exact Or.inl y
          · exact Or.inr ⟨B', E2, st', c2, y1, y2, y3, y4, y5, y6, y7, y8, y9, y10, y11, y12, by rw [y13, e55, f55]⟩
    · rw [if_neg hi] at ae
      have tk := (h.2.1.2.2.2.2.2.2.1).mpr (KK_T hi)
      refine Or.inr ⟨B, E, st, c, ?_, ?_, ex, hF, h.2.2.1, hst, h.inv.c250 b, hS, h4, h.1.2.2.2.2.1, h46, h.2.2.2.1, rfl⟩
      · show Law_read_B16 _ _ _ _ = _
        unfold Law_read_B16
        simp only [if_neg n24, kO_t sc.k19, ck_t, sc.r19_0, nn_s, kO_t sc.k20, ae, bd_s, if_neg (show ¬ (1 : Int32) = 0 by decide)]
      · show Mod_rules_B75 _ _ _ _ _ _ = _
        unfold Mod_rules_B75
        rw [kO_t sr.k39, ck_t, if_pos tk]
end ZX
