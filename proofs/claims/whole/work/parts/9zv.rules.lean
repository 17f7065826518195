/-! rules -/
section ZA5
variable {k : Nat} {ad : Nat → Nat → Nat} {B C R E : Mm} {s0 nb st c : Nat}
theorem ev_full (h : Rel k ad C R) : Law_isFull C 19 = some (if mI R 39 37 < 8 then 0 else 1, C) := by
  unfold Law_isFull
  simp only [h.o19, ck_t, h.l19_3]
  split <;> rfl
theorem ev_keep (h : Rel k ad B R) (lt : mI R 39 37 < 8) (hst : st ≤ 24) (hc : c ≤ 250) (h4 : mI B 20 4 = Int32.ofNat st) (h5 : mI B 20 5 = Int32.ofNat c) (mn : Int32) : ∃ D, EdN B D mn st c ∧ Law_keep B 19 mn = some (mI R 39 37, sI (sR D 28 (ix (mI R 39 37)) (some (mZ B))) 19 3 (mI R 39 37 + 1)) := by
  have hz := h.lv.1
  have i10 := h.isc.2.2.2.2.2.2.2.2.2.1
  have t8 : ix (mI R 39 37) < 8 := ix_b 8 i10.1 lt (by decide) (by decide)
  have e := ev_edict h.sc hz hst hc h4 h5 mn
  have ed := eC_n (B := B) hz mn st c
  generalize eC B mn st c = D at *
  refine ⟨D, ed, ?_⟩
  have k19 : kO (nw B 2 5) 19 5 5 = true := kO_t (by rw [mK_nw, if_neg (by omega)]; exact h.sc.k19)
  have r19 : mR (nw B 2 5) 19 0 = some 20 := by rw [mR_nw, if_neg (by omega)]; exact h.sc.r19_0
  have k28 : kA D 28 27 (mI R 39 37) = true := kA_t (by rw [(ed.2.2.1 28 (by omega)).1]; exact h.sc.k28) i10.1 t8
  have kz : kO D (mZ B) 2 5 = true := kO_t ed.2.2.2.1.1
  have kd : kO (sR D 28 (ix (mI R 39 37)) (some (mZ B))) 19 5 5 = true := kO_t (by rw [mK_sR, (ed.2.2.1 19 (by omega)).1]; exact h.sc.k19)
  have i3 : mI (sR D 28 (ix (mI R 39 37)) (some (mZ B))) 19 3 = mI R 39 37 := by rw [mI_sR, (ed.2.2.1 19 (by omega)).2.1]; exact h.l19_3
  have i4 : mI (sI (sR D 28 (ix (mI R 39 37)) (some (mZ B))) 19 3 (mI R 39 37 + 1)) 19 3 = mI R 39 37 + 1 := by rw [mI_sI, if_pos ⟨rfl, rfl⟩]
  have sub1 : mI R 39 37 + 1 - 1 = mI R 39 37 := by clear e ed k28 kz kd i3 i4; grind
  unfold Law_keep
  simp only [h.o19, ck_t, ev_full h, if_pos lt, bd_s, if_true, h.sc.r19_1, nn_s, k19, r19, e, h.l19_3, k28, kz, kd, i3, i4, sub1]
theorem StR.cg {B' E' : Mm} (h : StR nb s0 st c B E) (e1 : ∀ a, 21 ≤ a → a ≤ 24 → mI B' a = mI B a) (e2 : ∀ a, 69 ≤ a → a ≤ 77 → mI E' a = mI E a) : StR nb s0 st c B' E' := by
  unfold StR ceB PX at h ⊢
  simp only [e1 21 (by decide) (by decide), e1 22 (by decide) (by decide), e1 23 (by decide) (by decide), e1 24 (by decide) (by decide), e2 69 (by decide) (by decide), e2 70 (by decide) (by decide), e2 71 (by decide) (by decide), e2 72 (by decide) (by decide), e2 73 (by decide) (by decide), e2 74 (by decide) (by decide), e2 75 (by decide) (by decide), e2 76 (by decide) (by decide), e2 77 (by decide) (by decide)]
  exact h
/-- the cells 46 and 52 as they were -/
theorem wj_back (E : Mm) (x y : Int32) : wj 52 (mI E 39 52) (wj 46 (mI E 39 46) (sI (sI E 39 46 x) 39 52 y)) = E := by
  apply Prod.ext
  · funext b j
    show (if b = 39 ∧ j = 52 then mI E 39 52 else if b = 39 ∧ j = 46 then mI E 39 46 else if b = 39 ∧ j = 52 then y else if b = 39 ∧ j = 46 then x else mI E b j) = mI E b j
    by_cases c1 : b = 39 ∧ j = 52
    · rw [if_pos c1, c1.1, c1.2]
    · rw [if_neg c1]
      by_cases c2 : b = 39 ∧ j = 46
      · rw [if_pos c2, c2.1, c2.2]
      · rw [if_neg c2, if_neg c1, if_neg c2]
  · rfl
/-- what both do with a text that was read without a fault -/
theorem rules_end (h3 : Rel k ad B (sI (sI E 39 46 (Int32.ofNat s0)) 39 52 (Int32.ofNat nb))) (hk : k < 512) {a : Int32} (ha : 0 ≤ a ∧ a < mI E 39 2) (lt : mI E 39 37 < 8) (h65 : mI E 39 65 = 0) (hst : st ≤ 24) (hc : c ≤ 250) (hS : StR nb s0 st c B E) (h4 : mI B 20 4 = Int32.ofNat st) (h5 : mI B 20 5 = Int32.ofNat c) (h46 : mI E 39 46 = Int32.ofNat (s0 + st)) (h52 : mI E 39 52 = Int32.ofNat (nb + c)) (hs0 : s0 ≤ 168) (hnb : nb ≤ 1750) : ∃ B2 mn, Land_spread B 9 a (mI B 8 16) = some ((), B2) ∧ kO B2 8 11 18 = true ∧ kO B2 9 4 7 = true ∧ mR B2 8 0 = some 9 ∧ Land_minuteIn B2 9 0 = some (mn, B2) ∧ kO B2 19 5 5 = true ∧ mR B2 8 9 = some 19 ∧ Sim k (if mn = (-1) then some ((-4 : Int32), B2) else if mn ≤ 57600 then bd (Law_keep B2 19 mn) (fun r M => some (r, M)) else some ((-4 : Int32), B2)) (Mod_rules_J135 39 a (Int32.ofNat s0) (Int32.ofNat nb) E) := by
  generalize hEr : sI (sI E 39 46 (Int32.ofNat s0)) 39 52 (Int32.ofNat nb) = Er at *
  have w39 : ∀ j, j ≠ 46 → j ≠ 52 → mI Er 39 j = mI E 39 j := fun j p q => by rw [← hEr, mI_sI, if_neg (fun w => q w.2), mI_sI, if_neg (fun w => p w.2)]
  have w46 : mI Er 39 46 = Int32.ofNat s0 := by rw [← hEr]; rfl
  have w52 : mI Er 39 52 = Int32.ofNat nb := by rw [← hEr]; rfl
  have wr : ∀ a, a ≠ 39 → mI Er a = mI E a := fun a p => by rw [← hEr, row_n p, row_n p]
  have bk : wj 52 (mI E 39 52) (wj 46 (mI E 39 46) Er) = E := by rw [← hEr]; exact wj_back E _ _
  have mn0 := h3.isc.1
  rw [w39 0 (by decide) (by decide)] at mn0
  obtain ⟨B2, R2, y1, y2, y3, y4, y5⟩ := spread_sim4 h3 (f := a) (mn := mI E 39 0) (by rw [w39 2 (by decide) (by decide)]; exact ha) mn0
  have h6 := h3.tmp y3.ex y4
  have e39 : mI R2 39 = mI Er 39 := y4.1 39 (by unfold tR; omega)
  have c1 := cj_spreads (j := 46) (v := mI E 39 46) (M := Er) (by decide) h3.sr.k39 a (mI E 39 0)
  unfold CJ at c1
  rw [y2] at c1
  have c2 := cj_spreads (j := 52) (v := mI E 39 52) (M := wj 46 (mI E 39 46) Er) (by decide) h3.sr.k39 a (mI E 39 0)
  unfold CJ at c2
  rw [c1, bk] at c2
  have c3 : Mod_spreads E 39 a (mI E 39 0) = some ((), wj 52 (mI E 39 52) (wj 46 (mI E 39 46) R2)) := c2
  clear c1 c2
  generalize hE2 : wj 52 (mI E 39 52) (wj 46 (mI E 39 46) R2) = E2 at *
  have v39 : ∀ j, j ≠ 46 → j ≠ 52 → mI E2 39 j = mI E 39 j := fun j p q => by rw [← hE2, wj_39 q, wj_39 p, e39, w39 j p q]
  have vr : ∀ a, a ≠ 39 → mI E2 a = mI R2 a := fun a p => by funext j; rw [← hE2, wj_ne p, wj_ne p]
  have v46 : mI E2 39 46 = Int32.ofNat (s0 + st) := by rw [← hE2, wj_39 (by decide), ← h46]; unfold wj; rw [mI_sI, if_pos ⟨rfl, rfl⟩]
  have v52 : mI E2 39 52 = Int32.ofNat (nb + c) := by rw [← hE2, ← h52]; unfold wj; rw [mI_sI, if_pos ⟨rfl, rfl⟩]
  have vK : mK E2 = mK R2 := by rw [← hE2]; rfl
  have vR : mR E2 = mR R2 := by rw [← hE2]; rfl
  have vL : mL E2 = mL R2 := by rw [← hE2]; rfl
  clear hE2 bk
  have sr2 : SR E2 := h6.sr.sm vK vR
  have tw2 : (0 : Int32) ≤ 0 ∧ (0 : Int32) < mI R2 39 2 := ⟨by decide, by rw [e39, w39 2 (by decide) (by decide)]; clear hS; grind⟩
  have em := ev_minute h6 y5 (t := 0) tw2
  have lr := (y5 0 (by decide)).1
  have o0 : mI E 39 65 = 0 := h65
  have sp : mI B 8 16 = mI E 39 0 := by rw [h3.l8_16, w39 0 (by decide) (by decide)]
  have back : ∀ R3, R3 = sI (sI E2 39 46 (Int32.ofNat s0)) 39 52 (Int32.ofNat nb) → Rel k ad B2 R3 := fun R3 q => by
    refine h6.frg rfl rfl ⟨?_, ?_, fun a q1 _ _ => ?_, fun a _ _ _ => ?_, fun j _ => ?_, fun j _ => ?_, fun a q1 q2 j _ => ?_, fun a q1 q2 j _ => ?_⟩
    · rw [q]; exact vR
    · rw [q]; exact vK
    · rw [q, row_n q1, row_n q1, vr a q1]
    · rw [q]; show mL E2 a = _; rw [vL]
    · rw [q]; show mL E2 39 j = _; rw [vL]
    · rw [q, mI_sI, mI_sI, e39]
      by_cases c1 : j = 52
      · rw [if_pos ⟨rfl, c1⟩, c1, w52]
      · rw [if_neg (fun w => c1 w.2)]
        by_cases c2 : j = 46
        · rw [if_pos ⟨rfl, c2⟩, c2, w46]
        · rw [if_neg (fun w => c2 w.2), v39 j c2 c1, w39 j c2 c1]
    · rw [q, row_n (by omega), row_n (by omega), vr a (by omega)]
    · rw [q, row_n (by omega), row_n (by omega), vr a (by omega)]
  have k0 : kA E2 44 20 0 = true := kA_t (sr2.k44) (by decide) (by decide)
  have J : Mod_rules_J135 39 a (Int32.ofNat s0) (Int32.ofNat nb) E = Mod_rules_J162 39 (Int32.ofNat s0) (Int32.ofNat nb) (mI R2 44 0) E2 := by
    unfold Mod_rules_J135
    have kE : kO E 39 12 107 = true := by
      have := h3.o39
      rw [← hEr] at this
      exact this
    rw [kE, ck_t, if_pos h65, c3, bd_s, kO_t sr2.k39, ck_t, sr2.r39_7, nn_s, k0, ck_t, vr 44 (by decide)]
    rfl
  refine ⟨B2, mI R2 44 0, by rw [sp]; exact y1, h6.o8, h6.o9, h6.sc.r8_0, em, h6.o19, h6.sc.r8_9, ?_⟩
  rw [J]
  have z65 : mI E2 39 65 = 0 := by rw [v39 65 (by decide) (by decide)]; exact h65
  have no : Mod_rules_J182 39 (Int32.ofNat s0) (Int32.ofNat nb) E2 = some (-4, sI (sI E2 39 46 (Int32.ofNat s0)) 39 52 (Int32.ofNat nb)) := by
    unfold Mod_rules_J182
    rw [kO_t sr2.k39, ck_t]
    have : mI (sI (sI E2 39 46 (Int32.ofNat s0)) 39 52 (Int32.ofNat nb)) 39 65 = 0 := z65
    rw [if_pos this]
  have sno : Sim k (some ((-4 : Int32), B2)) (some (-4, sI (sI E2 39 46 (Int32.ofNat s0)) 39 52 (Int32.ofNat nb))) := ⟨_, _, _, ad, rfl, rfl, (back _ rfl).up hk⟩
  unfold Mod_rules_J162
  rw [kO_t sr2.k39, ck_t, if_pos z65, no]
  rcases lr with ⟨x1, x2⟩ | ⟨v, v1, v2, v3⟩
  · rw [x2, if_pos rfl, if_pos (by decide)]
    exact sno
  · have n0 : (0 : Int32) ≤ Int32.ofNat v := of_nn v (by omega)
    rw [v3, if_neg (fun w => by rw [w] at n0; exact absurd n0 (by decide)), if_neg (show ¬ Int32.ofNat v < 0 from fun w => by clear hS; grind)]
    by_cases q : Int32.ofNat v ≤ 57600
    · rw [if_pos q, if_pos q]
      have n37 : mI E2 39 37 = mI R2 39 37 := by rw [v39 37 (by decide) (by decide), e39, w39 37 (by decide) (by decide)]
      have lt2 : mI R2 39 37 < 8 := by rw [← n37, v39 37 (by decide) (by decide)]; exact lt
      have n00 := h6.isc.2.2.2.2.2.2.2.2.2.1.1
      have t8 : ix (mI R2 39 37) < 8 := ix_b 8 n00 lt2 (by decide) (by decide)
      obtain ⟨D, ed, ek⟩ := ev_keep h6 lt2 hst hc (by rw [y3.1 20 (by decide)]; exact h4) (by rw [y3.1 20 (by decide)]; exact h5) (Int32.ofNat v)
      have S2 : StR nb s0 st c B2 R2 := hS.cg (fun a q1 q2 => y3.1 a (by omega)) (fun a q1 q2 => by rw [y4.1 a (by unfold tR; omega), wr a (by omega)])
      generalize hn : mI R2 39 37 = n at *
      generalize ht : ix n = t at *
      have ro : ∀ (M : Mm) (b i : Nat) (x : Int32), b ≠ 39 → mI (sI M b i x) 39 = mI M 39 := fun M b i x q => row_n (fun w => q w.symm)
      have k66 : kA E2 66 20 n = true := kA_t sr2.k66 n00 (by rw [ht]; exact t8)
      have k67 : ∀ x, kA (sI E2 66 t x) 67 20 n = true := fun x => kA_t sr2.k67 n00 (by rw [ht]; exact t8)
      have k68 : ∀ x y, kA (sI (sI E2 66 t x) 67 t y) 68 20 n = true := fun x y => kA_t sr2.k68 n00 (by rw [ht]; exact t8)
      have sub1 : n + 1 - 1 = n := by clear hS S2 ed ek; grind
      have sst : Int32.ofNat (s0 + st) - Int32.ofNat s0 = Int32.ofNat st := by rw [of_sub _ _ (by omega), show s0 + st - s0 = st by omega]
      rw [sr2.r39_38, nn_s, n37, k66, ck_t, ht]
      simp only [mR_sI, sr2.r39_39, sr2.r39_40, nn_s, ro _ 66 _ _ (by decide), ro _ 67 _ _ (by decide), ro _ 68 _ _ (by decide), n37, v46, sst, k67, k68, ck_t, ht, ek, bd_s]
      have i37 : ∀ (M : Mm) (x : Int32), mI (sI M 39 37 x) 39 37 = x := fun M x => by rw [mI_sI, if_pos ⟨rfl, rfl⟩]
      rw [i37, sub1]
      have nz : ∀ c i, (if i = t ∧ 16 ≤ c ∧ c ≤ 20 then mZ B2 + (c - 16) else 0) ≠ 0 → i = t ∧ 16 ≤ c ∧ c ≤ 20 := fun c i q => by
        apply Classical.byContradiction
        intro w
        rw [if_neg w] at q
        exact q rfl
      have hz := h6.lv.1
      obtain ⟨ad', u1, u2, u3, u4⟩ := h6.re (fun c i => if i = t ∧ 16 ≤ c ∧ c ≤ 20 then mZ B2 + (c - 16) else 0) (fun c i q => by
        have w := nz c i q
        show mZ B2 ≤ (if i = t ∧ 16 ≤ c ∧ c ≤ 20 then mZ B2 + (c - 16) else 0) ∧ (if i = t ∧ 16 ≤ c ∧ c ≤ 20 then mZ B2 + (c - 16) else 0) < mZ B2 + 200 ∧ ¬ Al R2 c i
        rw [if_pos w]
        refine ⟨by omega, by omega, ?_⟩
        unfold Al
        rw [hn, ht]
        omega) (fun c i c' i' q e => by
        have w := nz c i q
        have e : (if i = t ∧ 16 ≤ c ∧ c ≤ 20 then mZ B2 + (c - 16) else 0) = (if i' = t ∧ 16 ≤ c' ∧ c' ≤ 20 then mZ B2 + (c' - 16) else 0) := e
        rw [if_pos w] at e
        by_cases w' : i' = t ∧ 16 ≤ c' ∧ c' ≤ 20
        · rw [if_pos w'] at e; omega
        · rw [if_neg w'] at e; omega)
      refine ⟨_, _, _, ad', rfl, rfl, keep_R (t := t) (s0 := s0) (nb := nb) (st := st) (c := c) (n := n) (mn := Int32.ofNat v) u1 hk hn ht lt2 (by rw [e39, w46]; exact ix_of _ (by omega)) (by rw [e39, w52]; exact ix_of _ (by omega)) hst hc ⟨n0, q⟩ S2 (fun c p q => ?_) (fun c i q => ?_) ed ⟨fun j => ?_, fun j => ?_, fun j => ?_, fun j => ?_, fun a p1 p2 p3 p4 => ?_, ?_, ?_, ?_⟩⟩
      · have e : (if t = t ∧ 16 ≤ c ∧ c ≤ 20 then mZ B2 + (c - 16) else 0) = mZ B2 + (c - 16) := if_pos ⟨rfl, p, q⟩
        have := u2 c t (by show (if t = t ∧ 16 ≤ c ∧ c ≤ 20 then mZ B2 + (c - 16) else 0) ≠ 0; rw [e]; omega)
        exact this.trans e
      · by_cases a : Al R2 c i
        · left; exact al_lt u1 a
        · right
          refine u4 c i a ?_
          show (if i = t ∧ 16 ≤ c ∧ c ≤ 20 then mZ B2 + (c - 16) else 0) = 0
          rw [if_neg (fun w => q ⟨w.2.1, w.2.2, w.1⟩)]
      · rw [mI_sI]
        by_cases c1 : j = 37
        · rw [if_pos ⟨rfl, c1⟩, if_pos c1]
        · rw [if_neg (fun w => c1 w.2), if_neg c1, ro _ 68 _ _ (by decide), ro _ 67 _ _ (by decide), ro _ 66 _ _ (by decide)]
          by_cases c2 : j = 46
          · rw [if_pos c2, c2, v46]
          · rw [if_neg c2]
            by_cases c3 : j = 52
            · rw [if_pos c3, c3, v52]
            · rw [if_neg c3, v39 j c2 c3, e39, w39 j c2 c3]
      · rw [row_n (by decide), row_n (by decide), row_n (by decide), mI_sI, vr 66 (by decide)]
        by_cases c1 : j = t
        · rw [if_pos ⟨rfl, c1⟩, if_pos c1]
        · rw [if_neg (fun w => c1 w.2), if_neg c1]
      · rw [row_n (by decide), row_n (by decide), mI_sI, row_n (by decide), vr 67 (by decide)]
        by_cases c1 : j = t
        · rw [if_pos ⟨rfl, c1⟩, if_pos c1]
        · rw [if_neg (fun w => c1 w.2), if_neg c1]
      · rw [row_n (by decide), mI_sI, row_n (by decide), row_n (by decide), vr 68 (by decide)]
        by_cases c1 : j = t
        · rw [if_pos ⟨rfl, c1⟩, if_pos c1]
        · rw [if_neg (fun w => c1 w.2), if_neg c1]
      · rw [row_n p1, row_n p4, row_n p3, row_n p2, vr a p1]
      · exact vL
      · exact vR
      · exact vK
    · rw [if_neg q, if_neg q]
      exact sno
theorem sim_rules (h : Rel k ad C R) (hk : k < 512) (a b : Int32) : Sim k (Hall_rules C 8 a b) (Mod_rules R 39 a b) := by
  have s1 : ∀ r : Int32, Sim k (some (r, C)) (some (r, R)) := fun r => ⟨_, _, _, ad, rfl, rfl, h.up hk⟩
  have i37 := h.isc.2.2.2.2.2.2.2.2.2.1
  have i8 := h.isc.taped
  by_cases h1 : 0 ≤ a ∧ a < mI R 39 2
  · by_cases h2 : 0 ≤ b ∧ b ≤ mI R 39 54
    · by_cases h3 : mI R 39 37 < 8
      · have h0 := h.st_nil
        have hb : b = Int32.ofNat (ix b) := (of_ix b h2.1).symm
        have hN : ix b ≤ 500 := by grind [ix_t]
        have q46 := h.ied.1
        have q52 := h.ied.2.1
        have e46 : mI R 39 46 = Int32.ofNat (ix (mI R 39 46)) := (of_ix _ q46.1).symm
        have e52 : mI R 39 52 = Int32.ofNat (ix (mI R 39 52)) := (of_ix _ q52.1).symm
        have t46 : ix (mI R 39 46) ≤ 168 := by grind [ix_t]
        have t52 : ix (mI R 39 52) ≤ 1750 := by grind [ix_t]
        have n8 : ¬ mI R 39 37 = 8 := fun w => by rw [w] at h3; exact absurd h3 (by decide)
        have nb0 : ¬ b < 0 := fun w => by have := h2.1; grind
        have m9 : Beg (sI R 39 54 0) (sI (sI (sI (sI (sI R 39 56 b) 39 54 0) 39 57 0) 39 55 (-1)) 39 65 0) := by
          refine ⟨rfl, rfl, fun a q => ?_, rfl, fun j q1 q2 => ?_⟩
          · rw [row_n q, row_n q, row_n q, row_n q, row_n q, row_n q]
          · rw [mI_sI, if_neg (by unfold FP at q1; omega), mI_sI, if_neg (by omega), mI_sI, if_neg (by unfold FP at q1; omega), mI_sI, mI_sI, mI_sI, if_neg (show ¬ ((39 : Nat) = 39 ∧ j = 56) by unfold FP at q1; omega)]
        obtain ⟨M13, x1, x2⟩ := read_both (s0 := ix (mI R 39 46)) (nb := ix (mI R 39 52)) h0 hN m9 (by rw [← hb]; rfl) rfl rfl rfl e46 e52 t46 t52 a
        have g46 : mI (sI (sI (sI (sI (sI R 39 56 b) 39 54 0) 39 57 0) 39 55 (-1)) 39 65 0) 39 46 = mI R 39 46 := rfl
        have g52 : mI (sI (sI (sI (sI (sI R 39 56 b) 39 54 0) 39 57 0) 39 55 (-1)) 39 65 0) 39 52 = mI R 39 52 := rfl
        have ref : Mod_rules R 39 a b = Mod_rules_L75 fu 39 a (Int32.ofNat (ix (mI R 39 46))) (Int32.ofNat (ix (mI R 39 52))) M13 := by
          unfold Mod_rules
          simp only [h.o39, ck_t, ev_isT h, bd_s, if_pos h1, i10, if_false, if_neg nb0, if_pos h2.2, if_neg n8]
          rw [x1, bd_s, g46, g52, ← e46, ← e52]
        rw [ref]
        rw [← hb] at x2
        rcases x2 with ⟨D, E, p1, p2, p3, p4⟩ | ⟨B, E, st, c, p1, p2, p3, p4, p5, p6, p7, p8, p9, p10, p11, p12, p13⟩
        · rw [p2]
          have e1 : Hall_rules C 8 a b = some (-1, D) := by
            unfold Hall_rules
            simp only [h.o8, h.o9, ck_t, h.sc.r8_0, nn_s, ev_has h, bd_s, if_pos h1, i10, if_false, ev_within, h.l8_8, if_pos h2, h.sc.r8_9, h.o19, ev_full h, if_pos h3, if_true, h0.sc.r8_9, h0.sc.r8_7, h0.o19, p1]
          have e2 : Mod_rules_J135 39 a (Int32.ofNat (ix (mI R 39 46))) (Int32.ofNat (ix (mI R 39 52))) E = some (-1, sI (sI E 39 46 (Int32.ofNat (ix (mI R 39 46)))) 39 52 (Int32.ofNat (ix (mI R 39 52)))) := by
            have kE : kO E 39 12 107 = true := p4.o39
            have ne : ¬ mI E 39 65 = 0 := by rw [p3]; decide
            unfold Mod_rules_J135 Mod_rules_J162 Mod_rules_J182
            simp only [kE, ck_t, if_neg ne]
            exact if_neg ne
          exact ⟨_, _, _, ad, e1, e2, p4.up hk⟩
        · rw [p2]
          obtain ⟨B2, mn, y1, y2, y3, y4, y5, y6, y7, y8⟩ := rules_end p13 hk (a := a) (by rw [p11]; exact h1) (by rw [p12]; exact h3) p3 p4 p5 p6 p7 p8 p9 p10 t46 t52
          have e1 : Hall_rules C 8 a b = (if mn = (-1) then some ((-4 : Int32), B2) else if mn ≤ 57600 then bd (Law_keep B2 19 mn) (fun r M => some (r, M)) else some ((-4 : Int32), B2)) := by
            unfold Hall_rules
            simp only [h.o8, h.o9, ck_t, h.sc.r8_0, nn_s, ev_has h, bd_s, if_pos h1, i10, if_false, ev_within, h.l8_8, if_pos h2, h.sc.r8_9, h.o19, ev_full h, if_pos h3, if_true, h0.sc.r8_9, h0.sc.r8_7, h0.o19, p1, p13.o8, p13.o9, p13.sc.r8_0, y1, y2, y3, y4, y5, y6, y7]
          rw [e1]
          exact y8
      · have n8 : mI R 39 37 = 8 := by grind
        have nb0 : ¬ b < 0 := fun w => by have := h2.1; grind
        unfold Hall_rules Mod_rules
        simp only [h.o8, h.o9, h.o39, ck_t, h.sc.r8_0, nn_s, ev_has h, ev_isT h, bd_s, if_pos h1, i10, if_false, ev_within, h.l8_8, if_pos h2, h.sc.r8_9, h.o19, ev_full h, if_neg h3, if_neg nb0, if_pos h2.2, if_pos n8]
        exact s1 _
    · unfold Hall_rules Mod_rules
      simp only [h.o8, h.o9, h.o39, ck_t, h.sc.r8_0, nn_s, ev_has h, ev_isT h, bd_s, if_pos h1, i10, if_false, ev_within, h.l8_8, if_neg h2, if_true]
      by_cases q : b < 0
      · rw [if_pos q]; exact s1 _
      · rw [if_neg q, if_neg (fun w => h2 ⟨by grind, w⟩)]; exact s1 _
  · unfold Hall_rules Mod_rules
    simp only [h.o8, h.o9, h.o39, ck_t, h.sc.r8_0, nn_s, ev_has h, ev_isT h, bd_s, if_neg h1, if_true]
    exact s1 _
end ZA5
