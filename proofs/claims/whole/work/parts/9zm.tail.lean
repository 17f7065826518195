/-! a condition whole; a statement's tail: both readers -/
section ZU
variable {B G D E D' E' D1 E1 : Mm} {f : Nat → Int32} {N T base : Nat}
theorem Spec.mono {rd : Mm → Nat → Int32 → Option (Int32 × Mm)} {w : Int32} {o dm xm sl fb fb' : Nat} (h : Spec f N T B G base rd w o dm xm sl fb) (hf : fb ≤ fb') : Spec f N T B G base rd w o dm xm sl fb' := by
  intro i c d X D E a1 a2 a3 a4 a5 a6 a7 a8
  rcases h i c d X D E a1 a2 a3 a4 a5 a6 a7 a8 with ⟨D', E', i', m, p1, p2, p3, p4⟩ | q
  · exact Or.inl ⟨D', E', i', m, p1, p2, p3, by omega⟩
  · exact Or.inr q
theorem spec_all (b : Bas f N T B) (hb : base ≤ 1800) : ∀ (r o : Nat), o + r = 8 → Spec f N T B G base (Scribe_tF (12 - o)) 2 o (3 * o + 3) (2 * o + 2) 6 (20 * (9 - o)) := by
  intro r
  induction r with
  | zero =>
    intro o ho
    obtain rfl : o = 8 := by omega
    exact spec_F (G := G) (n := 3) (o := 8) b hb (Nat.le_refl _) (fun q => absurd q (by decide)) (fun q => absurd q (by decide))
  | succ r ih =>
    intro o ho
    have f1 := ih (o + 1) (by omega)
    have a1 := spec_A (G := G) b hb (o := o + 1) (by omega) (dm := 3 * (o + 1) + 2) (xm := 2 * (o + 1) + 1) (sl := 4) (by omega) (by omega) f1
    have c1 := spec_C (G := G) b hb (o := o + 1) (by omega) (dm := 3 * (o + 1) + 1) (xm := 2 * (o + 1)) (sl := 2) (by omega) (by omega) a1
    have e : 12 - (o + 1) = 11 - o := by omega
    rw [e] at f1 c1
    have := spec_F (G := G) (n := 11 - o) (o := o) b hb (by omega) (fun _ => f1) (fun _ => c1.mono (by omega))
    rw [show 11 - o + 1 = 12 - o by omega] at this
    exact this
theorem cond_sim (b : Bas f N T B) (hb : base ≤ 1800) {i c : Nat} (h : Inv f N T B G base D E i c) : (∃ D' E' i' r, Scribe_tC D 20 0 = some (0, D') ∧ Mod_condition E 39 = some (r, E') ∧ Fal f N T B G base i c E D' E' i' ∧ SR E') ∨ (∃ D' E' i' c' g, Scribe_tC D 20 0 = some (1, D') ∧ Mod_condition E 39 = some (Int32.ofNat g, E') ∧ Inv f N T B G base D' E' i' c' ∧ c < c' ∧ i < i' ∧ Kp base c 0 D E D' E' ∧ PX base D' E' c c' [] [g] ∧ g < base + c') := by
  have sr := h.2.1.1
  have f0 := spec_all (G := G) b hb 8 0 (by omega)
  have a0 := spec_A (G := G) b hb (o := 0) (by omega) (dm := 2) (xm := 1) (sl := 4) (by omega) (by omega) f0
  have c0 := spec_C (G := G) b hb (o := 0) (by omega) (dm := 1) (xm := 0) (sl := 2) (by omega) (by omega) a0
  have h1 : Inv f N T B G base D (sI (sI E 39 69 0) 39 62 0) i c := (h.s (by unfold SP; omega) (Or.inr (by decide)) (by decide) (by decide)).s (by unfold SP; omega) (Or.inr (by decide)) (by decide) (by decide)
  have e69 : mI (sI (sI E 39 69 0) 39 62 0) 39 69 = Int32.ofNat 0 := by rw [mI_sI, if_neg (by omega), mI_sI, if_pos ⟨rfl, rfl⟩]; rfl
  have bg := ev_beginR (E := sI (sI E 39 69 0) 39 62 0) sr (d := 0) (by omega) e69 0
  have pf := psh_f (E := sI (sI E 39 69 0) 39 62 0) (d := 0) (w := 0)
  have mc : Mod_condition E 39 = Mod_condition_L15 fu 39 (psh (sI (sI E 39 69 0) 39 62 0) 0 0) := by
    unfold Mod_condition
    simp only [kO_t sr.k39, ck_t, bg, bd_s]
    rfl
  have e62 : mI (psh (sI (sI E 39 69 0) 39 62 0) 0 0) 39 62 = Int32.ofNat 0 := by rw [psh_39 (by decide), mI_sI, if_pos ⟨rfl, rfl⟩]; rfl
  have kp1 : Kp base c 0 D E D (psh (sI (sI E 39 69 0) 39 62 0) 0 0) := psh_kp (Kp.rf.e39.e39) (Nat.le_refl _)
  have hT := b.1.2.2.1
  have hN := b.1.1
  rcases c0 i c 0 [] D _ (psh_in h1) e62 pf.2.2.2 pf.1 pf.2.1 pf.2.2.1 (by omega) (by show 0 ≤ 0; omega) with ⟨D', E', i', m, p1, p2, p3, p4⟩ | ⟨D', E', i', c', g, m, p1, p2, p3, p4⟩
  · obtain ⟨c'', hc''⟩ := p3.2.1
    have hi' := hc''.2.2.2.2.2.1
    refine Or.inl ⟨D', E', i', mI E' 39 63, p1, ?_, p3.mn (Nat.le_refl _) (Nat.le_refl _) (fun a q1 q2 j q => kp1.2.1 a q1 q2 j q), sr.sm (by rw [p3.2.2.1.2.1]; exact h.2.2.1.2.1.symm) (by rw [p3.2.2.1.1]; exact h.2.2.1.1.symm)⟩
    obtain ⟨k, hk⟩ : ∃ k, fu = k + m := ⟨1000000 - m, by unfold fu; omega⟩
    rw [mc, hk]
    exact p2 k
  · obtain ⟨s1, s2, s3, s4, s5, s6, s7, s8, s9⟩ := p3
    have hi' := s1.1.2.2.2.2.2.1
    refine Or.inr ⟨D', E', i', c', g, p1, ?_, s1, s5, s6, kp1.tr s7 (Nat.le_refl _) (Nat.le_refl _), s8, by omega⟩
    obtain ⟨k, hk⟩ : ∃ k, fu = (k + 1) + m := ⟨1000000 - m - 1, by unfold fu; omega⟩
    rw [mc, hk, p2]
    show Mod_condition_B15 _ _ _ = _
    unfold Mod_condition_B15
    rw [kO_t s1.2.1.1.k39, ck_t, s3, if_pos (by decide), s4]
/-! the tail -/
def Frm (s nb : Nat) (E E' : Mm) : Prop := mR E' = mR E ∧ mK E' = mK E ∧ (∀ a, a ≠ 39 → ¬ (69 ≤ a ∧ a ≤ 77) → ¬ (80 ≤ a ∧ a ≤ 82) → mI E' a = mI E a) ∧ (∀ a, a ≠ 39 → mL E' a = mL E a) ∧ (∀ j, j ≠ 64 → mL E' 39 j = mL E 39 j) ∧ (∀ j, ¬ SP j → mI E' 39 j = mI E 39 j) ∧ (∀ a, 69 ≤ a → a ≤ 73 → ∀ j, j ≠ s → mI E' a j = mI E a j) ∧ (∀ a, 74 ≤ a → a ≤ 77 → ∀ j, j < nb → mI E' a j = mI E a j)
theorem Frm.rf {s nb : Nat} : Frm s nb E E := ⟨rfl, rfl, fun _ _ _ _ => rfl, fun _ _ => rfl, fun _ _ => rfl, fun _ _ => rfl, fun _ _ _ _ _ => rfl, fun _ _ _ _ _ => rfl⟩
theorem Frm.tr {s nb : Nat} (h : Frm s nb E E1) (h2 : Frm s nb E1 E') : Frm s nb E E' := ⟨h2.1.trans h.1, h2.2.1.trans h.2.1, fun a q1 q2 q3 => (h2.2.2.1 a q1 q2 q3).trans (h.2.2.1 a q1 q2 q3), fun a q => (h2.2.2.2.1 a q).trans (h.2.2.2.1 a q), fun j q => (h2.2.2.2.2.1 j q).trans (h.2.2.2.2.1 j q), fun j q => (h2.2.2.2.2.2.1 j q).trans (h.2.2.2.2.2.1 j q), fun a q1 q2 j q => (h2.2.2.2.2.2.2.1 a q1 q2 j q).trans (h.2.2.2.2.2.2.1 a q1 q2 j q), fun a q1 q2 j q => (h2.2.2.2.2.2.2.2 a q1 q2 j q).trans (h.2.2.2.2.2.2.2 a q1 q2 j q)⟩
theorem Frm.est {s nb : Nat} (h : Est E E') (k : ∀ a, 74 ≤ a → a ≤ 77 → ∀ j, j < nb → mI E' a j = mI E a j) : Frm s nb E E' := ⟨h.1, h.2.1, fun a q1 q2 q3 => h.2.2.1 a q1 (by omega) q3, h.2.2.2.1, h.2.2.2.2.1, h.2.2.2.2.2, fun a q1 q2 j _ => by rw [h.2.2.1 a (by omega) (by omega) (by omega)], k⟩
theorem Frm.rx {s nb : Nat} (r : Rx S5 E E') : Frm s nb E E' := Frm.est (Est.rf.x r) (fun a q1 q2 j _ => r.nd q1 q2 j)
theorem Frm.w {s nb a : Nat} {v : Int32} (h : Frm s nb E E') (ha : 69 ≤ a ∧ a ≤ 73) : Frm s nb E (sI E' a s v) := h.tr ⟨rfl, rfl, fun b q1 q2 q3 => row_n (by omega), fun _ _ => rfl, fun _ _ => rfl, fun j q => by rw [row_n (by omega)], fun b q1 q2 j q => by rw [mI_sI, if_neg (fun w => q w.2)], fun b q1 q2 j q => by rw [row_n (by omega)]⟩
theorem Frm.fl {s nb : Nat} {v : Int32} (h : Frm s nb E E') : Frm s nb E (sI (sI E' 39 65 1) 39 55 v) := h.tr (Frm.est ((Est.rf.s (by unfold SP; omega)).s (by unfold SP; omega)) (fun a q1 q2 j _ => by rw [row_n (by omega), row_n (by omega)]))
/-- the state of both readers, without a frame -/
def Iv (f : Nat → Int32) (N T : Nat) (B : Mm) (base : Nat) (D E : Mm) (i c : Nat) : Prop := Cst f N T B D i c ∧ AtE f N T E i ∧ mI E 39 65 = 0 ∧ mI E 39 52 = Int32.ofNat (base + c) ∧ 2 * c ≤ PT f N i
theorem Iv.inv {i c : Nat} (h : Iv f N T B base D E i c) : Inv f N T B E base D E i c := ⟨h.1, h.2.1, Est.rf, h.2.2.1, h.2.2.2.1, h.2.2.2.2⟩
theorem Inv.iv {i c : Nat} (h : Inv f N T B G base D E i c) : Iv f N T B base D E i c := ⟨h.1, h.2.1, h.2.2.2.1, h.2.2.2.2.1, h.2.2.2.2.2⟩
theorem Iv.nx {i c : Nat} (h : Iv f N T B base D E i c) (b : Bas f N T B) (hi : i < T) : ∃ E', Mod_next E 39 = some ((), E') ∧ Rx S5 E E' ∧ Iv f N T B base (sI D 20 10 (Int32.ofNat (i + 1))) E' (i + 1) c := by
  obtain ⟨E', x1, r1, h1⟩ := h.inv.nx b hi
  exact ⟨E', x1, r1, h1.iv⟩
theorem Iv.w {i c a j : Nat} {v : Int32} (h : Iv f N T B base D E i c) (ha : 69 ≤ a ∧ a ≤ 73) : Iv f N T B base D (sI E a j v) i c := ⟨h.1, h.2.1.r (by omega) (by omega), by rw [row_n (by omega)]; exact h.2.2.1, by rw [row_n (by omega)]; exact h.2.2.2.1, h.2.2.2.2⟩
def Bad (f : Nat → Int32) (N T : Nat) (B : Mm) (s nb i c : Nat) (E D' E' : Mm) (i' : Nat) : Prop := i ≤ i' ∧ (∃ c', Cst f N T B D' i' c') ∧ Frm s nb E E' ∧ mI E' 39 65 = 1 ∧ mI E' 39 55 = Int32.ofNat (PT f N i')
theorem Iv.bad {s nb i c : Nat} (h : Iv f N T B base D E i c) : Mod_fails0 E 39 = some ((), sI (sI E 39 65 1) 39 55 (Int32.ofNat (PT f N i))) ∧ Bad f N T B s nb i c E D (sI (sI E 39 65 1) 39 55 (Int32.ofNat (PT f N i))) i := by
  obtain ⟨fl1, fl2⟩ := h.inv.fl
  exact ⟨fl1, Nat.le_refl _, fl2.2.1, Frm.rf.fl, fl2.2.2.2.1, fl2.2.2.2.2.1⟩
theorem Bad.mn {s nb i c i1 c1 i' : Nat} (h : Bad f N T B s nb i1 c1 E1 D' E' i') (hi : i ≤ i1) (k : Frm s nb E E1) : Bad f N T B s nb i c E D' E' i' := ⟨by have := h.1; omega, h.2.1, k.tr h.2.2.1, h.2.2.2.1, h.2.2.2.2⟩
/-- a semicolon -/
theorem semi_sim (b : Bas f N T B) {s nb i c : Nat} (h : Iv f N T B base D E i c) : (∃ D' E', Scribe_take D 20 27 = some (0, D') ∧ Mod_statement_J243 39 E = some ((), E') ∧ Bad f N T B s nb i c E D' E' i) ∨ (∃ E', Scribe_take D 20 27 = some (1, sI D 20 10 (Int32.ofNat (i + 1))) ∧ Mod_statement_J243 39 E = some ((), E') ∧ Rx S5 E E' ∧ Iv f N T B base (sI D 20 10 (Int32.ofNat (i + 1))) E' (i + 1) c) := by
  have sr := h.2.1.1
  have tk := ev_take h.1 b (k := 27) (by decide)
  have sg := ev_isSg h.2.1 (j := 3) (by decide) (w := 59) rfl
  by_cases c1 : KK f N T i = Int32.ofNat (24 + 3)
  · have c1' : KK f N T i = 27 := c1
    rw [if_pos c1', if_pos c1'] at tk
    rw [if_pos c1] at sg
    have hi : i < T := by
      apply Classical.byContradiction
      intro w
      rw [KK_T w] at c1
      exact of_ne (a := 31) (by decide) (by decide) (by decide) c1
    obtain ⟨E', x1, r1, h1⟩ := h.nx b hi
    refine Or.inr ⟨E', tk, ?_, r1, h1⟩
    unfold Mod_statement_J243
    simp only [kO_t sr.k39, ck_t, h.2.2.1, if_true, sg, bd_s, if_neg (show ¬ (1 : Int32) = 0 by decide), x1]
  · have c1' : ¬ KK f N T i = 27 := c1
    rw [if_neg c1', if_neg c1'] at tk
    rw [if_neg c1] at sg
    obtain ⟨fl1, fl2⟩ := h.bad (s := s) (nb := nb)
    refine Or.inl ⟨D, _, tk, ?_, fl2⟩
    unfold Mod_statement_J243
    simp only [kO_t sr.k39, ck_t, h.2.2.1, if_true, sg, bd_s, fl1]
/-- a number -/
theorem num_sim (b : Bas f N T B) {s nb i c : Nat} (h : Iv f N T B base D E i c) {lo : Int32} : (Scribe_takeNumber D 20 lo = some (-1, D) ∧ ∃ r E', Mod_number E 39 lo = some (r, E') ∧ Bad f N T B s nb i c E D E' i) ∨ (∃ v E', Scribe_takeNumber D 20 lo = some (v, sI D 20 10 (Int32.ofNat (i + 1))) ∧ Mod_number E 39 lo = some (v, E') ∧ Rx S5 E E' ∧ Iv f N T B base (sI D 20 10 (Int32.ofNat (i + 1))) E' (i + 1) c ∧ 0 ≤ v ∧ v ≤ 99999 ∧ lo ≤ v) := by
  have sr := h.2.1.1
  have tn := ev_takeN h.1 b (lo := lo)
  have tk := h.2.1.2.2.2.2.2.2
  obtain ⟨fl1, fl2⟩ := h.bad (s := s) (nb := nb)
  by_cases c1 : KK f N T i = 30
  · obtain ⟨hi, n0, n9⟩ := KK_n b.1 c1
    have tok := tk.2.2.2.1.mpr c1
    have val := tk.2.2.2.2 c1
    by_cases c2 : lo ≤ nbT f N (PT f N i)
    · rw [if_pos ⟨c1, c2⟩, if_pos ⟨c1, c2⟩] at tn
      obtain ⟨E', x1, r1, h1⟩ := h.nx b hi
      refine Or.inr ⟨_, E', tn, ?_, r1, h1, n0, n9, c2⟩
      unfold Mod_number
      simp only [kO_t sr.k39, ck_t, if_pos tok]
      rw [val, if_neg (show ¬ nbT f N (PT f N i) < lo from fun w => by rw [I_lt] at w; rw [I_le] at c2; omega), x1, bd_s]
    · rw [if_neg (fun q => c2 q.2), if_neg (fun q => c2 q.2)] at tn
      refine Or.inl ⟨tn, mI E 39 61, _, ?_, fl2⟩
      unfold Mod_number Mod_number_J25
      simp only [kO_t sr.k39, ck_t, if_pos tok]
      rw [if_pos (show mI E 39 61 < lo by rw [val, I_lt]; rw [I_le] at c2; omega), fl1, bd_s]
  · rw [if_neg (fun q => c1 q.1), if_neg (fun q => c1 q.1)] at tn
    have tok : ¬ mI E 39 59 = 2 := fun q => c1 (tk.2.2.2.1.mp q)
    refine Or.inl ⟨tn, mI E 39 61, _, ?_, fl2⟩
    unfold Mod_number Mod_number_J25
    simp only [kO_t sr.k39, ck_t, if_neg tok, fl1, bd_s]
end ZU
