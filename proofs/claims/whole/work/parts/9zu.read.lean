/-! a text read by both -/
section ZA4
variable {k : Nat} {ad : Nat → Nat → Nat} {C R D Ca Ra M9 M13 : Mm} {s0 nb : Nat}
theorem ExC.s19 {v : Int32} (h : ExC (sI C 19 4 (-1)) D) : ExC (sI C 19 4 v) (sI D 19 4 v) := by
  refine ⟨fun a q => ?_, fun a p q => h.2.1 a p q, h.2.2⟩
  by_cases e : a = 19
  · subst e
    funext j
    rw [mI_sI, mI_sI]
    by_cases c : j = 4
    · rw [if_pos ⟨rfl, c⟩, if_pos ⟨rfl, c⟩]
    · have := congrFun (h.1 19 q) j
      rw [mI_sI, if_neg (fun w => c w.2)] at this
      rw [if_neg (fun w => c w.2), if_neg (fun w => c w.2), this]
  · have := h.1 a q
    rw [row_n e] at this
    rw [row_n e, row_n e, this]
def Beg (Ra M9 : Mm) : Prop := mR M9 = mR Ra ∧ mK M9 = mK Ra ∧ (∀ a, a ≠ 39 → mI M9 a = mI Ra a) ∧ mL M9 = mL Ra ∧ ∀ j, ¬ FP j → j ≠ 55 → mI M9 39 j = mI Ra 39 j
theorem fr_all {E' : Mm} {v x y : Int32} (m9 : Beg Ra M9) (r : Rx S5 M9 M13) (f : FrT s0 nb M13 E') (h55 : mI E' 39 55 = v) (hx : mI Ra 39 46 = x) (hy : mI Ra 39 52 = y) : FrG s0 nb (sI Ra 39 55 v) (sI (sI E' 39 46 x) 39 52 y) := by
  refine ⟨f.1.trans (r.1.trans m9.1), f.2.1.trans (r.2.1.trans m9.2.1), fun a q1 q2 q3 => ?_, fun a q _ _ => ?_, fun j q => ?_, fun j q => ?_, fun a q1 q2 j q => ?_, fun a q1 q2 j q => ?_⟩
  · rw [row_n q1, row_n q1, row_n q1, f.2.2.1 a q1 q3 (by unfold tR at q2; omega), (r.2.2.1 a q1).1, m9.2.2.1 a q1]
  · show mL E' a = mL Ra a
    rw [f.2.2.2.1 a q, (r.2.2.1 a q).2, m9.2.2.2.1]
  · show mL E' 39 j = mL Ra 39 j
    rw [f.2.2.2.2.1 j q, r.2.2.2.2 j q, m9.2.2.2.1]
  · rw [mI_sI, mI_sI, mI_sI]
    by_cases c1 : j = 52
    · rw [if_pos ⟨rfl, c1⟩, if_neg (by omega), c1, hy]
    · rw [if_neg (fun w => c1 w.2)]
      by_cases c2 : j = 46
      · rw [if_pos ⟨rfl, c2⟩, if_neg (by omega), c2, hx]
      · rw [if_neg (fun w => c2 w.2)]
        by_cases c3 : j = 55
        · rw [if_pos ⟨rfl, c3⟩, c3, h55]
        · rw [if_neg (fun w => c3 w.2), f.2.2.2.2.2.1 j (by unfold FP at q; unfold SP; omega) c2, r.2.2.2.1 j (by unfold FP at q; unfold S5; omega), m9.2.2.2.2 j q c3]
  · rw [row_n (by omega), row_n (by omega), row_n (by omega), f.2.2.2.2.2.2.1 a q1 q2 j q, (r.2.2.1 a (by omega)).1, m9.2.2.1 a (by omega)]
  · rw [row_n (by omega), row_n (by omega), row_n (by omega), f.2.2.2.2.2.2.2 a q1 q2 j q, (r.2.2.1 a (by omega)).1, m9.2.2.1 a (by omega)]
theorem read_both (h0 : Rel k ad Ca Ra) {N : Nat} (hN : N ≤ 500) (m9 : Beg Ra M9) (h56 : mI M9 39 56 = Int32.ofNat N) (h57 : mI M9 39 57 = 0) (h55 : mI M9 39 55 = -1) (h65 : mI M9 39 65 = 0) (hs : mI Ra 39 46 = Int32.ofNat s0) (hn : mI Ra 39 52 = Int32.ofNat nb) (hs0 : s0 ≤ 168) (hnb : nb ≤ 1750) (tw : Int32) : ∃ M13, Mod_next M9 39 = some ((), M13) ∧ ((∃ D E, Law_read Ca 19 18 (Int32.ofNat N) = some (0, D) ∧ Mod_rules_L75 fu 39 tw (Int32.ofNat s0) (Int32.ofNat nb) M13 = Mod_rules_J135 39 tw (Int32.ofNat s0) (Int32.ofNat nb) E ∧ mI E 39 65 = 1 ∧ Rel k ad D (sI (sI E 39 46 (Int32.ofNat s0)) 39 52 (Int32.ofNat nb))) ∨ (∃ B E st c, Law_read Ca 19 18 (Int32.ofNat N) = some (1, B) ∧ Mod_rules_L75 fu 39 tw (Int32.ofNat s0) (Int32.ofNat nb) M13 = Mod_rules_J135 39 tw (Int32.ofNat s0) (Int32.ofNat nb) E ∧ mI E 39 65 = 0 ∧ st ≤ 24 ∧ c ≤ 250 ∧ StR nb s0 st c B E ∧ mI B 20 4 = Int32.ofNat st ∧ mI B 20 5 = Int32.ofNat c ∧ mI E 39 46 = Int32.ofNat (s0 + st) ∧ mI E 39 52 = Int32.ofNat (nb + c) ∧ mI E 39 2 = mI Ra 39 2 ∧ mI E 39 37 = mI Ra 39 37 ∧ Rel k ad B (sI (sI E 39 46 (Int32.ofNat s0)) 39 52 (Int32.ofNat nb)))) := by
  have hf : mI Ca 18 = mI Ra 79 := funext (fun j => h0.dt.ld 118 0 j rfl (by decide) (h0.lv.st (a := 18) (by decide)))
  have sc1 : SC (sI Ca 19 4 (-1)) := h0.sc.sm rfl rfl
  obtain ⟨T, B0, x1, x2, x3, x4, x5, x6⟩ := ev_begin (N := N) sc1 hN
  have f1 : mI (sI Ca 19 4 (-1)) 18 = mI Ra 79 := by rw [row_n (by decide)]; exact hf
  rw [f1] at x2
  have tx : Txt (mI Ra 79) N T := ⟨hN, h0.ila.2.2, x2.1, x2.2.1, x2.2.2.1⟩
  have sc0 : SC B0 := sc1.sm x3.2.2.2.1 x3.2.2.1
  have bas : Bas (mI Ra 79) N T B0 := ⟨tx, sc0, x2⟩
  have sr9 : SR M9 := h0.sr.sm m9.2.1 m9.1
  obtain ⟨M13, n1, n2, n3⟩ := nx_gen (E := M9) tx (q := 0) sr9 (m9.2.2.1 79 (by decide)) h56 (by omega) h57 (i := 0) (by omega) rfl
  have g : ∀ j, ¬ S5 j → mI M13 39 j = mI M9 39 j := n3.2.2.2.1
  have e65 : mI M13 39 65 = 0 := by rw [g 65 (by unfold S5; omega)]; exact h65
  have e55 : mI M13 39 55 = -1 := by rw [g 55 (by unfold S5; omega)]; exact h55
  have e52 : mI M13 39 52 = Int32.ofNat nb := by rw [g 52 (by unfold S5; omega), m9.2.2.2.2 52 (by unfold FP; omega) (by decide)]; exact hn
  have e46 : mI M13 39 46 = Int32.ofNat s0 := by rw [g 46 (by unfold S5; omega), m9.2.2.2.2 46 (by unfold FP; omega) (by decide)]; exact hs
  have cst : Cst (mI Ra 79) N T B0 B0 0 0 := ⟨⟨rfl, rfl, rfl, rfl, rfl⟩, fun _ _ _ => rfl, fun _ _ _ => rfl, x6, x5, by omega, by omega⟩
  have iv : Iv (mI Ra 79) N T B0 nb B0 M13 0 0 := ⟨cst, n2, e65, e52, by omega⟩
  have str0 : StR nb s0 0 0 B0 M13 := ⟨by unfold ceB; rw [if_pos rfl], fun j hj => absurd hj (by omega)⟩
  have hT : T ≤ 500 := by have := x2.1; omega
  have rd : ∀ r D, Law_read_L16 fu 19 (Int32.ofNat 0) B0 = some (r, D) → Law_read Ca 19 18 (Int32.ofNat N) = some (r, D) := fun r D q => by
    unfold Law_read
    simp only [h0.o19, ck_t, sc1.r19_0, nn_s, kO_t sc1.k20, x1, bd_s]
    exact q
  refine ⟨M13, n1, ?_⟩
  rcases lp_text (C1 := sI Ca 19 4 (-1)) (E0 := M13) (f := mI Ra 79) (N := N) (T := T) (base := nb) (s0 := s0) (by omega) (by omega) (tw := tw) T fu fu 0 0 0 B0 M13 (by omega) (fu_g (by omega)) (fu_g (by omega)) (by omega) bas x3 iv x4 e46 str0 FrT.rf with ⟨D, E, p, p1, p2, p3, p4, p5, p6⟩ | ⟨B, E, st, c, p1, p2, p3, p4, p5, p6, p7, p8, p9, p10, p11, p12, p13⟩
  · left
    refine ⟨_, E, rd _ _ p1, p2, p5, ?_⟩
    have r1 : Rel k ad (sI Ca 19 4 (Int32.ofNat p)) (sI Ra 39 55 (Int32.ofNat p)) := h0.st_flt
    have r2 := r1.tmp (p3.s19 (v := Int32.ofNat p)) ExR.rf
    exact r2.frg (s0 := s0) (nb := nb) (by show ix (mI Ra 39 46) = s0; rw [hs]; exact ix_of _ (by omega)) (by show ix (mI Ra 39 52) = nb; rw [hn]; exact ix_of _ (by omega)) (fr_all m9 n3 p4 p6 hs hn)
  · right
    have r1 : Rel k ad (sI Ca 19 4 (-1)) (sI Ra 39 55 (-1)) := h0.st_flt
    have r2 := r1.tmp p3 ExR.rf
    have fa := fr_all m9 n3 p4 (p13.trans e55) hs hn
    have r3 := r2.frg (s0 := s0) (nb := nb) (by show ix (mI Ra 39 46) = s0; rw [hs]; exact ix_of _ (by omega)) (by show ix (mI Ra 39 52) = nb; rw [hn]; exact ix_of _ (by omega)) fa
    exact ⟨B, E, st, c, rd _ _ p1, p2, p5, p6, p7, p8, p9, p10, p11, p12, fa.2.2.2.2.2.1 2 (by unfold FP; omega), fa.2.2.2.2.2.1 37 (by unfold FP; omega), r3⟩
end ZA4
