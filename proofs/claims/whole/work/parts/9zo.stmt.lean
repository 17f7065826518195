/-! a statement whole: both readers -/
section ZW
variable {B G D E D' E' D1 E1 : Mm} {f : Nat → Int32} {N T base : Nat}
theorem Frm.mn {s nb nb' : Nat} (h : Frm s nb E E') (hn : nb' ≤ nb) : Frm s nb' E E' := ⟨h.1, h.2.1, h.2.2.1, h.2.2.2.1, h.2.2.2.2.1, h.2.2.2.2.2.1, h.2.2.2.2.2.2.1, fun a q1 q2 j q => h.2.2.2.2.2.2.2 a q1 q2 j (by omega)⟩
theorem Bad.nb {s nb nb' i c i' : Nat} (h : Bad f N T B s nb i c E D' E' i') (hn : nb' ≤ nb) : Bad f N T B s nb' i c E D' E' i' := ⟨h.1, h.2.1, h.2.2.1.mn hn, h.2.2.2⟩
theorem stmt_sim (b : Bas f N T B) (hb : base ≤ 1800) {st s i c : Nat} (hst : st < 24) (hs : s < 200) (h4 : mI B 20 4 = Int32.ofNat st) (h : Iv f N T B base B E i c) : (∃ D' E' i', Scribe_readStatement B 20 = some (0, D') ∧ Mod_statement E 39 (Int32.ofNat s) = some ((), E') ∧ Bad f N T B s (base + c) i c E D' E' i') ∨ (∃ D1 E' w v i' c', Scribe_readStatement B 20 = some (1, stC D1 st w v c') ∧ Mod_statement E 39 (Int32.ofNat s) = some ((), E') ∧ Iv f N T B base D1 E' i' c' ∧ i < i' ∧ c ≤ c' ∧ Frm s (base + c) E E' ∧ mI E' 69 s = w ∧ mI E' 70 s = v ∧ mI E' 72 s = Int32.ofNat (base + c) ∧ mI E' 73 s = Int32.ofNat (base + c') ∧ (0 ≤ w ∧ w ≤ 10) ∧ (0 ≤ v ∧ v ≤ 99999) ∧ (w = 3 ∨ w = 4 ∨ w = 8 → 1 ≤ v) ∧ (∀ j, j < c → mI D1 24 j = mI B 24 j) ∧ ((c = c' ∧ mI E' 71 s = -1) ∨ (c < c' ∧ ∃ g, mI E' 71 s = Int32.ofNat g ∧ g < 2147483648 ∧ PX base D1 E' c c' [] [g])) ∧ mI E' 39 55 = mI E 39 55) := by
  have sr := h.2.1.1
  have sc := h.1.sc b
  have S0 : (0 : Int32) ≤ Int32.ofNat s := of_nn _ (by omega)
  have S1 : ix (Int32.ofNat s) = s := ix_of _ (by omega)
  have Sl : ix (Int32.ofNat s) < 200 := by omega
  have h0 : Iv f N T B base B (sI (sI (sI E 71 s (-1)) 70 s 0) 72 s (Int32.ofNat (base + c))) i c := ((h.w ⟨by decide, by decide⟩).w ⟨by decide, by decide⟩).w ⟨by decide, by decide⟩
  have fr0 : ∀ nb, Frm s nb E (sI (sI (sI E 71 s (-1)) 70 s 0) 72 s (Int32.ofNat (base + c))) := fun nb => ((Frm.rf.w ⟨by decide, by decide⟩).w ⟨by decide, by decide⟩).w ⟨by decide, by decide⟩
  have z71 : mI (sI (sI (sI E 71 s (-1)) 70 s 0) 72 s (Int32.ofNat (base + c))) 71 s = -1 := by rw [row_n (by decide), row_n (by decide), mI_sI, if_pos ⟨rfl, rfl⟩]
  have z72 : mI (sI (sI (sI E 71 s (-1)) 70 s 0) 72 s (Int32.ofNat (base + c))) 72 s = Int32.ofNat (base + c) := by rw [mI_sI, if_pos ⟨rfl, rfl⟩]
  have z52 : mI (sI (sI E 71 s (-1)) 70 s 0) 39 52 = Int32.ofNat (base + c) := h.2.2.2.1
  have w := ev_isW h0.2.1 (k := 20) (by decide) (w := 249) rfl
  have c9 : ¬ (24 : Int32) ≤ Int32.ofNat st := fun q => by have := (of_le 24 st (by decide) (by omega)).mp q; omega
  have lt4 : Int32.ofNat st < 24 := (of_lt st 24 (by omega) (by decide)).mpr hst
  have tk := ev_take h.1 b (k := 20) (by decide)
  have J48 : ∀ M : Mm, SR M → mI M 39 65 = 0 → Mod_statement_J48 39 (Int32.ofNat s) M = (if mI (sI M 73 s (mI M 39 52)) 39 59 = 1 then bd (Mod_wordOf (sI M 73 s (mI M 39 52)) 39 (mL (sI M 73 s (mI M 39 52)) 39 64)) (fun r M => Mod_statement_J91 39 (Int32.ofNat s) r (Int32.ofNat s) 69 M) else Mod_statement_J91 39 (Int32.ofNat s) (-1) (Int32.ofNat s) 69 (sI M 73 s (mI M 39 52))) := fun M srM h65 => by
    have e65 : mI (sI M 73 s (mI M 39 52)) 39 65 = 0 := h65
    unfold Mod_statement_J48
    simp only [kO_t srM.k39, ck_t, srM.r39_45, nn_s, kA_t srM.k73 S0 Sl, S1, e65, if_true, mR_sI, srM.r39_41]
  have MS : Mod_statement E 39 (Int32.ofNat s) = (if KK f N T i = Int32.ofNat 20 then bd (Mod_next (sI (sI (sI E 71 s (-1)) 70 s 0) 72 s (Int32.ofNat (base + c))) 39) (fun _ M77 => ck (kO M77 39 12 107) (nn (mR M77 39 43) (fun b79 => bd (Mod_condition M77 39) (fun r80 M81 => ck (kA M81 b79 20 (Int32.ofNat s)) (Mod_statement_J48 39 (Int32.ofNat s) (sI M81 b79 (ix (Int32.ofNat s)) r80)))))) else Mod_statement_J48 39 (Int32.ofNat s) (sI (sI (sI E 71 s (-1)) 70 s 0) 72 s (Int32.ofNat (base + c)))) := by
    unfold Mod_statement
    simp only [kO_t sr.k39, ck_t, sr.r39_43, nn_s, kA_t sr.k71 S0 Sl, S1, mR_sI, sr.r39_42, kA_sI, kA_t sr.k70 S0 Sl, sr.r39_44, kA_t sr.k72 S0 Sl, z52, w, bd_s, kO_sI]
    by_cases q : KK f N T i = Int32.ofNat 20
    · simp only [if_pos q, if_neg (show ¬ (1 : Int32) = 0 by decide)]
    · simp only [if_neg q, if_true]
  by_cases c1 : KK f N T i = Int32.ofNat 20
  · obtain ⟨hi, hP⟩ := KK_w b.1 (k := 20) (by decide) c1
    rw [if_pos c1] at MS
    have c1' : KK f N T i = 20 := c1
    rw [if_pos c1', if_pos c1'] at tk
    obtain ⟨E1, x1, r1, h1⟩ := h0.nx b hi
    have sr1 := h1.2.1.1
    have cls : Scribe_readStatement B 20 = bd (Scribe_tC (sI B 20 10 (Int32.ofNat (i + 1))) 20 0) (fun r25 M26 => if r25 = 0 then some (0, M26) else Scribe_readStatement_J30 20 M26) := by
      have k1 : kO (sI B 20 10 (Int32.ofNat (i + 1))) 20 8 11 = true := kO_t sc.k20
      unfold Scribe_readStatement
      simp only [kO_t sc.k20, ck_t, h4, if_pos lt4, tk, bd_s, if_neg (show ¬ (1 : Int32) = 0 by decide), k1]
    rcases cond_sim b hb h1.inv with ⟨D2, E2, i2, r, p1, p2, p3, p4⟩ | ⟨D2, E2, i2, c2, g, p1, p2, p3, p4, p5, p6, p7, p8⟩
    · have fr2 : Frm s (base + c) E (sI (sI E2 71 s r) 73 s (mI (sI E2 71 s r) 39 52)) := ((((fr0 _).tr (Frm.rx r1)).tr (Frm.est p3.2.2.1 p3.2.2.2.2.2)).w ⟨by decide, by decide⟩).w ⟨by decide, by decide⟩
      refine Or.inl ⟨D2, sI (sI E2 71 s r) 73 s (mI (sI E2 71 s r) 39 52), i2, ?_, ?_, by have := p3.1; omega, p3.2.1, fr2, ?_, ?_⟩
      · rw [cls, p1, bd_s, if_pos rfl]
      · have e65 : ¬ mI (sI (sI E2 71 s r) 73 s (mI (sI E2 71 s r) 39 52)) 39 65 = 0 := by
          rw [row_n (by decide), row_n (by decide), p3.2.2.2.1]; decide
        rw [MS, x1, bd_s]
        unfold Mod_statement_J48
        simp only [kO_t sr1.k39, ck_t, sr1.r39_43, nn_s, p2, bd_s, kA_t p4.k71 S0 Sl, S1, kO_sI, kO_t p4.k39, mR_sI, p4.r39_45, kA_sI, kA_t p4.k73 S0 Sl, if_neg e65]
      · rw [row_n (by decide), row_n (by decide)]; exact p3.2.2.2.1
      · rw [row_n (by decide), row_n (by decide)]; exact p3.2.2.2.2.1
    · have sr2 := p3.2.1.1
      have h2 : Iv f N T B base D2 (sI (sI E2 71 s (Int32.ofNat g)) 73 s (mI (sI E2 71 s (Int32.ofNat g)) 39 52)) i2 c2 := ((p3.iv.w ⟨by decide, by decide⟩).w ⟨by decide, by decide⟩)
      have e52 : mI (sI E2 71 s (Int32.ofNat g)) 39 52 = Int32.ofNat (base + c2) := p3.2.2.2.2.1
      have c250 := p3.c250 b
      have rf2 : Mod_statement E 39 (Int32.ofNat s) = (if mI (sI (sI E2 71 s (Int32.ofNat g)) 73 s (mI (sI E2 71 s (Int32.ofNat g)) 39 52)) 39 59 = 1 then bd (Mod_wordOf (sI (sI E2 71 s (Int32.ofNat g)) 73 s (mI (sI E2 71 s (Int32.ofNat g)) 39 52)) 39 (mL (sI (sI E2 71 s (Int32.ofNat g)) 73 s (mI (sI E2 71 s (Int32.ofNat g)) 39 52)) 39 64)) (fun r M => Mod_statement_J91 39 (Int32.ofNat s) r (Int32.ofNat s) 69 M) else Mod_statement_J91 39 (Int32.ofNat s) (-1) (Int32.ofNat s) 69 (sI (sI E2 71 s (Int32.ofNat g)) 73 s (mI (sI E2 71 s (Int32.ofNat g)) 39 52))) := by
        rw [MS, x1, bd_s]
        simp only [kO_t sr1.k39, ck_t, sr1.r39_43, nn_s, p2, bd_s, kA_t sr2.k71 S0 Sl, S1]
        exact J48 _ sr2 p3.2.2.2.1
      have est2 := p3.2.2.1
      have nd2 : ∀ a, 74 ≤ a → a ≤ 77 → ∀ j, j < base + c → mI E2 a j = mI E1 a j := p6.2.1
      have fr2 : Frm s (base + c) E (sI (sI E2 71 s (Int32.ofNat g)) 73 s (mI (sI E2 71 s (Int32.ofNat g)) 39 52)) := ((((fr0 _).tr (Frm.rx r1)).tr (Frm.est est2 nd2)).w ⟨by decide, by decide⟩).w ⟨by decide, by decide⟩
      rw [rf2, cls, p1, bd_s, if_neg (by decide)]
      rcases tail_sim (nb := base + c2) b hst hs h4 h2 with ⟨D3, E3, i3, q1, q2, q3⟩ | ⟨D3, E3, w, v, i3, q1, q2, q3⟩
      · exact Or.inl ⟨D3, E3, i3, q1, q2, (q3.nb (by omega)).mn (by omega) fr2⟩
      · obtain ⟨g1, g2, g3, g4, g5, g6, g7, g8, g9, g10, g11⟩ := q3
        refine Or.inr ⟨D3, E3, w, v, i3, c2, q1, q2, g1, by omega, by omega, fr2.tr (g3.mn (by omega)), g4, g5, ?_, ?_, g7, g8, g9, fun j hj => ?_, Or.inr ⟨p4, g, ?_, by omega, ?_⟩, by rw [g11, row_n (by decide), row_n (by decide), p6.2.2.2, r1.2.2.2.1 55 (by unfold S5; omega), row_n (by decide), row_n (by decide), row_n (by decide)]⟩
        · rw [g6 72 (by decide) (by decide), row_n (by decide), row_n (by decide), est2.2.2.1 72 (by decide) (by decide) (by decide), (r1.2.2.1 72 (by decide)).1]; exact z72
        · rw [g6 73 (by decide) (by decide), mI_sI, if_pos ⟨rfl, rfl⟩, e52]
        · rw [g10, p6.1 j hj, row_n (by decide)]
        · rw [g6 71 (by decide) (by decide), row_n (by decide), mI_sI, if_pos ⟨rfl, rfl⟩]
        · exact p7.cg (fun j q => by rw [g10]) (fun a q1 q2 j q => by rw [g3.2.2.2.2.2.2.2 a q1 q2 j q, row_n (by omega), row_n (by omega)])
  · rw [if_neg c1, J48 _ h0.2.1.1 h0.2.2.1] at MS
    have c1' : ¬ KK f N T i = 20 := c1
    rw [if_neg c1', if_neg c1'] at tk
    have cls : Scribe_readStatement B 20 = Scribe_readStatement_J30 20 B := by
      unfold Scribe_readStatement
      simp only [kO_t sc.k20, ck_t, h4, if_pos lt4, tk, bd_s, if_true]
    have e52 : mI (sI (sI (sI E 71 s (-1)) 70 s 0) 72 s (Int32.ofNat (base + c))) 39 52 = Int32.ofNat (base + c) := h.2.2.2.1
    have h2 : Iv f N T B base B (sI (sI (sI (sI E 71 s (-1)) 70 s 0) 72 s (Int32.ofNat (base + c))) 73 s (mI (sI (sI (sI E 71 s (-1)) 70 s 0) 72 s (Int32.ofNat (base + c))) 39 52)) i c := h0.w ⟨by decide, by decide⟩
    rw [MS, cls]
    rcases tail_sim (nb := base + c) b hst hs h4 h2 with ⟨D3, E3, i3, q1, q2, q3⟩ | ⟨D3, E3, w, v, i3, q1, q2, q3⟩
    · exact Or.inl ⟨D3, E3, i3, q1, q2, q3.mn (Nat.le_refl _) ((fr0 _).w ⟨by decide, by decide⟩)⟩
    · obtain ⟨g1, g2, g3, g4, g5, g6, g7, g8, g9, g10, g11⟩ := q3
      refine Or.inr ⟨D3, E3, w, v, i3, c, q1, q2, g1, by omega, Nat.le_refl _, ((fr0 _).w ⟨by decide, by decide⟩).tr g3, g4, g5, ?_, ?_, g7, g8, g9, fun j hj => by rw [g10], Or.inl ⟨rfl, ?_⟩, by rw [g11, row_n (by decide), row_n (by decide), row_n (by decide), row_n (by decide)]⟩
      · rw [g6 72 (by decide) (by decide), row_n (by decide)]; exact z72
      · rw [g6 73 (by decide) (by decide), mI_sI, if_pos ⟨rfl, rfl⟩, e52]
      · rw [g6 71 (by decide) (by decide), row_n (by decide)]; exact z71
end ZW
