/-! a statement: both readers -/
section ZV
variable {B G D E D' E' D1 E1 : Mm} {f : Nat → Int32} {N T base : Nat}
/-- the class's memory behind a statement -/
def stC (D : Mm) (st : Nat) (w v : Int32) (c : Nat) : Mm := sI (sI (sI (sI D 21 st w) 22 st v) 23 st (Int32.ofNat c)) 20 4 (Int32.ofNat (st + 1))
/-- what the class does behind a statement's value -/
def kvC (r5 r8 : Int32) (M9 : Mm) : Option (Int32 × Mm) :=
  if r8 = (-1) then (
    some (0, M9))
  else (
    ck (kO M9 20 8 11) (
    bd (Scribe_take M9 20 27) (fun r11 M12 =>
    if r11 = 0 then (
      some (0, M12))
    else (
      ck (kO M12 20 8 11) (
      nn (mR M12 20 0) (fun b14 =>
      ck (kA M12 b14 20 (mI M12 20 4)) (
      let M16 := sI M12 b14 (ix (mI M12 20 4)) r5
      nn (mR M16 20 1) (fun b17 =>
      ck (kA M16 b17 20 (mI M16 20 4)) (
      let M19 := sI M16 b17 (ix (mI M16 20 4)) r8
      nn (mR M19 20 2) (fun b20 =>
      ck (kA M19 b20 20 (mI M19 20 4)) (
      let M22 := sI M19 b20 (ix (mI M19 20 4)) (mI M19 20 5)
      let M23 := sI M22 20 4 ((mI M22 20 4) + 1)
      some (1, M23))))))))))))
theorem J30_kv (M : Mm) : Scribe_readStatement_J30 20 M = ck (kO M 20 8 11) (bd (Scribe_takeOf M 20 0 10) (fun r5 M6 => if r5 = (-1) then some (0, M6) else ck (kO M6 20 8 11) (bd (Scribe_readValue M6 20 r5) (fun r8 M9 => kvC r5 r8 M9)))) := rfl
def Good (f : Nat → Int32) (N T : Nat) (B : Mm) (base s nb i c : Nat) (E D1 E' : Mm) (w v : Int32) (i' : Nat) (D0 : Mm) : Prop := Iv f N T B base D1 E' i' c ∧ i < i' ∧ Frm s nb E E' ∧ mI E' 69 s = w ∧ mI E' 70 s = v ∧ (∀ a, 71 ≤ a → a ≤ 73 → mI E' a s = mI E a s) ∧ (0 ≤ w ∧ w ≤ 10) ∧ (0 ≤ v ∧ v ≤ 99999) ∧ (w = 3 ∨ w = 4 ∨ w = 8 → 1 ≤ v) ∧ mI D1 24 = mI D0 24 ∧ mI E' 39 55 = mI E 39 55
/-- behind the value -/
theorem val_sim (b : Bas f N T B) {st s nb i i0 c : Nat} (hst : st < 24) (h4 : mI B 20 4 = Int32.ofNat st) {E0 D0 : Mm} {w v : Int32} (h : Iv f N T B base D E i c) (e24 : mI D 24 = mI D0 24) (e55 : mI E 39 55 = mI E0 39 55) (hi : i0 < i) (fr : Frm s nb E0 E) (e69 : mI E 69 s = w) (e70 : mI E 70 s = v) (er : ∀ a, 71 ≤ a → a ≤ 73 → mI E a s = mI E0 a s) (hw : 0 ≤ w ∧ w ≤ 10) (hv : 0 ≤ v ∧ v ≤ 99999) (hq : w = 3 ∨ w = 4 ∨ w = 8 → 1 ≤ v) : (∃ D' E' i', kvC w v D = some (0, D') ∧ Mod_statement_J243 39 E = some ((), E') ∧ Bad f N T B s nb i0 c E0 D' E' i') ∨ (∃ D1 E' i', kvC w v D = some (1, stC D1 st w v c) ∧ Mod_statement_J243 39 E = some ((), E') ∧ Good f N T B base s nb i0 c E0 D1 E' w v i' D0) := by
  have sc := h.1.sc b
  have nv : ¬ v = -1 := fun q => by rw [q] at hv; exact absurd hv.1 (by decide)
  rcases semi_sim (s := s) (nb := nb) b h with ⟨D', E', p1, p2, p3⟩ | ⟨E', p1, p2, p3, p4⟩
  · refine Or.inl ⟨D', E', i, ?_, p2, p3.mn (by omega) fr⟩
    unfold kvC
    simp only [if_neg nv, kO_t sc.k20, ck_t, p1, bd_s, if_true]
  · have sc1 := p4.1.sc b
    have S0 : (0 : Int32) ≤ Int32.ofNat st := of_nn _ (by omega)
    have S1 : ix (Int32.ofNat st) = st := ix_of _ (by omega)
    have Sl : ix (Int32.ofNat st) < 24 := by omega
    generalize hD1 : sI D 20 10 (Int32.ofNat (i + 1)) = D1 at *
    have i4 : mI D1 20 4 = Int32.ofNat st := by rw [p4.1.2.2.1 4 (by decide) (by decide)]; exact h4
    have j1 : mI (sI D1 21 st w) 20 4 = Int32.ofNat st := i4
    have j2 : mI (sI (sI D1 21 st w) 22 st v) 20 4 = Int32.ofNat st := i4
    have j3 : mI (sI (sI (sI D1 21 st w) 22 st v) 23 st (Int32.ofNat c)) 20 4 = Int32.ofNat st := i4
    have j5 : mI (sI (sI D1 21 st w) 22 st v) 20 5 = Int32.ofNat c := p4.1.2.2.2.2.1
    refine Or.inr ⟨D1, E', i + 1, ?_, p2, p4, by omega, fr.tr (Frm.rx p3), ?_, ?_, fun a q1 q2 => ?_, hw, hv, hq, by rw [← hD1, row_n (by decide)]; exact e24, by rw [p3.2.2.2.1 55 (by unfold S5; omega)]; exact e55⟩
    · unfold kvC
      simp only [if_neg nv, kO_t sc.k20, ck_t, p1, bd_s, if_neg (show ¬ (1 : Int32) = 0 by decide), kO_t sc1.k20, sc1.r20_0, nn_s, i4, kA_t sc1.k21 S0 Sl, S1, mR_sI, sc1.r20_1, kA_sI, j1, kA_t sc1.k22 S0 Sl, sc1.r20_2, j2, kA_t sc1.k23 S0 Sl, j5, j3, of_s1 st (by omega)]
      rfl
    · rw [(p3.2.2.1 69 (by decide)).1]; exact e69
    · rw [(p3.2.2.1 70 (by decide)).1]; exact e70
    · rw [(p3.2.2.1 a (by omega)).1]; exact er a q1 q2
theorem tail_sim (b : Bas f N T B) {st s nb i c : Nat} (hst : st < 24) (hs : s < 200) (h4 : mI B 20 4 = Int32.ofNat st) (h : Iv f N T B base D E i c) : (∃ D' E' i', Scribe_readStatement_J30 20 D = some (0, D') ∧ (if mI E 39 59 = 1 then bd (Mod_wordOf E 39 (mL E 39 64)) (fun r M => Mod_statement_J91 39 (Int32.ofNat s) r (Int32.ofNat s) 69 M) else Mod_statement_J91 39 (Int32.ofNat s) (-1) (Int32.ofNat s) 69 E) = some ((), E') ∧ Bad f N T B s nb i c E D' E' i') ∨ (∃ D1 E' w v i', Scribe_readStatement_J30 20 D = some (1, stC D1 st w v c) ∧ (if mI E 39 59 = 1 then bd (Mod_wordOf E 39 (mL E 39 64)) (fun r M => Mod_statement_J91 39 (Int32.ofNat s) r (Int32.ofNat s) 69 M) else Mod_statement_J91 39 (Int32.ofNat s) (-1) (Int32.ofNat s) 69 E) = some ((), E') ∧ Good f N T B base s nb i c E D1 E' w v i' D) := by
  obtain ⟨s0, n1, n2⟩ := ev_wordR h.2.1
  rw [n1 (fun r M => Mod_statement_J91 39 (Int32.ofNat s) r (Int32.ofNat s) 69 M)]
  have sr := h.2.1.1
  have sc := h.1.sc b
  have t0 := ev_takeOf h.1 b (lo := 0) (hi := 10) (by decide)
  have S0 : (0 : Int32) ≤ Int32.ofNat s := of_nn _ (by omega)
  have S1 : ix (Int32.ofNat s) = s := ix_of _ (by omega)
  have Sl : ix (Int32.ofNat s) < 200 := by omega
  by_cases c0 : 0 ≤ KK f N T i ∧ KK f N T i ≤ 10
  · rw [if_pos c0] at n2
    rw [if_pos c0, if_pos c0] at t0
    have es : KK f N T i - 0 = KK f N T i := by clear h n1 t0; grind
    rw [es] at t0
    obtain ⟨k0, e0, l0⟩ : ∃ k0 : Nat, KK f N T i = Int32.ofNat k0 ∧ k0 ≤ 10 := by
      refine ⟨ix (KK f N T i), (of_ix _ c0.1).symm, ?_⟩
      have q := c0.2
      rw [(of_ix _ c0.1).symm] at q
      exact (of_le _ 10 (by have := ix_big (KK f N T i); omega) (by decide)).mp q
    rw [e0] at n2 t0 c0
    obtain ⟨hi, hP⟩ := KK_w b.1 (show k0 < 24 by omega) e0
    have h19 : Iv f N T B base D (sI E 69 s (Int32.ofNat k0)) i c := h.w ⟨by decide, by decide⟩
    obtain ⟨E1, x1, r1, h1⟩ := h19.nx b hi
    have sr1 := h1.2.1.1
    have sc1 := h1.1.sc b
    have nm1 : ¬ Int32.ofNat k0 = -1 := fun q => of_n1 (show k0 < 2147483648 by omega) q.symm
    have cls : Scribe_readStatement_J30 20 D = bd (Scribe_readValue (sI D 20 10 (Int32.ofNat (i + 1))) 20 (Int32.ofNat k0)) (fun r8 M9 => kvC (Int32.ofNat k0) r8 M9) := by
      rw [J30_kv]
      simp only [kO_t sc.k20, ck_t, t0, bd_s, if_neg nm1, kO_t sc1.k20]
    have g69 : mI (sI E 69 s (Int32.ofNat k0)) 69 s = Int32.ofNat k0 := by rw [mI_sI, if_pos ⟨rfl, rfl⟩]
    have m69 : mI E1 69 s = Int32.ofNat k0 := by rw [(r1.2.2.1 69 (by decide)).1]; exact g69
    have er1 : ∀ a, 71 ≤ a → a ≤ 73 → mI E1 a s = mI E a s := fun a q1 q2 => by rw [(r1.2.2.1 a (by omega)).1, row_n (by omega)]
    have fr1 : Frm s nb E E1 := (Frm.rf.w ⟨by decide, by decide⟩).tr (Frm.rx r1)
    have f55 : mI E1 39 55 = mI E 39 55 := by rw [r1.2.2.2.1 55 (by unfold S5; omega), row_n (by decide)]
    have d24 : mI (sI D 20 10 (Int32.ofNat (i + 1))) 24 = mI D 24 := row_n (by decide)
    generalize hD1 : sI D 20 10 (Int32.ofNat (i + 1)) = D1 at *
    have rfs : Mod_statement_J91 39 (Int32.ofNat s) s0 (Int32.ofNat s) 69 E = (if 9 ≤ k0 then (if k0 = 9 then bd (Mod_isWord E1 39 123002136) (fun r43 M44 => if r43 = 0 then Mod_statement_J201 39 0 (Int32.ofNat s) 70 M44 else Mod_statement_J201 39 1 (Int32.ofNat s) 70 M44) else Mod_statement_J243 39 (sI E1 70 s 1)) else Mod_statement_J163 39 (if k0 = 3 ∨ k0 = 4 ∨ k0 = 8 then 1 else 0) 39 (Int32.ofNat s) 70 E1) := by
      unfold Mod_statement_J91 Mod_statement_J158
      simp only [n2, kA_t sr.k69 S0 Sl, ck_t, S1, kO_sI, kO_t sr.k39, mR_sI, sr.r39_41, nn_s, kA_sI, g69, if_pos (of_nn k0 (show k0 < 2147483648 by omega)), x1, bd_s, kO_t sr1.k39, sr1.r39_41, kA_t sr1.k69 S0 Sl, m69, sr1.r39_42, kA_t sr1.k70 S0 Sl]
      by_cases q9 : 9 ≤ k0
      · rw [if_pos q9, if_pos (show (9 : Int32) ≤ Int32.ofNat k0 from (of_le 9 k0 (by decide) (by omega)).mpr q9)]
        by_cases q : k0 = 9
        · rw [if_pos q, if_pos (show Int32.ofNat k0 = 9 by rw [q]; rfl)]
        · rw [if_neg q, if_neg (show ¬ Int32.ofNat k0 = 9 from of_ne (b := 9) (by omega) (by decide) q)]
      · rw [if_neg q9, if_neg (show ¬ (9 : Int32) ≤ Int32.ofNat k0 from fun w => q9 ((of_le 9 k0 (by decide) (by omega)).mp w))]
        by_cases q3 : k0 = 3
        · rw [if_pos (Or.inl q3), if_pos (show Int32.ofNat k0 = 3 by rw [q3]; rfl)]
        · rw [if_neg (show ¬ Int32.ofNat k0 = 3 from of_ne (b := 3) (by omega) (by decide) q3)]
          by_cases q4 : k0 = 4
          · rw [if_pos (Or.inr (Or.inl q4)), if_pos (show Int32.ofNat k0 = 4 by rw [q4]; rfl)]
          · rw [if_neg (show ¬ Int32.ofNat k0 = 4 from of_ne (b := 4) (by omega) (by decide) q4)]
            by_cases q8 : k0 = 8
            · rw [if_pos (Or.inr (Or.inr q8)), if_pos (show Int32.ofNat k0 = 8 by rw [q8]; rfl)]
            · rw [if_neg (show ¬ Int32.ofNat k0 = 8 from of_ne (b := 8) (by omega) (by decide) q8), if_neg (by omega)]
    have rv : Scribe_readValue D1 20 (Int32.ofNat k0) = (if k0 = 10 then some (1, D1) else if k0 = 9 then Scribe_takeOf D1 20 18 19 else Scribe_takeNumber D1 20 (if k0 = 3 ∨ k0 = 4 ∨ k0 = 8 then 1 else 0)) := by
      have bdid : ∀ o : Option (Int32 × Mm), bd o (fun r M => some (r, M)) = o := fun o => by cases o <;> rfl
      unfold Scribe_readValue Scribe_readValue_J40 Scribe_readValue_J45
      simp only [kO_t sc1.k20, ck_t, bdid]
      by_cases q10 : k0 = 10
      · rw [if_pos q10, if_pos (show Int32.ofNat k0 = 10 by rw [q10]; rfl)]
      · rw [if_neg q10, if_neg (show ¬ Int32.ofNat k0 = 10 from of_ne (b := 10) (by omega) (by decide) q10)]
        by_cases q : k0 = 9
        · rw [if_pos q, if_pos (show Int32.ofNat k0 = 9 by rw [q]; rfl)]
        · rw [if_neg q, if_neg (show ¬ Int32.ofNat k0 = 9 from of_ne (b := 9) (by omega) (by decide) q)]
          by_cases q3 : k0 = 3
          · rw [if_pos (Or.inl q3), if_pos (show Int32.ofNat k0 = 3 by rw [q3]; rfl)]
          · rw [if_neg (show ¬ Int32.ofNat k0 = 3 from of_ne (b := 3) (by omega) (by decide) q3)]
            by_cases q4 : k0 = 4
            · rw [if_pos (Or.inr (Or.inl q4)), if_pos (show Int32.ofNat k0 = 4 by rw [q4]; rfl)]
            · rw [if_neg (show ¬ Int32.ofNat k0 = 4 from of_ne (b := 4) (by omega) (by decide) q4)]
              by_cases q8 : k0 = 8
              · rw [if_pos (Or.inr (Or.inr q8)), if_pos (show Int32.ofNat k0 = 8 by rw [q8]; rfl)]
              · rw [if_neg (show ¬ Int32.ofNat k0 = 8 from of_ne (b := 8) (by omega) (by decide) q8), if_neg (by omega)]
    have w3 : ∀ x : Nat, x < 100 → Int32.ofNat k0 = Int32.ofNat x → k0 = x := fun x hx q => (of_eq k0 x (by omega) (by omega)).mp q
    rw [cls, rv]
    show (∃ D' E' i', _ ∧ Mod_statement_J91 39 (Int32.ofNat s) s0 (Int32.ofNat s) 69 E = some ((), E') ∧ _) ∨ (∃ D1 E' w v i', _ ∧ Mod_statement_J91 39 (Int32.ofNat s) s0 (Int32.ofNat s) 69 E = some ((), E') ∧ _)
    rw [rfs]
    have mg : ∀ (X : Option (Unit × Mm)) (v : Int32) (DD : Mm) (x : (∃ D' E' i', kvC (Int32.ofNat k0) v DD = some (0, D') ∧ X = some ((), E') ∧ Bad f N T B s nb i c E D' E' i') ∨ (∃ D1 E' i', kvC (Int32.ofNat k0) v DD = some (1, stC D1 st (Int32.ofNat k0) v c) ∧ X = some ((), E') ∧ Good f N T B base s nb i c E D1 E' (Int32.ofNat k0) v i' D)), (∃ D' E' i', kvC (Int32.ofNat k0) v DD = some (0, D') ∧ X = some ((), E') ∧ Bad f N T B s nb i c E D' E' i') ∨ (∃ D1 E' w v' i', kvC (Int32.ofNat k0) v DD = some (1, stC D1 st w v' c) ∧ X = some ((), E') ∧ Good f N T B base s nb i c E D1 E' w v' i' D) := fun X v DD x => by
      rcases x with x | ⟨D2, E2, i2, y⟩
      · exact Or.inl x
      · exact Or.inr ⟨D2, E2, _, _, i2, y⟩
    by_cases q10 : k0 = 10
    · rw [if_pos q10, if_pos (show 9 ≤ k0 by omega), if_neg (show ¬ k0 = 9 by omega), bd_s]
      exact mg _ _ _ (val_sim b hst h4 (h1.w (a := 70) (j := s) (v := 1) ⟨by decide, by decide⟩) d24 (by rw [row_n (by decide)]; exact f55) (by omega) (fr1.w ⟨by decide, by decide⟩) (by rw [row_n (by decide)]; exact m69) (by rw [mI_sI, if_pos ⟨rfl, rfl⟩]) (fun a q1 q2 => by rw [row_n (by omega)]; exact er1 a q1 q2) c0 ⟨by decide, by decide⟩ (fun _ => by decide))
    · rw [if_neg q10]
      by_cases q9 : k0 = 9
      · rw [if_pos q9, if_pos (show 9 ≤ k0 by omega), if_pos q9]
        have t1 := ev_takeOf h1.1 b (lo := 18) (hi := 19) (by decide)
        have wh := ev_isW h1.2.1 (k := 19) (by decide) (w := 123002136) rfl
        rw [wh, bd_s]
        have nq : ¬ (Int32.ofNat k0 = 3 ∨ Int32.ofNat k0 = 4 ∨ Int32.ofNat k0 = 8) := fun w => by
          rcases w with w | w | w
          · have := w3 3 (by decide) w; omega
          · have := w3 4 (by decide) w; omega
          · have := w3 8 (by decide) w; omega
        have go : ∀ vn : Nat, vn ≤ 1 → KK f N T (i + 1) = Int32.ofNat (18 + vn) → ∃ E2, Mod_next (sI E1 70 s (Int32.ofNat vn)) 39 = some ((), E2) ∧ Rx S5 (sI E1 70 s (Int32.ofNat vn)) E2 ∧ Iv f N T B base (sI D1 20 10 (Int32.ofNat (i + 1 + 1))) E2 (i + 1 + 1) c := fun vn hv e => (h1.w (a := 70) (j := s) (v := Int32.ofNat vn) ⟨by decide, by decide⟩).nx b (KK_w b.1 (show 18 + vn < 24 by omega) e).1
        have fin : ∀ vn : Nat, vn ≤ 1 → ∀ E2, Rx S5 (sI E1 70 s (Int32.ofNat vn)) E2 → Iv f N T B base (sI D1 20 10 (Int32.ofNat (i + 1 + 1))) E2 (i + 1 + 1) c → (∃ D' E' i', kvC (Int32.ofNat k0) (Int32.ofNat vn) (sI D1 20 10 (Int32.ofNat (i + 1 + 1))) = some (0, D') ∧ Mod_statement_J243 39 E2 = some ((), E') ∧ Bad f N T B s nb i c E D' E' i') ∨ (∃ D1' E' w v' i', kvC (Int32.ofNat k0) (Int32.ofNat vn) (sI D1 20 10 (Int32.ofNat (i + 1 + 1))) = some (1, stC D1' st w v' c) ∧ Mod_statement_J243 39 E2 = some ((), E') ∧ Good f N T B base s nb i c E D1' E' w v' i' D) := fun vn hv E2 r2 h2 => mg _ _ _ (val_sim b hst h4 h2 (by rw [row_n (by decide)]; exact d24) (by rw [r2.2.2.2.1 55 (by unfold S5; omega), row_n (by decide)]; exact f55) (by omega) ((fr1.w ⟨by decide, by decide⟩).tr (Frm.rx r2)) (by rw [(r2.2.2.1 69 (by decide)).1, row_n (by decide)]; exact m69) (by rw [(r2.2.2.1 70 (by decide)).1, mI_sI, if_pos ⟨rfl, rfl⟩]) (fun a q1 q2 => by rw [(r2.2.2.1 a (by omega)).1, row_n (by omega)]; exact er1 a q1 q2) c0 ⟨of_nn _ (by omega), (of_le vn 99999 (by omega) (by decide)).mpr (by omega)⟩ (fun w => absurd w nq))
        by_cases k19 : KK f N T (i + 1) = Int32.ofNat 19
        · obtain ⟨E2, x2, r2, h2⟩ := go 1 (by decide) k19
          rw [if_pos ⟨by rw [k19]; decide, by rw [k19]; decide⟩, if_pos ⟨by rw [k19]; decide, by rw [k19]; decide⟩, k19, show Int32.ofNat 19 - 18 = Int32.ofNat 1 by decide] at t1
          rw [t1, bd_s]
          have wh2 := ev_isW (h1.w (a := 70) (j := s) (v := 1) ⟨by decide, by decide⟩).2.1 (k := 19) (by decide) (w := 123002136) rfl
          rw [if_pos k19] at wh2
          have e : (if (if KK f N T (i + 1) = Int32.ofNat 19 then (1 : Int32) else 0) = 0 then Mod_statement_J201 39 0 (Int32.ofNat s) 70 E1 else Mod_statement_J201 39 1 (Int32.ofNat s) 70 E1) = Mod_statement_J243 39 E2 := by
            have x2 : Mod_next (sI E1 70 s 1) 39 = some ((), E2) := x2
            rw [if_pos k19, if_neg (by decide)]
            unfold Mod_statement_J201 Mod_statement_J222
            simp only [kA_t sr1.k70 S0 Sl, ck_t, S1, kO_sI, kO_t sr1.k39, wh2, bd_s, if_neg (show ¬ (1 : Int32) = 0 by decide), x2]
          rw [e]
          exact fin 1 (by decide) E2 r2 h2
        · by_cases k18 : KK f N T (i + 1) = Int32.ofNat 18
          · obtain ⟨E2, x2, r2, h2⟩ := go 0 (by decide) k18
            rw [if_pos ⟨by rw [k18]; decide, by rw [k18]; decide⟩, if_pos ⟨by rw [k18]; decide, by rw [k18]; decide⟩, k18, show Int32.ofNat 18 - 18 = Int32.ofNat 0 by decide] at t1
            rw [t1, bd_s]
            have hw0 := (h1.w (a := 70) (j := s) (v := 0) ⟨by decide, by decide⟩).2.1
            have wh2 := ev_isW hw0 (k := 19) (by decide) (w := 123002136) rfl
            have ws2 := ev_isW hw0 (k := 18) (by decide) (w := 10502465) rfl
            rw [if_neg k19] at wh2
            rw [if_pos k18] at ws2
            have e : (if (if KK f N T (i + 1) = Int32.ofNat 19 then (1 : Int32) else 0) = 0 then Mod_statement_J201 39 0 (Int32.ofNat s) 70 E1 else Mod_statement_J201 39 1 (Int32.ofNat s) 70 E1) = Mod_statement_J243 39 E2 := by
              have x2 : Mod_next (sI E1 70 s 0) 39 = some ((), E2) := x2
              rw [if_neg k19, if_pos rfl]
              unfold Mod_statement_J201 Mod_statement_J222
              simp only [kA_t sr1.k70 S0 Sl, ck_t, S1, kO_sI, kO_t sr1.k39, wh2, bd_s, if_true, ws2, if_neg (show ¬ (1 : Int32) = 0 by decide), x2]
            rw [e]
            exact fin 0 (by decide) E2 r2 h2
          · have no : ¬ (18 ≤ KK f N T (i + 1) ∧ KK f N T (i + 1) ≤ 19) := fun w => by
              have : KK f N T (i + 1) = 18 ∨ KK f N T (i + 1) = 19 := by clear h h1 h19 t1 t0 n1 cls rfs rv mg fin go; grind
              rcases this with u | u
              · exact k18 u
              · exact k19 u
            rw [if_neg no, if_neg no] at t1
            rw [t1, bd_s]
            have hw0 := h1.w (a := 70) (j := s) (v := 0) ⟨by decide, by decide⟩
            have wh2 := ev_isW hw0.2.1 (k := 19) (by decide) (w := 123002136) rfl
            have ws2 := ev_isW hw0.2.1 (k := 18) (by decide) (w := 10502465) rfl
            rw [if_neg k19] at wh2
            rw [if_neg k18] at ws2
            obtain ⟨fl1, fl2⟩ := hw0.bad (s := s) (nb := nb)
            refine Or.inl ⟨D1, _, i + 1, ?_, ?_, fl2.mn (by omega) (fr1.w ⟨by decide, by decide⟩)⟩
            · unfold kvC
              rw [if_pos rfl]
            · have w65 : ¬ mI (sI (sI (sI E1 70 s 0) 39 65 1) 39 55 (Int32.ofNat (PT f N (i + 1)))) 39 65 = 0 := by rw [fl2.2.2.2.1]; decide
              rw [if_neg k19, if_pos rfl]
              unfold Mod_statement_J201 Mod_statement_J243
              simp only [kA_t sr1.k70 S0 Sl, ck_t, S1, kO_sI, kO_t sr1.k39, wh2, bd_s, if_true, ws2, fl1, if_neg w65]
      · rw [if_neg q9, if_neg (show ¬ 9 ≤ k0 by omega)]
        rcases num_sim (s := s) (nb := nb) b h1 (lo := if k0 = 3 ∨ k0 = 4 ∨ k0 = 8 then 1 else 0) with ⟨p1, r, E2, p2, p3⟩ | ⟨v, E2, p1, p2, p3, p4, p5, p6, p7⟩
        · refine Or.inl ⟨D1, sI E2 70 s r, i + 1, ?_, ?_, ⟨by omega, p3.2.1, ((fr1.tr p3.2.2.1).w ⟨by decide, by decide⟩), by rw [row_n (by decide)]; exact p3.2.2.2.1, by rw [row_n (by decide)]; exact p3.2.2.2.2⟩⟩
          · rw [p1, bd_s]
            unfold kvC
            rw [if_pos rfl]
          · have w65 : ¬ mI (sI E2 70 s r) 39 65 = 0 := by rw [row_n (by decide), p3.2.2.2.1]; decide
            have sr2 : SR E2 := sr1.sm p3.2.2.1.2.1 p3.2.2.1.1
            unfold Mod_statement_J163 Mod_statement_J243
            simp only [kO_t sr1.k39, ck_t, p2, bd_s, kA_t sr2.k70 S0 Sl, S1, kO_sI, kO_t sr2.k39, if_neg w65]
        · have sr2 := p4.2.1.1
          rw [p1, bd_s]
          have e : Mod_statement_J163 39 (if k0 = 3 ∨ k0 = 4 ∨ k0 = 8 then 1 else 0) 39 (Int32.ofNat s) 70 E1 = Mod_statement_J243 39 (sI E2 70 s v) := by
            unfold Mod_statement_J163
            simp only [kO_t sr1.k39, ck_t, p2, bd_s, kA_t sr2.k70 S0 Sl, S1]
          rw [e]
          refine mg _ _ _ (val_sim b hst h4 (p4.w (a := 70) (j := s) (v := v) ⟨by decide, by decide⟩) (by rw [row_n (by decide)]; exact d24) (by rw [row_n (by decide), p3.2.2.2.1 55 (by unfold S5; omega)]; exact f55) (by omega) ((fr1.tr (Frm.rx p3)).w ⟨by decide, by decide⟩) (by rw [row_n (by decide), (p3.2.2.1 69 (by decide)).1]; exact m69) (by rw [mI_sI, if_pos ⟨rfl, rfl⟩]) (fun a q1 q2 => by rw [row_n (by omega), (p3.2.2.1 a (by omega)).1]; exact er1 a q1 q2) c0 ⟨p5, p6⟩ (fun w => ?_))
          have : k0 = 3 ∨ k0 = 4 ∨ k0 = 8 := by
            rcases w with w | w | w
            · exact Or.inl (w3 3 (by decide) w)
            · exact Or.inr (Or.inl (w3 4 (by decide) w))
            · exact Or.inr (Or.inr (w3 8 (by decide) w))
          rw [if_pos this] at p7
          exact p7
  · rw [if_neg c0] at n2
    rw [if_neg c0, if_neg c0] at t0
    have h19 : Iv f N T B base D (sI E 69 s (-1)) i c := h.w ⟨by decide, by decide⟩
    obtain ⟨fl1, fl2⟩ := h19.bad (s := s) (nb := nb)
    refine Or.inl ⟨D, _, i, ?_, ?_, fl2.mn (Nat.le_refl _) (Frm.rf.w ⟨by decide, by decide⟩)⟩
    · rw [J30_kv]
      simp only [kO_t sc.k20, ck_t, t0, bd_s, if_true]
    · have g69 : mI (sI E 69 s (-1)) 69 s = -1 := by rw [mI_sI, if_pos ⟨rfl, rfl⟩]
      show Mod_statement_J91 39 (Int32.ofNat s) s0 (Int32.ofNat s) 69 E = _
      unfold Mod_statement_J91
      simp only [n2, kA_t sr.k69 S0 Sl, ck_t, S1, kO_sI, kO_t sr.k39, mR_sI, sr.r39_41, nn_s, kA_sI, g69, if_neg (show ¬ (0 : Int32) ≤ -1 by decide), fl1, bd_s]
end ZV
