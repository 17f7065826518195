section L5
variable {k : Nat} {ad : Nat → Nat → Nat} {C R R1 : Mm}
theorem ev_hold (h : Rel k ad C R) (hf : Fok C R) {t s : Nat} (ht : t < ix (mI R 39 37)) (hs : s < ix (mI R 67 t)) : ∃ b, (b = 0 ∨ b = 1) ∧ Edict_holds C (ad 16 t) (Int32.ofNat (ceL ad C t s)) (mI C (ad 19 t) s) 29 = some (b, C) ∧ ∃ R2, Mod_holds R 39 (Int32.ofNat (ix (mI R 66 t) + s)) = some (b, R2) ∧ ExR R R2 := by
  have hT := h.isc.texts
  obtain ⟨i1, i2, i3, i4⟩ := h.ied
  obtain ⟨t1, t2, t3, t4, -⟩ := i3 t ht
  have hst : ix (mI R 39 46) ≤ 192 := by grind [ix_t]
  have hgl : ix (mI R 66 t) + s < ix (mI R 39 46) := by omega
  obtain ⟨-, -, -, f1, f2, f3⟩ := i4 _ hgl
  obtain ⟨q1, q2, q3, q4, q5, q6, q7⟩ := h.eds t ht s hs
  have h5 := (h.she t ht).2.2.2.2.2.2.2.2.2.2
  have g0 : (0 : Int32) ≤ Int32.ofNat (ix (mI R 66 t) + s) := of_nn _ (by omega)
  have g1 : ix (Int32.ofNat (ix (mI R 66 t) + s)) = ix (mI R 66 t) + s := ix_of _ (by omega)
  have ehi : mI C (ad 19 t) s = Int32.ofNat (ix (mI C (ad 19 t) s)) := (of_ix _ q3).symm
  rw [ehi]
  unfold Edict_holds Edict_holds_J10 Mod_holds
  simp only [h.o39, ck_t, h.sr.r39_43, h.sr.r39_44, nn_s, kA_t h.sr.k71 g0 (show ix (Int32.ofNat (ix (mI R 66 t) + s)) < 200 by omega), kA_t h.sr.k72 g0 (show ix (Int32.ofNat (ix (mI R 66 t) + s)) < 200 by omega), g1]
  rcases q7 with ⟨e1, e2⟩ | ⟨e1, S, p1, p2, p3, p4⟩
  · refine ⟨1, Or.inr rfl, ?_, R, ?_, ExR.rf⟩
    · rw [e1, if_pos rfl]
      show Edict_holds_B15 _ _ _ _ _ _ _ = _
      unfold Edict_holds_B15 Edict_holds_J138
      rw [if_pos (by grind)]
      rfl
    · rw [e2, if_neg (by decide)]
  · have hto : mI R 73 (ix (mI R 66 t) + s) = Int32.ofNat (ix (mI R 72 (ix (mI R 66 t) + s)) + (ix (mI C (ad 19 t) s) - ceL ad C t s)) := by
      rw [← q6]
      exact (of_ix _ (by grind)).symm
    have hn0 : ix (mI R 72 (ix (mI R 66 t) + s)) + (ix (mI C (ad 19 t) s) - ceL ad C t s) ≤ 2000 := by
      rw [← q6]
      grind [ix_t]
    have z := lp_holds h hf ht (show ix (mI R 66 t) + s < 200 by omega) hto rfl hn0 q5 S p2 p3 p4 (ix (mI C (ad 19 t) s) - ceL ad C t s) fu fu (ceL ad C t s) 0 R (by omega) (Nat.le_refl _) (fu_g (by omega)) (fu_g (by omega)) ExR.rf (by rw [p1]; exact Nat.zero_le _) (by rw [p1]; rfl) (fun x hx => by rw [p1] at hx; cases hx)
    obtain ⟨b, R2, z1, z2, z3, z4⟩ := z
    have nz : ¬ Int32.ofNat (ceL ad C t s) = Int32.ofNat (ix (mI C (ad 19 t) s)) := by rw [of_eq _ _ (by omega) (by omega)]; omega
    refine ⟨b, z4, ?_, R2, ?_, z3⟩
    · rw [if_neg nz]; exact z1
    · rw [if_pos p4]
      rw [Nat.sub_self, Nat.add_zero, of_ix _ f1] at z2
      exact z2
/-- the last statement of a word that holds -/
def lst (wd b : Nat → Int32) (w : Int32) : Nat → Option Nat
  | 0 => none
  | n + 1 => if wd n = w then (if b n = 0 then lst wd b w n else some n) else lst wd b w n
theorem lst_lt {wd b : Nat → Int32} {w : Int32} : ∀ {n s : Nat}, lst wd b w n = some s → s < n ∧ wd s = w
  | 0, s, h => by cases h
  | n + 1, s, h => by
    have h : (if wd n = w then (if b n = 0 then lst wd b w n else some n) else lst wd b w n) = some s := h
    split at h
    · rename_i e
      split at h
      · have := lst_lt h; exact ⟨by omega, this.2⟩
      · cases h; exact ⟨by omega, e⟩
    · have := lst_lt h; exact ⟨by omega, this.2⟩
def lsI : Option Nat → Int32
  | none => -1
  | some s => Int32.ofNat s
theorem lp_last (h : Rel k ad C R) {t : Nat} (ht : t < ix (mI R 39 37)) (w : Int32) (hb : Nat → Int32) (hh : ∀ s, s < ix (mI R 67 t) → Edict_holds C (ad 16 t) (Int32.ofNat (ceL ad C t s)) (mI C (ad 19 t) s) 29 = some (hb s, C)) : ∀ (j n : Nat), j ≤ ix (mI R 67 t) → j < n → Edict_lastThatHolds_L8 n (ad 16 t) w 29 (Int32.ofNat j - 1) C = some (lsI (lst (mI C (ad 17 t)) hb w j), C) := by
  have t24 : ix (mI R 67 t) ≤ 24 := by
    have := h.ied.2.2.1 t ht
    grind [ix_t]
  obtain ⟨s1, s2, s3, s4, s5, s6, s7, s8, s9, s10, s11⟩ := h.she t ht
  intro j
  induction j with
  | zero =>
    intro n hj hn
    obtain ⟨n, rfl⟩ : ∃ x, n = x + 1 := ⟨n - 1, by omega⟩
    show Edict_lastThatHolds_B8 _ _ _ _ _ _ = _
    unfold Edict_lastThatHolds_B8
    rw [if_pos (by decide)]
    rfl
  | succ j ih =>
    intro n hj hn
    obtain ⟨n, rfl⟩ : ∃ x, n = x + 1 := ⟨n - 1, by omega⟩
    have e : Int32.ofNat (j + 1) - 1 = Int32.ofNat j := by rw [← of_s1 j (by omega)]; grind
    have e0 : (0 : Int32) ≤ Int32.ofNat j := of_nn j (by omega)
    have e1 : ix (Int32.ofNat j) = j := ix_of j (by omega)
    have x := ih n (by omega) (by omega)
    have em : Int32.ofNat j + -1 = Int32.ofNat j - 1 := by grind
    rw [e]
    show Edict_lastThatHolds_B8 _ _ _ _ _ _ = _
    unfold Edict_lastThatHolds_B8 Edict_lastThatHolds_J39 Edict_lastThatHolds_J54
    simp only [if_neg (show ¬ Int32.ofNat j < 0 by grind), kO_t s2, ck_t, s3, s5, nn_s, kA_t s7 e0 (show ix (Int32.ofNat j) < _ by omega), kA_t s9 e0 (show ix (Int32.ofNat j) < _ by omega), e1, em]
    show _ = some (lsI (if mI C (ad 17 t) j = w then (if hb j = 0 then lst (mI C (ad 17 t)) hb w j else some j) else lst (mI C (ad 17 t)) hb w j), C)
    by_cases c1 : mI C (ad 17 t) j = w
    · rw [if_pos c1, if_pos c1]
      have hj1 := hh j (by omega)
      have fin : (bd (Edict_holds C (ad 16 t) (Int32.ofNat (ceL ad C t j)) (mI C (ad 19 t) j) 29) (fun r15 M16 => if r15 = 0 then Edict_lastThatHolds_L8 n (ad 16 t) w 29 (Int32.ofNat j - 1) M16 else some (Int32.ofNat j, M16))) = some (lsI (if hb j = 0 then lst (mI C (ad 17 t)) hb w j else some j), C) := by
        rw [hj1, bd_s]
        by_cases c2 : hb j = 0
        · rw [if_pos c2, if_pos c2]; exact x
        · rw [if_neg c2, if_neg c2]; rfl
      by_cases c3 : Int32.ofNat j = 0
      · rw [if_pos c3]
        have j0 : j = 0 := by
          have : Int32.ofNat j = Int32.ofNat 0 := c3
          rw [of_eq _ _ (by omega) (by omega)] at this
          exact this
        subst j0
        exact fin
      · have j0 : j ≠ 0 := fun q => c3 (by rw [q]; rfl)
        have ep : Int32.ofNat j - 1 = Int32.ofNat (j - 1) := of_sub j 1 (by omega)
        have ep0 : (0 : Int32) ≤ Int32.ofNat (j - 1) := of_nn _ (by omega)
        have ep1 : ix (Int32.ofNat (j - 1)) = j - 1 := ix_of _ (by omega)
        have ce : mI C (ad 19 t) (j - 1) = Int32.ofNat (ceL ad C t j) := by
          unfold ceL
          rw [if_neg j0]
          exact (of_ix _ (h.eds t ht (j - 1) (by omega)).2.2.1).symm
        rw [if_neg c3, ep, kA_t s9 ep0 (by omega), ck_t, ep1, ce, ← ep]
        exact fin
    · rw [if_neg c1, if_neg c1]
      exact x
def lsV (R : Mm) (f : Nat) (w : Int32) : Option Nat → Int32
  | none => untl (ix w)
  | some s => mI R 70 (f + s)
theorem lp_asked (h : Rel k ad C R) (hf : Fok C R) {t : Nat} (ht : t < ix (mI R 39 37)) (w : Int32) (hb : Nat → Int32) (hh : ∀ s, s < ix (mI R 67 t) → Edict_holds C (ad 16 t) (Int32.ofNat (ceL ad C t s)) (mI C (ad 19 t) s) 29 = some (hb s, C)) : ∀ (d n j : Nat) (R1 : Mm), j + d = ix (mI R 67 t) → d < n → ExR R R1 → ∃ R2, ExR R R2 ∧ Mod_asked_L24 n 39 w (lsV R (ix (mI R 66 t)) w (lst (mI C (ad 17 t)) hb w j)) (Int32.ofNat t) (Int32.ofNat (ix (mI R 66 t) + j)) R1 = some (lsV R (ix (mI R 66 t)) w (lst (mI C (ad 17 t)) hb w (ix (mI R 67 t))), R2) := by
  have hT := h.isc.texts
  have h8 : ix (mI R 39 37) ≤ 8 := by grind [ix_t]
  obtain ⟨i1, i2, i3, i4⟩ := h.ied
  obtain ⟨t1, t2, t3, t4, -⟩ := i3 t ht
  have hst : ix (mI R 39 46) ≤ 192 := by grind [ix_t]
  have hgl : ix (mI R 66 t) + ix (mI R 67 t) ≤ ix (mI R 39 46) := t4
  have T0 : (0 : Int32) ≤ Int32.ofNat t := of_nn _ (by omega)
  have T1 : ix (Int32.ofNat t) = t := ix_of _ (by omega)
  have fm : mI R 66 t + mI R 67 t = Int32.ofNat (ix (mI R 66 t) + ix (mI R 67 t)) := by rw [← of_add, of_ix _ t1, of_ix _ t2]
  intro d
  induction d with
  | zero =>
    intro n j R1 hj hn hx
    obtain ⟨n, rfl⟩ : ∃ x, n = x + 1 := ⟨n - 1, by omega⟩
    have h1 := h.tmp ExC.rf hx
    refine ⟨R1, hx, ?_⟩
    show Mod_asked_B24 _ _ _ _ _ _ _ = _
    unfold Mod_asked_B24
    simp only [h1.o39, ck_t, h1.sr.r39_38, h1.sr.r39_39, nn_s, kA_t h1.sr.k66 T0 (show ix (Int32.ofNat t) < 8 by omega), kA_t h1.sr.k67 T0 (show ix (Int32.ofNat t) < 8 by omega), T1, hx.1 66 (by unfold tR; omega), hx.1 67 (by unfold tR; omega), fm]
    rw [if_pos (by rw [of_le _ _ (by omega) (by omega)]; omega), show j = ix (mI R 67 t) by omega]
  | succ d ih =>
    intro n j R1 hj hn hx
    obtain ⟨n, rfl⟩ : ∃ x, n = x + 1 := ⟨n - 1, by omega⟩
    have h1 := h.tmp ExC.rf hx
    have hf1 := fok_ex hf hx
    have e66 : mI R1 66 = mI R 66 := hx.1 66 (by unfold tR; omega)
    have e67 : mI R1 67 = mI R 67 := hx.1 67 (by unfold tR; omega)
    have e69 : mI R1 69 = mI R 69 := hx.1 69 (by unfold tR; omega)
    have e39 : mI R1 39 = mI R 39 := hx.1 39 (by unfold tR; omega)
    have G0 : (0 : Int32) ≤ Int32.ofNat (ix (mI R 66 t) + j) := of_nn _ (by omega)
    have G1 : ix (Int32.ofNat (ix (mI R 66 t) + j)) = ix (mI R 66 t) + j := ix_of _ (by omega)
    obtain ⟨b, b1, b2, R2, b3, b4⟩ := ev_hold h1 hf1 (show t < ix (mI R1 39 37) by rw [e39]; exact ht) (show j < ix (mI R1 67 t) by rw [e67]; omega)
    rw [hh j (by omega)] at b2
    obtain rfl : hb j = b := by injection b2 with b2; exact (Prod.mk.inj b2).1
    rw [e66] at b3
    have wj := (h.eds t ht j (by omega)).1
    have hx2 := hx.tr b4
    have h2 := h.tmp ExC.rf hx2
    show ∃ R2, ExR R R2 ∧ Mod_asked_B24 (Mod_asked_L24 n) 39 w (lsV R (ix (mI R 66 t)) w (lst (mI C (ad 17 t)) hb w j)) (Int32.ofNat t) (Int32.ofNat (ix (mI R 66 t) + j)) R1 = _
    unfold Mod_asked_B24 Mod_asked_J70
    simp only [h1.o39, ck_t, h1.sr.r39_38, h1.sr.r39_39, h1.sr.r39_41, nn_s, kA_t h1.sr.k66 T0 (show ix (Int32.ofNat t) < 8 by omega), kA_t h1.sr.k67 T0 (show ix (Int32.ofNat t) < 8 by omega), kA_t h1.sr.k69 G0 (show ix (Int32.ofNat (ix (mI R 66 t) + j)) < 200 by omega), T1, G1, e66, e67, e69, fm, b3, bd_s, h2.o39, h2.sr.r39_42, kA_t h2.sr.k70 G0 (show ix (Int32.ofNat (ix (mI R 66 t) + j)) < 200 by omega), of_s1 (ix (mI R 66 t) + j) (by omega), hx2.1 70 (by unfold tR; omega)]
    rw [if_neg (by rw [of_le _ _ (by omega) (by omega)]; omega), ← wj]
    have q1 := ih n (j + 1) R1 (by omega) (by omega) hx
    have q2 := ih n (j + 1) R2 (by omega) (by omega) hx2
    have el : lst (mI C (ad 17 t)) hb w (j + 1) = if mI C (ad 17 t) j = w then (if hb j = 0 then lst (mI C (ad 17 t)) hb w j else some j) else lst (mI C (ad 17 t)) hb w j := rfl
    rw [el] at q1 q2
    by_cases c1 : mI C (ad 17 t) j = w
    · rw [if_pos c1] at q1 q2 ⊢
      by_cases c2 : hb j = 0
      · rw [if_pos c2] at q1 q2 ⊢
        exact q2
      · rw [if_neg c2] at q1 q2 ⊢
        exact q2
    · rw [if_neg c1] at q1 q2 ⊢
      exact q1
theorem ev_bare (M : Mm) (w : Int32) (h0 : 0 ≤ w) (h1 : w ≤ 10) : Mod_bare M w = some (untl (ix w), M) := by
  have e : w = 0 ∨ w = 1 ∨ w = 2 ∨ w = 3 ∨ w = 4 ∨ w = 5 ∨ w = 6 ∨ w = 7 ∨ w = 8 ∨ w = 9 ∨ w = 10 := by grind
  rcases e with e | e | e | e | e | e | e | e | e | e | e <;> subst e <;> rfl
theorem untl_b (w : Int32) (h0 : 0 ≤ w) (h1 : w ≤ 10) : 0 ≤ untl (ix w) ∧ untl (ix w) ≤ 99999 ∧ (w = 3 ∨ w = 4 ∨ w = 8 → 1 ≤ untl (ix w)) := by
  have e : w = 0 ∨ w = 1 ∨ w = 2 ∨ w = 3 ∨ w = 4 ∨ w = 5 ∨ w = 6 ∨ w = 7 ∨ w = 8 ∨ w = 9 ∨ w = 10 := by grind
  rcases e with e | e | e | e | e | e | e | e | e | e | e <;> subst e <;> decide
/-- asked, both sides answer alike -/
theorem ask_law (h : Rel k ad C R) (hf : Fok C R) (w : Int32) (h0 : 0 ≤ w) (h1 : w ≤ 10) : ∃ r, Law_ask C 19 w (mI R 39 0) = some (r, C) ∧ (0 ≤ r ∧ r ≤ 99999 ∧ (w = 3 ∨ w = 4 ∨ w = 8 → 1 ≤ r)) ∧ ∀ R1, ExR R R1 → ∃ R2, ExR R R2 ∧ Mod_asked R1 39 w = some (r, R2) := by
  obtain ⟨f, f1, f2, f3⟩ := ev_force h
  have hT := h.isc.texts
  have h8 : ix (mI R 39 37) ≤ 8 := by grind [ix_t]
  have mf : ∀ R1, ExR R R1 → Mod_inForce R1 39 = some (f, R1) := by
    intro R1 hx
    have q := h.tmp ExC.rf hx
    obtain ⟨f', y1, y2, y3⟩ := ev_force q
    have e39 : mI R1 39 = mI R 39 := hx.1 39 (by unfold tR; omega)
    rw [e39, f1] at y1
    obtain rfl : f = f' := by injection y1 with y1; exact (Prod.mk.inj y1).1
    exact y2
  have w11 : ix w < 11 := ix_b 11 h0 (show w < 11 by grind) (by decide) (by decide)
  have ks : kS 11 w = true := by unfold kS; simp only [Bool.and_eq_true, decide_eq_true_eq]; exact ⟨h0, w11⟩
  rcases f3 with f3 | f3
  · subst f3
    refine ⟨untl (ix w), ?_, untl_b w h0 h1, fun R1 hx => ⟨R1, hx, ?_⟩⟩
    · unfold Law_ask Law_ask_J29
      simp only [h.o19, ck_t, f1, bd_s, if_true, if_neg (show ¬ w < 0 by grind), if_neg (show ¬ 11 ≤ w by grind), ks]
    · unfold Mod_asked
      simp only [ev_bare _ w h0 h1, bd_s, (h.tmp ExC.rf hx).o39, ck_t, mf R1 hx, if_neg (show ¬ (0 : Int32) ≤ -1 by decide)]
  · have ht : ix f < ix (mI R 39 37) := ix_mo f3.1 f3.2
    have ef : Int32.ofNat (ix f) = f := of_ix f f3.1
    have nf : ¬ f = -1 := by grind
    obtain ⟨s1, s2, s3, s4, s5, s6, s7, s8, s9, s10, s11⟩ := h.she (ix f) ht
    have t24 := h.ied.2.2.1 (ix f) ht
    have b24 : ix (mI R 67 (ix f)) ≤ 24 := by grind [ix_t]
    have ch : ∃ hb : Nat → Int32, ∀ s, s < ix (mI R 67 (ix f)) → Edict_holds C (ad 16 (ix f)) (Int32.ofNat (ceL ad C (ix f) s)) (mI C (ad 19 (ix f)) s) 29 = some (hb s, C) := by
      have : ∀ s, ∃ b, s < ix (mI R 67 (ix f)) → Edict_holds C (ad 16 (ix f)) (Int32.ofNat (ceL ad C (ix f) s)) (mI C (ad 19 (ix f)) s) 29 = some (b, C) := by
        intro s
        by_cases hs : s < ix (mI R 67 (ix f))
        · obtain ⟨b, -, b2, -⟩ := ev_hold h hf ht hs
          exact ⟨b, fun _ => b2⟩
        · exact ⟨0, fun q => absurd q hs⟩
      exact Classical.axiomOfChoice this
    obtain ⟨hb, hh⟩ := ch
    have l1 := lp_last h ht w hb hh (ix (mI R 67 (ix f))) fu (Nat.le_refl _) (fu_g (by omega))
    have lnw : ln C (ad 17 (ix f)) - 1 = Int32.ofNat (ix (mI R 67 (ix f))) - 1 := by unfold ln; rw [s7]
    refine ⟨lsV R (ix (mI R 66 (ix f))) w (lst (mI C (ad 17 (ix f))) hb w (ix (mI R 67 (ix f)))), ?_, ?_, fun R1 hx => ?_⟩
    · unfold Law_ask Law_ask_J29 Edict_lastThatHolds
      simp only [h.o19, ck_t, f1, bd_s, if_neg nf, h.sc.r19_1, h.sc.r19_2, nn_s, kA_t h.sc.k28 f3.1 (show ix f < 8 by omega), s1, kO_t s2, s3, kT_t s7, lnw, l1]
      cases e : lst (mI C (ad 17 (ix f))) hb w (ix (mI R 67 (ix f))) with
      | none =>
        show (if (-1 : Int32) = -1 then _ else _) = _
        simp only [if_true, if_neg (show ¬ w < 0 by grind), if_neg (show ¬ 11 ≤ w by grind), ks, ck_t]
        rfl
      | some s =>
        obtain ⟨e1, -⟩ := lst_lt e
        have S0 : (0 : Int32) ≤ Int32.ofNat s := of_nn _ (by omega)
        have S1 : ix (Int32.ofNat s) = s := ix_of _ (by omega)
        show (if (Int32.ofNat s : Int32) = -1 then _ else _) = _
        rw [if_neg (by grind)]
        simp only [s4, nn_s]
        show ck (kA C (ad 18 (ix f)) 20 (Int32.ofNat s)) (some (mI C (ad 18 (ix f)) (ix (Int32.ofNat s)), C)) = _
        rw [kA_t s8 S0 (by omega), ck_t, S1, (h.eds (ix f) ht s e1).2.1]
        rfl
    · cases e : lst (mI C (ad 17 (ix f))) hb w (ix (mI R 67 (ix f))) with
      | none => exact untl_b w h0 h1
      | some s =>
        obtain ⟨e1, e2⟩ := lst_lt e
        have hg : ix (mI R 66 (ix f)) + s < ix (mI R 39 46) := by have := t24.2.2.2.1; omega
        have q := h.ied.2.2.2 _ hg
        have wj := (h.eds (ix f) ht s e1).1
        rw [e2] at wj
        refine ⟨q.1, q.2.1, fun z => q.2.2.1 ?_⟩
        rw [← wj]
        exact z
    · have x1 := lp_asked h hf ht w hb hh (ix (mI R 67 (ix f))) fu 0 R1 (by omega) (fu_g (by omega)) hx
      obtain ⟨R2, x2, x3⟩ := x1
      refine ⟨R2, x2, ?_⟩
      unfold Mod_asked
      have q := h.tmp ExC.rf hx
      rw [Nat.add_zero, of_ix _ t24.1, ef] at x3
      simp only [ev_bare _ w h0 h1, bd_s, q.o39, ck_t, mf R1 hx, if_pos f3.1, q.sr.r39_38, nn_s, kA_t q.sr.k66 f3.1 (show ix f < 8 by omega), hx.1 66 (by unfold tR; omega)]
      exact x3
theorem ask_hall (h : Rel k ad C R) (w : Int32) (h0 : 0 ≤ w) (h1 : w ≤ 10) : ∃ r, Hall_askLaw C 8 w = some (r, fct C R) ∧ (0 ≤ r ∧ r ≤ 99999 ∧ (w = 3 ∨ w = 4 ∨ w = 8 → 1 ≤ r)) ∧ ∀ R1, ExR R R1 → ∃ R2, ExR R R2 ∧ Mod_asked R1 39 w = some (r, R2) := by
  have h2 := h.tmp (ex_fct C R) ExR.rf
  obtain ⟨r, r1, r2, r3⟩ := ask_law h2 (fok_fct C R) w h0 h1
  refine ⟨r, ?_, r2, r3⟩
  unfold Hall_askLaw
  simp only [h.o8, ck_t, ev_look h, bd_s, h2.o8, h2.o19, h2.sc.r8_9, nn_s, h2.l8_16, r1]
end L5
