section Z3
variable {k : Nat} {ad : Nat → Nat → Nat} {C R R' : Mm}
theorem Rel.o109 (h : Rel k ad C R) (e : EO R R') (st : mI R 39 73 = 1 → ∀ i, i < 60 → mI R' 109 i = mI R 109 i) : Rel k ad C R' := by
  obtain ⟨g, eL, eR, eK⟩ := e
  have g39 := g 39 (by decide)
  have g87 := g 87 (by decide)
  have g88 := g 88 (by decide)
  have hN := n24 h
  refine h.ses h.lv (fun _ _ _ => rfl) (fun _ _ _ => rfl) (fun _ _ _ => rfl) (fun _ _ => rfl) (fun _ _ => rfl) (h.dt.eqR (fun a j q => by rw [g a (fun w => by subst w; exact q rfl)])) (fun c i j q => by rw [eL]; exact h.dl c i j q) g39 (fun a y => g a (fun w => y (by unfold tS; omega))) eL eR eK ?_ ?_ ?_ ?_ ?_ ?_
  · have := h.shn
    unfold ShN Un Al at this ⊢
    rw [g39, g87, g88]
    exact this
  · have := h.ise
    unfold Ise at this ⊢
    rw [g39, g87, g88, g 90 (by decide), g 84 (by decide), g 86 (by decide), g 89 (by decide), g 85 (by decide), g 92 (by decide), g 97 (by decide), g 93 (by decide), g 94 (by decide), g 95 (by decide), g 98 (by decide), g 99 (by decide), g 100 (by decide), g 101 (by decide), g 102 (by decide), g 103 (by decide), g 104 (by decide), g 105 (by decide), g 107 (by decide), g 108 (by decide)]
    exact this
  · intro o
    rw [g39] at o
    have so := h.ison o
    have s2 := st o
    rw [g39, g87, g88]
    refine ⟨so.1, so.2.1, fun c hc => by rw [s2 c hc]; exact so.2.2.1 c hc, fun c p hc => by rw [s2 c hc]; exact so.2.2.2.1 c p hc, ?_⟩
    have := so.2.2.2.2
    rw [sumTo_cg (g := fun c => if mI R 109 c = 0 then (0 : Int) else 1) (fun j hj => by rw [s2 j hj])]
    exact this
  · refine ⟨fun s hs => ?_, fun o c hc => ?_⟩
    · rw [g39] at hs ⊢
      exact h.son.1 s hs
    · rw [g39] at o ⊢
      rw [st o c hc]
      exact h.son.2 o c hc
  · exact h.den.cg (fun _ _ _ => rfl) (congrFun g39 70) g88 (g 105 (by decide)) (g 106 (by decide))
  · intro s hs
    rw [g39] at hs
    have h60 := n60 h (show s < 24 by omega)
    obtain ⟨w1, w2, w3, w4, w5⟩ := h.evs s hs
    rw [g39, g87, g 90 (by decide), g 96 (by decide)]
    exact ⟨w1, w2, w3, w4, fun o y c hc hb => by rw [st o c (by omega)]; exact w5 o y c hc hb⟩
theorem lp_keep {s : Nat} {fl ce : Int32} : ∀ (d n j : Nat) (M : Mm), SR M → j + d = 60 → d < n → ∃ M', Mod_other_L55 n 39 (Int32.ofNat s) fl ce (Int32.ofNat j) M = Mod_other_J82 39 (Int32.ofNat s) fl ce M' ∧ (∀ a i, mI M' a i = if a = 115 ∧ j ≤ i ∧ i < 60 then mI M 109 i else mI M a i) ∧ mL M' = mL M ∧ mR M' = mR M ∧ mK M' = mK M := by
  intro d
  induction d with
  | zero =>
    intro n j M hs hj hn
    obtain ⟨n, rfl⟩ : ∃ x, n = x + 1 := ⟨n - 1, by omega⟩
    refine ⟨M, ?_, fun a i => by rw [if_neg (by omega)], rfl, rfl, rfl⟩
    show Mod_other_B55 _ _ _ _ _ _ _ = _
    unfold Mod_other_B55
    have e : j = 60 := by omega
    subst e
    rw [if_pos (by decide)]
  | succ d ih =>
    intro n j M hs hj hn
    obtain ⟨n, rfl⟩ : ∃ x, n = x + 1 := ⟨n - 1, by omega⟩
    have J0 : (0 : Int32) ≤ Int32.ofNat j := of_nn _ (by omega)
    have J1 : ix (Int32.ofNat j) = j := ix_of _ (by omega)
    obtain ⟨M', z1, z2, z3, z4, z5⟩ := ih n (j + 1) (sI M 115 j (mI M 109 j)) hs (by omega) (by omega)
    have n60 : ¬ (60 : Int32) ≤ Int32.ofNat j := fun w => by
      have := (of_le 60 j (by omega) (by omega)).mp w
      omega
    refine ⟨M', ?_, fun a i => ?_, z3, z4, z5⟩
    · show Mod_other_B55 _ _ _ _ _ _ _ = _
      unfold Mod_other_B55
      simp only [if_neg n60, kO_t hs.k39, ck_t, hs.r39_106, hs.r39_100, nn_s, kA_t hs.k109 J0 (show ix (Int32.ofNat j) < 60 by omega), kA_t hs.k115 J0 (show ix (Int32.ofNat j) < 60 by omega), J1, of_s1 j (by omega)]
      exact z1
    · rw [z2 a i, row_n (show 109 ≠ 115 by decide), mI_sI]
      by_cases c : a = 115 ∧ j + 1 ≤ i ∧ i < 60
      · rw [if_pos c, if_pos (by omega)]
      · rw [if_neg c]
        by_cases c2 : a = 115 ∧ i = j
        · rw [if_pos c2, if_pos (by omega), c2.2]
        · rw [if_neg c2, if_neg (by omega)]
theorem lp_zero {s : Nat} {fl ce : Int32} : ∀ (d n j : Nat) (M : Mm), SR M → j + d = 60 → d < n → ∃ M', Mod_other_L85 n 39 (Int32.ofNat s) fl ce (Int32.ofNat j) M = Mod_other_L115 fu 39 (Int32.ofNat s) fl ce (-1) (-1) 0 M' ∧ (∀ a i, mI M' a i = if a = 109 ∧ j ≤ i ∧ i < 60 then 0 else mI M a i) ∧ mL M' = mL M ∧ mR M' = mR M ∧ mK M' = mK M := by
  intro d
  induction d with
  | zero =>
    intro n j M hs hj hn
    obtain ⟨n, rfl⟩ : ∃ x, n = x + 1 := ⟨n - 1, by omega⟩
    refine ⟨M, ?_, fun a i => by rw [if_neg (by omega)], rfl, rfl, rfl⟩
    show Mod_other_B85 _ _ _ _ _ _ _ = _
    unfold Mod_other_B85
    have e : j = 60 := by omega
    subst e
    rw [if_pos (by decide)]
  | succ d ih =>
    intro n j M hs hj hn
    obtain ⟨n, rfl⟩ : ∃ x, n = x + 1 := ⟨n - 1, by omega⟩
    have J0 : (0 : Int32) ≤ Int32.ofNat j := of_nn _ (by omega)
    have J1 : ix (Int32.ofNat j) = j := ix_of _ (by omega)
    obtain ⟨M', z1, z2, z3, z4, z5⟩ := ih n (j + 1) (sI M 109 j 0) hs (by omega) (by omega)
    have n60 : ¬ (60 : Int32) ≤ Int32.ofNat j := fun w => by
      have := (of_le 60 j (by omega) (by omega)).mp w
      omega
    refine ⟨M', ?_, fun a i => ?_, z3, z4, z5⟩
    · show Mod_other_B85 _ _ _ _ _ _ _ = _
      unfold Mod_other_B85
      simp only [if_neg n60, kO_t hs.k39, ck_t, hs.r39_100, nn_s, kA_t hs.k109 J0 (show ix (Int32.ofNat j) < 60 by omega), J1, of_s1 j (by omega)]
      exact z1
    · rw [z2 a i, mI_sI]
      by_cases c : a = 109 ∧ j + 1 ≤ i ∧ i < 60
      · rw [if_pos c, if_pos (by omega)]
      · rw [if_neg c]
        by_cases c2 : a = 109 ∧ i = j
        · rw [if_pos c2, if_pos (by omega)]
        · rw [if_neg c2, if_neg (by omega)]
theorem lp_put {s : Nat} (s24 : s < 24) {x4 x5 : Int32} : ∀ (d n j : Nat) (M : Mm), SR M → j + d = 60 → d < n → ∃ M', Mod_other_L328 n 39 (Int32.ofNat s) x4 x5 (Int32.ofNat j) M = some (fin0 (mI M 84 s - mI M 86 s) x4 x5, M') ∧ (∀ a i, mI M' a i = if a = 109 ∧ j ≤ i ∧ i < 60 then (if mI M 39 73 = 0 then 0 else mI M 115 i) else mI M a i) ∧ mL M' = mL M ∧ mR M' = mR M ∧ mK M' = mK M := by
  have S0 : (0 : Int32) ≤ Int32.ofNat s := of_nn _ (by omega)
  have S1 : ix (Int32.ofNat s) = s := ix_of _ (by omega)
  intro d
  induction d with
  | zero =>
    intro n j M hs hj hn
    obtain ⟨n, rfl⟩ : ∃ x, n = x + 1 := ⟨n - 1, by omega⟩
    refine ⟨M, ?_, fun a i => by rw [if_neg (by omega)], rfl, rfl, rfl⟩
    show Mod_other_B328 _ _ _ _ _ _ _ = _
    unfold Mod_other_B328 fin0
    have e : j = 60 := by omega
    subst e
    simp only [if_pos (show (60 : Int32) ≤ Int32.ofNat 60 by decide), kO_t hs.k39, ck_t, hs.r39_75, hs.r39_77, nn_s, kA_t hs.k84 S0 (show ix (Int32.ofNat s) < 24 by omega), kA_t hs.k86 S0 (show ix (Int32.ofNat s) < 24 by omega), S1]
    repeat' split
    all_goals rfl
  | succ d ih =>
    intro n j M hs hj hn
    obtain ⟨n, rfl⟩ : ∃ x, n = x + 1 := ⟨n - 1, by omega⟩
    have J0 : (0 : Int32) ≤ Int32.ofNat j := of_nn _ (by omega)
    have J1 : ix (Int32.ofNat j) = j := ix_of _ (by omega)
    have n60 : ¬ (60 : Int32) ≤ Int32.ofNat j := fun w => by
      have := (of_le 60 j (by omega) (by omega)).mp w
      omega
    obtain ⟨M', z1, z2, z3, z4, z5⟩ := ih n (j + 1) (sI M 109 j (if mI M 39 73 = 0 then 0 else mI M 115 j)) hs (by omega) (by omega)
    rw [row_n (show 84 ≠ 109 by decide), row_n (show 86 ≠ 109 by decide)] at z1
    rw [row_n (show 39 ≠ 109 by decide), row_n (show 115 ≠ 109 by decide)] at z2
    refine ⟨M', ?_, fun a i => ?_, z3, z4, z5⟩
    · show Mod_other_B328 _ _ _ _ _ _ _ = _
      unfold Mod_other_B328 Mod_other_J359
      simp only [if_neg n60, kO_t hs.k39, ck_t, hs.r39_100, hs.r39_106, nn_s, kA_t hs.k109 J0 (show ix (Int32.ofNat j) < 60 by omega), kA_t hs.k115 J0 (show ix (Int32.ofNat j) < 60 by omega), J1, of_s1 j (by omega)]
      by_cases y : mI M 39 73 = 0
      · rw [if_pos y] at z1 ⊢
        exact z1
      · rw [if_neg y] at z1 ⊢
        exact z1
    · rw [z2 a i, mI_sI]
      by_cases c : a = 109 ∧ j + 1 ≤ i ∧ i < 60
      · rw [if_pos c, if_pos (show a = 109 ∧ j ≤ i ∧ i < 60 by omega)]
      · rw [if_neg c]
        by_cases c2 : a = 109 ∧ i = j
        · rw [if_pos c2, if_pos (show a = 109 ∧ j ≤ i ∧ i < 60 by omega), c2.2]
        · rw [if_neg c2, if_neg (by omega)]
theorem other_go {Rb : Mm} (h : Rel k ad C Rb) {s : Nat} (hs : s < ix (mI Rb 39 70)) {fl ce : Int32} (kp : mI Rb 39 73 = 1 → ∀ i, i < 60 → mI Rb 115 i = mI Rb 109 i) : ∃ r C2 R3, Session_otherClose C (ad 10 s) fl ce 38 = some (r, C2) ∧ Mod_other_J82 39 (Int32.ofNat s) fl ce Rb = some (r, R3) ∧ Rel k ad C2 R3 := by
  have hN := n24 h
  have s24 : s < 24 := by omega
  have b90 := (h.ise.1 s s24).2.2.1
  have e120 : ix (mI Rb 90 s) ≤ 120 := by clear h kp; grind [ix_t]
  obtain ⟨R1, z1, z2, z3, z4, z5⟩ := lp_zero (s := s) (fl := fl) (ce := ce) 60 fu 0 Rb h.sr (by omega) (fu_g (by decide))
  have hr1 : EO Rb R1 := ⟨fun a y => by funext i; rw [z2, if_neg (fun w => y w.1)], z3, z4, z5⟩
  have q0 : ∀ i, i < 60 → mI R1 109 i = 0 := fun i hi => by rw [z2, if_pos ⟨rfl, by omega, hi⟩]
  obtain ⟨C2, R2, x4, x5, a1, a2, a3, a4⟩ := lp_other h hs (fl := fl) (ce := ce) (ix (mI Rb 90 s)) fu fu 0 C R1 (-1) (-1) (by omega) (fu_g (by omega)) (fu_g (by omega)) ExC.rf hr1 (fun c hc => absurd hc (Nat.not_lt_zero c)) (fun c hc => by rw [q0 c hc]; decide) (fun i c hi => absurd hi (Nat.not_lt_zero i)) (fun c _ hc => q0 c hc)
  have sr2 : SR R2 := h.sr.sm a4.2.2.2 a4.2.2.1
  obtain ⟨R3, y1, y2, y3, y4, y5⟩ := lp_put s24 (x4 := x4) (x5 := x5) 60 fu 0 R2 sr2 (by omega) (fu_g (by decide))
  rw [a4.1 84 (by decide), a4.1 86 (by decide)] at y1
  rw [a4.1 39 (by decide), a4.1 115 (by decide)] at y2
  have e0 : fin0 (mI Rb 84 s - mI Rb 86 s) (-1) (-1) = -1 := by unfold fin0; rw [if_pos (by decide)]
  rw [e0] at a1
  refine ⟨_, C2, R3, a1, ?_, ?_⟩
  · unfold Mod_other_J82
    have z1 : Mod_other_L85 fu 39 (Int32.ofNat s) fl ce 0 Rb = Mod_other_L115 fu 39 (Int32.ofNat s) fl ce (-1) (-1) 0 R1 := z1
    have a2 : Mod_other_L115 fu 39 (Int32.ofNat s) fl ce (-1) (-1) 0 R1 = Mod_other_L328 fu 39 (Int32.ofNat s) x4 x5 0 R2 := a2
    rw [z1, a2]
    exact y1
  · refine (h.tmp a3 ExR.rf).o109 ⟨fun a y => ?_, y3.trans a4.2.1, y4.trans a4.2.2.1, y5.trans a4.2.2.2⟩ (fun o i hi => ?_)
    · funext i
      rw [y2, if_neg (fun w => y w.1), a4.1 a y]
    · rw [y2, if_pos ⟨rfl, by omega, hi⟩, o, if_neg (by decide), kp o i hi]
theorem sim_other (h : Rel k ad C R) (hk : k < 512) (a fl ce : Int32) : Sim k (Hall_other C 8 a fl ce) (Mod_other R 39 a fl ce) := by
  have s1 : ∀ r : Int32, Sim k (some (r, C)) (some (r, R)) := fun r => ⟨_, _, _, ad, rfl, rfl, h.up hk⟩
  have hN := n24 h
  unfold Hall_other Mod_other
  simp only [h.o8, h.o39, ck_t, ev_isN h, bd_s]
  by_cases a1 : a < 0
  · rw [if_pos a1]
    simp only [if_neg (show ¬ (0 ≤ a ∧ a < mI R 39 70) by clear h; grind), if_true]
    exact s1 _
  · rw [if_neg a1]
    by_cases a2 : mI R 39 70 ≤ a
    · rw [if_pos a2]
      simp only [if_neg (show ¬ (0 ≤ a ∧ a < mI R 39 70) by clear h; grind), if_true]
      exact s1 _
    · rw [if_neg a2]
      have a0 : 0 ≤ a := by clear h; grind
      have alt : a < mI R 39 70 := by clear h; grind
      have hs : ix a < ix (mI R 39 70) := ix_mo a0 alt
      have s24 : ix a < 24 := by omega
      have sh := h.shn.1 (ix a) hs
      have b84 := (h.ise.1 (ix a) s24).2.2.2.1
      simp only [if_pos (show 0 ≤ a ∧ a < mI R 39 70 from ⟨a0, alt⟩), i10, if_false, h.sc.r8_12, nn_s, kA_t h.sc.k37 a0 s24, ck_t, sh.1, kO_t sh.2.1, h.ln8 hs, h.sr.r39_75, kA_t h.sr.k84 a0 s24, ev_within, ev_in, bd_s]
      by_cases a3 : mI R 84 (ix a) = -1
      · rw [if_pos a3, if_pos (by rw [a3]; decide)]
        exact s1 _
      · rw [if_neg a3, if_neg (show ¬ mI R 84 (ix a) < 0 by clear h sh; grind)]
        by_cases a4 : 0 ≤ fl ∧ fl ≤ 99999
        · by_cases a5 : 0 ≤ ce ∧ ce ≤ 99999
          · simp only [if_pos a4, if_pos a5, i10, if_false, h.sc.r8_15, nn_s]
            have ea : a = Int32.ofNat (ix a) := (of_ix a a0).symm
            by_cases o : mI R 39 73 = 0
            · rw [if_pos o]
              obtain ⟨r, C2, R3, e1, e2, e3⟩ := other_go (fl := fl) (ce := ce) h hs (fun w => by rw [o] at w; exact absurd w (by decide))
              rw [← ea] at e2
              rw [e1, e2, h.o39, ck_t, h.o8, ck_t, bd_s]
              exact ⟨_, _, _, ad, rfl, rfl, e3.up hk⟩
            · rw [if_neg o]
              obtain ⟨Rb, z1, z2, z3, z4, z5⟩ := lp_keep (s := ix a) (fl := fl) (ce := ce) 60 fu 0 R h.sr (by omega) (fu_g (by decide))
              rw [← ea] at z1
              have z1 : Mod_other_L55 fu 39 a fl ce 0 R = Mod_other_J82 39 a fl ce Rb := z1
              have ex : ExR R Rb := ⟨fun b hb => by funext i; rw [z2, if_neg (fun w => hb (by rw [w.1]; unfold tR; omega))], fun b _ _ => by rw [z3], z4, z5⟩
              have hb := h.tmp ExC.rf ex
              obtain ⟨r, C2, R3, e1, e2, e3⟩ := other_go (fl := fl) (ce := ce) (s := ix a) hb (by rw [ex.1 39 (by unfold tR; omega)]; exact hs) (fun _ i hi => by
                rw [z2, z2, if_pos ⟨rfl, by omega, hi⟩, if_neg (by omega)])
              rw [← ea] at e2
              rw [e1, z1, e2, h.o39, ck_t, h.o8, ck_t, bd_s]
              exact ⟨_, _, _, ad, rfl, rfl, e3.up hk⟩
          · simp only [if_pos a4, if_neg a5, i10, if_false, if_true]
            exact s1 _
        · simp only [if_neg a4, if_true]
          exact s1 _
end Z3
