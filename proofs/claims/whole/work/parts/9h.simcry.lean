section Y8
variable {k : Nat} {ad : Nat → Nat → Nat} {C R : Mm}
/-- a cry of good arguments that is neither halted nor of one that is called -/
theorem cry_go (h : Rel k ad C R) (hk : k < 512) {F R1 : Mm} {p b l pr r12 : Int32} (hz : b = 0 ∨ b = 1) (o : mI R 39 73 = 1) {s : Nat} (t1 : s + 1 = ix (mI R 39 70)) (t2 : s < 24) (t3 : mI R 39 70 - 1 = Int32.ofNat s) (t4 : mR C 8 14 = some (ad 10 s)) (a1 : 0 ≤ p ∧ p < mI R 39 9) (a2 : 1 ≤ l ∧ l ≤ 50) (a3 : 1 ≤ pr ∧ pr ≤ 9999) (a4 : ¬ mI R 87 s = 60) (q1 : Hall_askLaw C 8 10 = some (r12, F)) (x2 : Mod_asked R 39 10 = some (r12, R1)) (x1 : ExR R R1) (exF : ExC C F) (hF : Rel k ad F R1) (c10 : ¬ r12 = 1) (cc : mI R1 49 (ix p) = -1) : Sim k (Hall_cry C 8 p b l pr) (Mod_cry R 39 p b l pr) := by
  have hN := n24 h
  have hs : s < ix (mI R 39 70) := by omega
  have sh := h.shn.1 s hs
  have p16 := h.isc.persons
  have ip : ix p < ix (mI R 39 9) := ix_mo a1.1 a1.2
  have ip16 : ix p < 16 := by have : ix (mI R 39 9) ≤ 16 := by (clear sh hF h; grind [ix_t])
                              omega
  have e39 : mI R1 39 = mI R 39 := x1.1 39 (by unfold tR; omega)
  have e87 : mI R1 87 = mI R 87 := x1.1 87 (by unfold tR; omega)
  have hU := hF.up hk
  have h60 := n60 hF t2
  have z1 := hF.ise.1 s t2
  have shp := hF.shp (ix p) (by rw [e39]; exact ip)
  have hsF : s < ix (mI R1 39 70) := by rw [e39]; exact hs
  have shF := hF.shn.1 s hsF
  have c60 : ix (mI R1 87 s) < 60 := by
    have x := z1.1
    have y : ¬ mI R1 87 s = 60 := by rw [e87]; exact a4
    clear sh hF h hU shp shF
    grind [ix_t]
  have h5 := (hF.evs s hsF)
  have e119 : ix (mI R1 90 s) < 120 := by
    have := sumTo_ub (f := fun c => if mI F (ad 14 (60 * s + c)) 5 = -1 then (0 : Int) else 1) (n := ix (mI R1 87 s)) (fun j _ => (bk01 _).1)
    have := h5.2.2.2.1
    omega
  have i87 : mI R1 87 s = Int32.ofNat (ix (mI R1 87 s)) := (of_ix _ h60.2.2.1).symm
  have i90 : mI R1 90 s = Int32.ofNat (ix (mI R1 90 s)) := (of_ix _ z1.2.2.1.1).symm
  have so := hF.ison (by rw [e39]; exact o)
  rw [e39, ← t1, Nat.add_sub_cancel] at so
  generalize hc : ix (mI R1 87 s) = c at *
  generalize he : ix (mI R1 90 s) = e at *
  have hzF := hU.lv.1
  have rooms := hF.lv.2.2.2
  -- places
  have nz : ∀ c' i', (if c' = 14 ∧ i' = 60 * s + c then mZ F else 0) ≠ 0 → c' = 14 ∧ i' = 60 * s + c := fun c' i' y => by
    apply Classical.byContradiction
    intro y2
    rw [if_neg y2] at y
    exact y rfl
  obtain ⟨ad', y1, y2, y3, y4⟩ := hU.re (fun c' i' => if c' = 14 ∧ i' = 60 * s + c then mZ F else 0) (fun c' i' y => by
    have x := nz c' i' y
    show mZ F ≤ (if c' = 14 ∧ i' = 60 * s + c then mZ F else 0) ∧ (if c' = 14 ∧ i' = 60 * s + c then mZ F else 0) < mZ F + 200 ∧ ¬ Al R1 c' i'
    rw [if_pos x]
    refine ⟨by omega, by omega, ?_⟩
    unfold Al
    have x2 : i' / 60 = s := by omega
    have x3 : i' % 60 = c := by omega
    rw [x2, x3, hc]
    omega) (fun c' i' c2 i2 y e => by
    have x := nz c' i' y
    have e : (if c' = 14 ∧ i' = 60 * s + c then mZ F else 0) = (if c2 = 14 ∧ i2 = 60 * s + c then mZ F else 0) := e
    rw [if_pos x] at e
    by_cases x' : c2 = 14 ∧ i2 = 60 * s + c
    · omega
    · rw [if_neg x'] at e; omega)
  have a10 : ad' 10 s = ad 10 s := y3 10 s (alN (by decide) hsF)
  have a11 : ad' 11 s = ad 11 s := y3 11 s (alN (by decide) hsF)
  have a12 : ad' 12 s = ad 12 s := y3 12 s (alN (by decide) hsF)
  have a14 : ad' 14 (60 * s + c) = mZ F := by
    have e : (if (14 : Nat) = 14 ∧ 60 * s + c = 60 * s + c then mZ F else 0) = mZ F := if_pos ⟨rfl, rfl⟩
    have := y2 14 (60 * s + c) (by show (if (14 : Nat) = 14 ∧ 60 * s + c = 60 * s + c then mZ F else 0) ≠ 0; rw [e]; omega)
    exact this.trans e
  have far : ∀ c' i', ¬ (c' = 14 ∧ i' = 60 * s + c) → ad' c' i' < mZ F ∨ mZ F + 200 ≤ ad' c' i' := fun c' i' y => by
    by_cases a : Al R1 c' i'
    · left; exact al_lt y1 a
    · right
      refine y4 c' i' a ?_
      show (if c' = 14 ∧ i' = 60 * s + c then mZ F else 0) = 0
      rw [if_neg y]
  have rel1 := cry_R (R' := rC R1 s c e p b l pr) y1 (by rw [e39]; exact o) (by rw [e39]; exact t1) hc c60 he (by rw [e39]; exact a1) hz a2 a3 a14 far ⟨by omega, by omega⟩ rC_CR
  rw [a10, a11] at rel1
  have crr : CR R1 (rC R1 s c e p b l pr) s c e p b l pr := rC_CR
  have cM := cry_M (M := R) (R1 := R1) (s := s) (c := c) (e := e) (p := p) (b := b) (l := l) (pr := pr) h.sr (by rw [ev_mP h, if_pos a1]) a2 a3 o t3 t2 a4 x2 c10 hF.sr a1.1 ip16 (by rw [cc]; decide) i87 i90 c60 e119 hz
  have c5 : mI (cC F (ad 10 s) (ad 11 s) c p b l pr (mI R1 39 0) (Int32.ofNat (c + 1))) (ad' 14 (60 * s + c)) 5 = -1 := by
    have := hU.hA.1 10 s
    have l10 := al_lt hF (alN (c := 10) (by decide) hsF)
    rw [a14, cC_I, if_neg (by omega), if_pos ⟨rfl, rfl⟩]
  have zC1 := cC_Z (C := F) (S10 := ad 10 s) (S11 := ad 11 s) (c := c) (p := p) (b := b) (l := l) (pr := pr) (t := mI R1 39 0) (v := Int32.ofNat (c + 1))
  have sC1 := cC_S (C := F) (S10 := ad 10 s) (S11 := ad 11 s) (c := c) (p := p) (b := b) (l := l) (pr := pr) (t := mI R1 39 0) (v := Int32.ofNat (c + 1))
  -- the class adds it
  have zl : ∀ c' i', Al R1 c' i' → ad c' i' ≠ mZ F := fun c' i' a => by have := al_lt hF a; omega
  have l10 := zl 10 s (alN (by decide) hsF)
  have l11 := zl 11 s (alN (by decide) hsF)
  have kN : ∀ a, a ≠ mZ F → mK (nw F 1 6) a = mK F a := fun a y => by rw [mK_nw, if_neg y]
  have rN : ∀ a, a ≠ mZ F → mR (nw F 1 6) a = mR F a := fun a y => by funext j; rw [mR_nw, if_neg y]
  have iN : ∀ a, a ≠ mZ F → mI (nw F 1 6) a = mI F a := fun a y => by funext j; rw [mI_nw, if_neg y]
  have kz : mK (nw F 1 6) (mZ F) = (1, 6) := by rw [mK_nw, if_pos rfl]
  have eC := ev_cnew (M := nw F 1 6) (z := mZ F) (p := p) (b := b) (l := l) (pr := pr) (t := mI R1 39 0) kz hz
  have hfin : sI (sR (sI (sI (sI (sI (sI (sI (nw F 1 6) (mZ F) 0 p) (mZ F) 1 b) (mZ F) 2 l) (mZ F) 3 pr) (mZ F) 4 (mI R1 39 0)) (mZ F) 5 (-1)) (ad 11 s) c (some (mZ F))) (ad 10 s) 4 (Int32.ofNat (c + 1)) = cC F (ad 10 s) (ad 11 s) c p b l pr (mI R1 39 0) (Int32.ofNat (c + 1)) := by unfold cC; rfl
  generalize hP : sI (sI (sI (sI (sI (sI (nw F 1 6) (mZ F) 0 p) (mZ F) 1 b) (mZ F) 2 l) (mZ F) 3 pr) (mZ F) 4 (mI R1 39 0)) (mZ F) 5 (-1) = P at eC hfin
  have kP : mK P = mK (nw F 1 6) := by rw [← hP]; rfl
  have rP : mR P = mR (nw F 1 6) := by rw [← hP]; rfl
  have iP : mI P (ad 10 s) = mI F (ad 10 s) := by
    rw [← hP, row_n l10, row_n l10, row_n l10, row_n l10, row_n l10, row_n l10, iN _ l10]
  clear hP
  have eA := ev_addc (M := P) (X := ad 10 s) (S11 := ad 11 s) (z := mZ F) (c := c) (by rw [kP, kN _ l10]; exact shF.2.1) (by rw [iP, hF.ln4 hsF]; exact i87) c60 (by rw [rP, rN _ l10]; exact shF.2.2.1) (by rw [kP, kN _ l11]; exact shF.2.2.2.2.2.1) (by rw [kP]; exact kz)
  rw [hfin] at eA
  have pX : mK P (ad 10 s) = (9, 11) := by rw [kP, kN _ l10]; exact shF.2.1
  have n8 : mK (nw F 1 6) 8 = (11, 18) := by rw [kN _ (by omega)]; exact hF.sc.k8
  have nt : mI (nw F 1 6) 8 16 = mI R1 39 0 := by rw [iN _ (by omega)]; exact hF.l8_16
  clear hfin kP rP iP kz kN rN iN
  generalize cC F (ad 10 s) (ad 11 s) c p b l pr (mI R1 39 0) (Int32.ofNat (c + 1)) = C1 at *
  generalize rC R1 s c e p b l pr = R3 at *
  obtain ⟨f, e0, f2, f3⟩ := ask_hall rel1 0 (by decide) (by decide)
  have exG := ex_fct C1 R3
  have rel2 := rel1.tmp exG ExR.rf
  generalize fct C1 R3 = G at *
  obtain ⟨g, e1, g2, g3⟩ := ask_hall rel2 1 (by decide) (by decide)
  have exH := ex_fct G R3
  generalize fct G R3 = H at *
  have rel3 := rel2.tmp exH ExR.rf
  have r39 : mI R3 39 = mI R1 39 := crr.2.2.2.2.2.2.2.2.2.1 39 (by decide) (by decide) (by decide) (by decide) (by decide) (by decide) (by decide) (by decide) (by decide)
  have hs3 : s < ix (mI R3 39 70) := by rw [r39, e39]; exact hs
  have sh3 := rel3.shn.1 s hs3
  have h14 : mR H 8 14 = some (ad 10 s) := by
    rw [rel3.shn.2.1, r39, e39, o, if_neg (by decide), ← t1, Nat.add_sub_cancel, a10]
  have hX : mK H (ad 10 s) = (9, 11) := by rw [← a10]; exact sh3.2.1
  have f14 : mR F 8 14 = some (ad 10 s) := by rw [exF.2.2.1]; exact t4
  have cH := cry_C (M := C) (F := F) (N := nw F 1 6) (P := P) (Q := C1) (G := G) (H := H) (X := ad 10 s) (z := mZ F) (a := ad 1 (ix p)) (p := p) (b := b) (l := l) (pr := pr) (t := mI R1 39 0) (c := Int32.ofNat c) (f := f) (g := g) (r12 := r12) h.sc.k8 t4 (by rw [ev_isP h, if_pos a1]) a2 a3 sh.2.1 (by rw [h.ln4 hs]; have x := (h.ise.1 s t2).1; clear cM eC eA; grind) q1 c10 hF.sc.k8 hF.sc.r8_1 hF.sc.k16 a1.1 ip16 shp.1 shp.2.1 (by rw [hF.lp6 (by rw [e39]; exact ip)]; exact cc) f14 rfl n8 nt rfl eC pX eA rel1.sc.k8 e0 rel2.sc.k8 e1 rel3.sc.k8 h14 hX
  obtain ⟨R4, u1, u2⟩ := f3 R3 ExR.rf
  have rel4 := rel3.tmp ExC.rf u1
  obtain ⟨R5, u3, u4⟩ := g3 R4 u1
  have rel5 := rel3.tmp ExC.rf u3
  rw [cH, cM, u2, bd_s]
  by_cases w1 : pr < f
  · rw [if_neg (fun z => by clear cM cH eC eA; grind), if_pos w1]
    exact ⟨_, _, _, ad', rfl, rfl, rel4⟩
  · rw [if_neg w1, kO_t rel4.sr.k39, ck_t, u4, bd_s]
    by_cases w2 : pr ≤ g
    · rw [if_pos ⟨by clear cM cH eC eA; grind, w2⟩, if_pos w2, kO_t rel5.sr.k39, ck_t, rel5.sr.r39_100, nn_s]
      have C0 : (0 : Int32) ≤ Int32.ofNat c := of_nn _ (by omega)
      have Cx : ix (Int32.ofNat c) = c := ix_of _ (by omega)
      rw [kA_t rel5.sr.k109 C0 (show ix (Int32.ofNat c) < 60 by omega), ck_t, Cx]
      have v39 : mI R5 39 = mI R 39 := by rw [u3.1 39 (by unfold tR; omega), r39, e39]
      have v87 : mI R5 87 s = Int32.ofNat (c + 1) := by rw [u3.1 87 (by unfold tR; omega), crr.2.2.2.2.2.2.2.1, if_pos rfl]
      have v109 : mI R5 109 = mI R1 109 := by
        rw [u3.1 109 (by unfold tR; omega)]
        funext j
        rw [crr.2.2.2.2.2.2.2.2.1]
        split
        · rename_i y; rw [y, so.2.2.2.1 c (Nat.le_refl _) c60]
        · rfl
      have v88 : mI R5 88 = mI R1 88 := by rw [u3.1 88 (by unfold tR; omega), crr.2.2.2.2.2.2.2.2.2.1 88 (by decide) (by decide) (by decide) (by decide) (by decide) (by decide) (by decide) (by decide) (by decide)]
      have v92 : mI R5 92 (60 * s + c) = p := by rw [u3.1 92 (by unfold tR; omega), crr.1, if_pos rfl]
      have v97 : mI R5 97 (60 * s + c) = b := by rw [u3.1 97 (by unfold tR; omega), crr.2.1, if_pos rfl]
      have v93 : mI R5 93 (60 * s + c) = l := by rw [u3.1 93 (by unfold tR; omega), crr.2.2.1, if_pos rfl]
      have v95 : mI R5 95 (60 * s + c) = mI R5 39 0 := by rw [v39, u3.1 95 (by unfold tR; omega), crr.2.2.2.2.1, if_pos rfl, e39]
      have x87 : ix (mI R5 87 s) = c + 1 := by rw [v87, ix_of _ (by omega)]
      have hs5 : s < ix (mI R5 39 70) := by rw [v39]; exact hs
      have sh5 := rel5.shn.1 s hs5
      have b5 : mI H (ad' 14 (60 * s + c)) 5 = -1 := by rw [exH.atA rel1.hA, exG.atA rel1.hA]; exact c5
      have rel6 := stand_R (l := l) (c := c) rel5 (by rw [v39]; exact o) (by rw [v39]; exact t1) x87.symm a2 (by rw [v109]; exact so.2.2.2.1 c (Nat.le_refl _) c60) b5 (by rw [v109, v88, x87]; have := so.2.2.2.2; omega)
      have sc5 := sh5.2.2.2.2.2.2.2.2.1 c (by omega)
      have em : Session_meet H (ad 10 s) (Int32.ofNat c) = Session_meet_L30 fu (ad 10 s) (Int32.ofNat c) 0 (sI H (ad' 12 s) c l) := by
        rw [a10] at sh5
        have i4 : mI H (ad 10 s) 4 = Int32.ofNat (c + 1) := by rw [← a10, rel5.ln4 hs5]; exact v87
        have i2 : mI H (ad' 14 (60 * s + c)) 2 = l := by rw [rel5.lc2 hs5 (by omega)]; exact v93
        unfold Session_meet
        simp only [if_neg (show ¬ Int32.ofNat c < 0 by clear cM cH eC eA; grind), kO_t hX, ck_t, i4, if_pos ((of_lt c (c + 1) (by omega) (by omega)).mpr (by omega)), sh5.2.2.2.1, sh5.2.2.1, nn_s, kA_t sh5.2.2.2.2.2.1 C0 (show ix (Int32.ofNat c) < 60 by omega), Cx, sc5.1, kO_t sc5.2, kA_t sh5.2.2.2.2.2.2.1 C0 (show ix (Int32.ofNat c) < 60 by omega), i2]
      rw [em]
      have g6 : ∀ a, a ≠ 109 → mI (sI R5 109 c l) a = mI R5 a := fun a y => row_n y
      have n109 : mI (sI R5 109 c l) 109 c = l := by rw [mI_sI, if_pos ⟨rfl, rfl⟩]
      have z6 : mZ (sI H (ad' 12 s) c l) = mZ F + 1 := by rw [mZ_sI, exH.2.2.2.2.1, exG.2.2.2.2.1, zC1]
      have s6 : mS (sI H (ad' 12 s) c l) = mS F + 6 := by rw [mS_sI, exH.2.2.2.2.2, exG.2.2.2.2.2, sC1]
      clear em
      generalize sI H (ad' 12 s) c l = C6 at *
      generalize sI R5 109 c l = R6 at *
      have k39 := g6 39 (by decide)
      have k87 := g6 87 (by decide)
      have hs6 : s < ix (mI R6 39 70) := by rw [k39]; exact hs5
      have o6 : mI R6 39 73 = 1 := by rw [k39, v39]; exact o
      have t6 : s + 1 = ix (mI R6 39 70) := by rw [k39, v39]; exact t1
      have x6 : c + 1 = ix (mI R6 87 s) := by rw [k87]; exact x87.symm
      have st6 := rel6.son.2 o6
      have so6 := rel6.ison o6
      rw [← t6, Nat.add_sub_cancel] at st6 so6
      obtain ⟨r, r1, r2, -⟩ := ev_part rel6 hs6 (show c < ix (mI R6 87 s) by omega) (rel6.shn.1 s hs6).2.2.2.2.2.2.1 (fun j hj => ⟨st6 j (by omega), (so6.2.2.1 j (by omega)).1⟩)
      rw [r2, bd_s]
      have q60 := (n60 rel6 t2).2.1
      have l0 : l ≠ 0 := by have := a2.1; clear cM cH eC eA; grind
      obtain ⟨C7, R7, ad7, v1, v2, v3⟩ := lp_meet (s := s) (c := c) (p := p) (b := b) (60 - ix (mI R6 88 s)) fu fu 0 (ix (mI R6 88 s)) (k + 1) ad' C6 R6 r (ad 10 s) rel6 o6 t6 a10 x6 rfl (by omega) (by omega) (by omega) (by omega) (fu_g (by omega)) (fu_g (by omega)) (by rw [g6 92 (by decide)]; exact v92) (by rw [g6 97 (by decide)]; exact v97) (by rw [g6 95 (by decide), k39]; exact v95) (fun y => absurd (n109.symm.trans y) l0) (fun _ => r2)
      have v1 : Session_meet_L30 fu (ad 10 s) (Int32.ofNat c) 0 C6 = some ((), C7) := v1
      rw [v1, bd_s, v2]
      exact ⟨_, _, _, ad7, rfl, rfl, v3⟩
    · rw [if_neg (fun z => w2 z.2), if_neg w2]
      exact ⟨_, _, _, ad', rfl, rfl, rel5⟩
theorem sim_cry (h : Rel k ad C R) (hk : k < 512) (p b l pr : Int32) (hz : b = 0 ∨ b = 1) : Sim k (Hall_cry C 8 p b l pr) (Mod_cry R 39 p b l pr) := by
  rcases h.isc.on with o | o
  · have e1 : Hall_cry C 8 p b l pr = some (-1, C) := by
      unfold Hall_cry
      simp only [h.o8, ck_t, h.shn.2.1, if_pos o, nl_n]
    have e2 : Mod_cry R 39 p b l pr = some (-1, R) := by
      unfold Mod_cry
      simp only [h.o39, ck_t, ev_mP h, bd_s, ev_in, o, if_true]
      repeat' split
      all_goals rfl
    exact Sim.same h hk e1 e2
  · obtain ⟨s, t1, t2, t3, t4⟩ := on_s h o
    have hs : s < ix (mI R 39 70) := by omega
    have sh := h.shn.1 s hs
    have S0 : (0 : Int32) ≤ Int32.ofNat s := of_nn _ (by omega)
    have S1 : ix (Int32.ofNat s) = s := ix_of _ (by omega)
    by_cases a1 : 0 ≤ p ∧ p < mI R 39 9
    · by_cases a2 : 1 ≤ l ∧ l ≤ 50
      · by_cases a3 : 1 ≤ pr ∧ pr ≤ 9999
        · by_cases a4 : mI R 87 s = 60
          · have e1 : Hall_cry C 8 p b l pr = some (-1, C) := by
              unfold Hall_cry
              simp only [h.o8, ck_t, t4, nl_s, ev_isP h, if_pos a1, bd_s, i10, if_false, ev_within, if_pos a2, if_pos a3, nn_s, kO_t sh.2.1, h.ln4 hs, a4, if_neg (show ¬ (60 : Int32) < 60 by decide)]
            have e2 : Mod_cry R 39 p b l pr = some (-1, R) := by
              unfold Mod_cry
              simp only [h.o39, ck_t, ev_mP h, if_pos a1, bd_s, i10, if_false, ev_in, if_pos a2, if_pos a3, o, h.sr.r39_78, nn_s, t3, kA_t h.sr.k87 S0 (show ix (Int32.ofNat s) < 24 by omega), S1, if_pos a4]
            exact Sim.same h hk e1 e2
          · obtain ⟨r12, q1, -, q3⟩ := ask_hall h 10 (by decide) (by decide)
            obtain ⟨R1, x1, x2⟩ := q3 R ExR.rf
            have exF := ex_fct C R
            have hF := h.tmp exF x1
            generalize fct C R = F at *
            have e39 : mI R1 39 = mI R 39 := x1.1 39 (by unfold tR; omega)
            have ip : ix p < ix (mI R 39 9) := ix_mo a1.1 a1.2
            have p16 := h.isc.persons
            have ip16 : ix p < 16 := by
              have : ix (mI R 39 9) ≤ 16 := by (clear sh hF h; grind [ix_t])
              omega
            have lt60 : mI R 87 s < 60 := by have x := (h.ise.1 s t2).1; clear sh hF h; grind
            by_cases c10 : r12 = 1
            · have e1 : Hall_cry C 8 p b l pr = some (-2, F) := by
                unfold Hall_cry
                simp only [h.o8, ck_t, t4, nl_s, ev_isP h, if_pos a1, bd_s, i10, if_false, ev_within, if_pos a2, if_pos a3, nn_s, kO_t sh.2.1, h.ln4 hs, if_pos lt60, q1, if_pos c10]
              have e2 : Mod_cry R 39 p b l pr = some (-2, R1) := by
                unfold Mod_cry
                simp only [h.o39, ck_t, ev_mP h, if_pos a1, bd_s, i10, if_false, ev_in, if_pos a2, if_pos a3, o, h.sr.r39_78, nn_s, t3, kA_t h.sr.k87 S0 (show ix (Int32.ofNat s) < 24 by omega), S1, if_neg a4, x2, if_pos c10]
              exact ⟨_, _, _, ad, e1, e2, hF.up hk⟩
            · by_cases cc : mI R1 49 (ix p) = -1
              · exact cry_go h hk hz o t1 t2 t3 t4 a1 a2 a3 a4 q1 x2 x1 exF hF c10 cc
              · have shp := hF.shp (ix p) (by rw [e39]; exact ip)
                have i6 : mI F (ad 1 (ix p)) 6 = mI R1 49 (ix p) := hF.lp6 (by rw [e39]; exact ip)
                have bnd := (hF.ipe.1 (ix p) ip16).2.1
                have nl0 : ¬ mI R1 49 (ix p) < 0 := by clear sh hF h; grind
                have e1 : Hall_cry C 8 p b l pr = some (-4, F) := by
                  unfold Hall_cry
                  simp only [h.o8, ck_t, t4, nl_s, ev_isP h, if_pos a1, bd_s, i10, if_false, ev_within, if_pos a2, if_pos a3, nn_s, kO_t sh.2.1, h.ln4 hs, if_pos lt60, q1, if_neg c10, hF.o8, hF.sc.r8_1, kA_t hF.sc.k16 a1.1 ip16, shp.1, kO_t shp.2.1, i6, if_neg cc]
                have e2 : Mod_cry R 39 p b l pr = some (-4, R1) := by
                  unfold Mod_cry
                  simp only [h.o39, ck_t, ev_mP h, if_pos a1, bd_s, i10, if_false, ev_in, if_pos a2, if_pos a3, o, h.sr.r39_78, nn_s, t3, kA_t h.sr.k87 S0 (show ix (Int32.ofNat s) < 24 by omega), S1, if_neg a4, x2, if_neg c10, hF.o39, hF.sr.r39_13, kA_t hF.sr.k49 a1.1 ip16, if_neg nl0]
                exact ⟨_, _, _, ad, e1, e2, hF.up hk⟩
        · have e1 : Hall_cry C 8 p b l pr = some (-1, C) := by
            unfold Hall_cry
            simp only [h.o8, ck_t, t4, nl_s, ev_isP h, if_pos a1, bd_s, i10, if_false, ev_within, if_pos a2, if_neg a3, if_true]
          have e2 : Mod_cry R 39 p b l pr = some (-1, R) := by
            unfold Mod_cry
            simp only [h.o39, ck_t, ev_mP h, if_pos a1, bd_s, i10, if_false, ev_in, if_pos a2, if_neg a3, if_true]
          exact Sim.same h hk e1 e2
      · have e1 : Hall_cry C 8 p b l pr = some (-1, C) := by
          unfold Hall_cry
          simp only [h.o8, ck_t, t4, nl_s, ev_isP h, if_pos a1, bd_s, i10, if_false, ev_within, if_neg a2, if_true]
        have e2 : Mod_cry R 39 p b l pr = some (-1, R) := by
          unfold Mod_cry
          simp only [h.o39, ck_t, ev_mP h, if_pos a1, bd_s, i10, if_false, ev_in, if_neg a2, if_true]
        exact Sim.same h hk e1 e2
    · have e1 : Hall_cry C 8 p b l pr = some (-1, C) := by
        unfold Hall_cry
        simp only [h.o8, ck_t, t4, nl_s, ev_isP h, if_neg a1, bd_s, if_true]
      have e2 : Mod_cry R 39 p b l pr = some (-1, R) := by
        unfold Mod_cry
        simp only [h.o39, ck_t, ev_mP h, if_neg a1, bd_s, if_true]
      exact Sim.same h hk e1 e2
end Y8
