section Z6
variable {k : Nat} {ad : Nat → Nat → Nat} {C R R' C' : Mm}
theorem sI_cm {M : Mm} {a b i j : Nat} {v w : Int32} (h : a ≠ b) : sI (sI M a i v) b j w = sI (sI M b j w) a i v := by
  unfold sI
  congr 1
  funext x y
  show (if x = b ∧ y = j then w else if x = a ∧ y = i then v else mI M x y) = (if x = a ∧ y = i then v else if x = b ∧ y = j then w else mI M x y)
  by_cases c1 : x = b ∧ y = j
  · rw [if_pos c1, if_neg (fun z => h (z.1.symm.trans c1.1)), if_pos c1]
  · rw [if_neg c1, if_neg c1]
/-- the reference's rows that clearing leaves alone -/
def RS2 (R R' : Mm) : Prop := (∀ j, j ≠ 21 → mI R' 39 j = mI R 39 j) ∧ (∀ a, a ≠ 39 → a ≠ 47 → a ≠ 49 → a ≠ 50 → a ≠ 51 → ¬ tR a → mI R' a = mI R a)
theorem RS2.rf : RS2 R R := ⟨fun _ _ => rfl, fun _ _ _ _ _ _ _ => rfl⟩
theorem RS2.tr {R2 : Mm} (h : RS2 R R') (h2 : RS2 R' R2) : RS2 R R2 := ⟨fun j q => (h2.1 j q).trans (h.1 j q), fun a q1 q2 q3 q4 q5 q6 => (h2.2 a q1 q2 q3 q4 q5 q6).trans (h.2 a q1 q2 q3 q4 q5 q6)⟩
theorem RS2.ex (h : ExR R R') : RS2 R R' := ⟨fun j _ => by rw [h.1 39 (by unfold tR; omega)], fun a _ _ _ _ _ q => h.1 a q⟩
theorem RS2.s (h : RS2 R R') {a j : Nat} {v : Int32} (q : a = 47 ∨ a = 49 ∨ a = 50 ∨ a = 51) : RS2 R (sI R' a j v) := ⟨fun i w => by rw [row_n (by omega)]; exact h.1 i w, fun b q1 q2 q3 q4 q5 q6 => by rw [row_n (by omega)]; exact h.2 b q1 q2 q3 q4 q5 q6⟩
theorem RS2.h (h : RS2 R R') {v : Int32} : RS2 R (sI R' 39 21 v) := ⟨fun i w => by rw [mI_sI, if_neg (fun z => w z.2)]; exact h.1 i w, fun b q1 q2 q3 q4 q5 q6 => by rw [row_n q1]; exact h.2 b q1 q2 q3 q4 q5 q6⟩
theorem RS2.l (h : RS2 R R') {a j : Nat} {v : Int64} : RS2 R (sL R' a j v) := h
theorem RS2.same (h : RS2 R R') (nm : Nat) : kn R' nm = kn R nm := by
  have e : outR R' = outR R := by
    funext s
    unfold outR
    rw [h.2 55 (by decide) (by decide) (by decide) (by decide) (by decide) (by unfold tR; omega), h.2 56 (by decide) (by decide) (by decide) (by decide) (by decide) (by unfold tR; omega), h.2 57 (by decide) (by decide) (by decide) (by decide) (by decide) (by unfold tR; omega)]
  unfold kn lcl
  rw [e, h.1 0 (by decide), h.1 1 (by decide), h.1 71 (by decide), h.1 22 (by decide), h.2 91 (by decide) (by decide) (by decide) (by decide) (by decide) (by unfold tR; omega), h.2 54 (by decide) (by decide) (by decide) (by decide) (by decide) (by unfold tR; omega)]
theorem Fok.ag (hf : Fok C R) (k29 : mK C 29 = (20, 7)) (a : AG C C') (b : RS2 R R') : Fok C' R' := fun nm hn => by
  rw [a.2.2 29 (by rw [k29]; decide), b.same]
  exact hf nm hn
theorem AG.p (h : Rel k ad C R) (a : AG C C') {i j : Nat} {v : Int32} (hi : i < ix (mI R 39 9)) : AG C (sI C' (ad 1 i) j v) := a.s (by rw [(h.shp i hi).2.1]; decide)
theorem AG.hs (h : Rel k ad C R) (a : AG C C') {j : Nat} {v : Int32} : AG C (sI C' 30 j v) := a.s (by rw [h.sc.k30]; decide)
theorem marg1 (h : Rel k ad C R) {p : Nat} (hp : p < ix (mI R 39 9)) {mg g : Int32} {R1 : Mm} (hx : ExR R R1) (hm : Mod_asked R 39 2 = some (mg, R1)) (bH : -(2300000 * (mI R 39 71).toInt - 142560) ≤ (mI R 39 21).toInt ∧ (mI R 39 21).toInt ≤ 2300000 * (mI R 39 71).toInt - 142560) (bF : -(2000000000000 * (mI R 39 71).toInt - 50000000000) ≤ (mL R 39 18).toInt ∧ (mL R 39 18).toInt ≤ 2000000000000 * (mI R 39 71).toInt - 50000000000) : ∃ C' R', (∀ K : Nat → Nat → Int32 → Int32 → Int32 → Int32 → Int32 → Mm → Option (Unit × Mm), House_callMargins_B3 K 30 16 (mI R 39 9) mg g (mI R 39 0) (Int32.ofNat p) C = K 30 16 (mI R 39 9) mg g (mI R 39 0) (Int32.ofNat (p + 1)) C') ∧ Mod_margin R 39 (Int32.ofNat p) g = some ((), R') ∧ Rel k ad C' R' ∧ AG C C' ∧ RS2 R R' ∧ (-142560 ≤ (mI R' 39 21).toInt - (mI R 39 21).toInt ∧ (mI R' 39 21).toInt - (mI R 39 21).toInt ≤ 142560) ∧ (-50000000000 ≤ (mL R' 39 18).toInt - (mL R 39 18).toInt ∧ (mL R' 39 18).toInt - (mL R 39 18).toInt ≤ 50000000000) := by
  have h16 := p16 h
  have P0 : (0 : Int32) ≤ Int32.ofNat p := of_nn _ (by omega)
  have P1 : ix (Int32.ofNat p) = p := ix_of _ (by omega)
  have Plt : ix (Int32.ofNat p) < 16 := by omega
  have cl := h.isc.closes
  rw [I_le, I_le, i0T, show (24 : Int32).toInt = 24 from rfl] at cl
  have hk := h.ipe.2.2.2.2.2
  have e9 : mI R 39 9 = Int32.ofNat (ix (mI R 39 9)) := (of_ix _ h.isc.persons.1).symm
  have plt : Int32.ofNat p < mI R 39 9 := by rw [e9]; exact (of_lt p _ (by omega) (by omega)).mpr hp
  have nle : ¬ mI R 39 9 ≤ Int32.ofNat p := by rw [I_le]; rw [I_lt] at plt; omega
  have sp := h.shp p hp
  have h1 := h.tmp ExC.rf hx
  have f39 : mI R1 39 = mI R 39 := hx.1 39 (by unfold tR; omega)
  have f47 : mI R1 47 = mI R 47 := hx.1 47 (by unfold tR; omega)
  have f49 : mI R1 49 = mI R 49 := hx.1 49 (by unfold tR; omega)
  have f50 : mI R1 50 = mI R 50 := hx.1 50 (by unfold tR; omega)
  have f51 : mI R1 51 = mI R 51 := hx.1 51 (by unfold tR; omega)
  have l52 : mL R1 52 = mL R 52 := hx.2.1 52 (by decide) (by decide)
  have l39 : mL R1 39 = mL R 39 := hx.2.1 39 (by decide) (by decide)
  have hp1 : p < ix (mI R1 39 9) := by rw [f39]; exact hp
  have en := ev_need h hp mg
  have em := ev_mneed (p := Int32.ofNat p) h ⟨P0, plt⟩ hx hm
  rw [P1] at em
  have bc := (h.ipe.1 p (by omega)).2.1
  have nb := h.isc.now
  have bp := h.okp (show p < 16 by omega)
  unfold okP at bp
  have bl := h.okl (show p < 16 by omega)
  unfold okL at bl
  have base : ∀ K : Nat → Nat → Int32 → Int32 → Int32 → Int32 → Int32 → Mm → Option (Unit × Mm), House_callMargins_B3 K 30 16 (mI R 39 9) mg g (mI R 39 0) (Int32.ofNat p) C = (if mL R 52 p < needR mg R p then (if mI R 49 p = -1 then K 30 16 (mI R 39 9) mg g (mI R 39 0) (Int32.ofNat (p + 1)) (sI C (ad 1 p) 6 (mI R 39 0)) else if mI R 39 0 - mI R 49 p < g then K 30 16 (mI R 39 9) mg g (mI R 39 0) (Int32.ofNat (p + 1)) C else bd (House_closeOut C 30 (ad 1 p)) (fun _ M10 => K 30 16 (mI R 39 9) mg g (mI R 39 0) (Int32.ofNat (p + 1)) M10)) else K 30 16 (mI R 39 9) mg g (mI R 39 0) (Int32.ofNat (p + 1)) (sI C (ad 1 p) 6 (-1))) := fun K => by
    unfold House_callMargins_B3 House_callMargins_J77
    simp only [if_neg nle, kA_t h.sc.k16 P0 Plt, ck_t, P1, sp.1, nn_s, kO_t sp.2.1, en, bd_s, h.llp3 hp, h.lp6 hp, h.o30, of_s1 p (by omega)]
  have mbase : Mod_margin R 39 (Int32.ofNat p) g = (if mL R 52 p < needR mg R p then (if 0 ≤ mI R 49 p then (if g ≤ mI R 39 0 - mI R 49 p then (if mL R 52 p < 0 then some ((), sI (sL (sL (sI (sI (sI (sI R1 39 21 (mI R 39 21 + mI R 47 p)) 47 p 0) 50 p (mI R 50 p + 1)) 49 p (-1)) 39 18 (mL R 39 18 + mL R 52 p)) 52 p 0) 51 p (mI R 51 p + 1)) else some ((), sI (sI (sI (sI R1 39 21 (mI R 39 21 + mI R 47 p)) 47 p 0) 50 p (mI R 50 p + 1)) 49 p (-1))) else some ((), R1)) else some ((), sI R1 49 p (mI R 39 0))) else some ((), sI R1 49 p (-1))) := by
    unfold Mod_margin
    simp only [h.o39, ck_t, h.sr.r39_16, nn_s, kA_t h.sr.k52 P0 Plt, P1, em, bd_s, h1.o39, h1.sr.r39_13, kA_t h1.sr.k49 P0 Plt, f49, f39, h1.sr.r39_11, kA_t h1.sr.k47 P0 Plt, f47, mR_sI, kA_sI, kO_sI, h1.sr.r39_14, kA_t h1.sr.k50 P0 Plt, row_n (show 50 ≠ 47 by decide), row_n (show 50 ≠ 39 by decide), f50, h1.sr.r39_16, kA_t h1.sr.k52 P0 Plt, mL_sI, l52, l39, mR_sL, kA_sL, kO_sL, h1.sr.r39_15, kA_t h1.sr.k51 P0 Plt, mI_sL, row_n (show 51 ≠ 49 by decide), row_n (show 51 ≠ 50 by decide), row_n (show 51 ≠ 47 by decide), row_n (show 51 ≠ 39 by decide), f51]
  have same21 : ∀ {R2 : Mm}, mI R2 39 21 = mI R 39 21 → mL R2 39 18 = mL R 39 18 → (-142560 ≤ (mI R2 39 21).toInt - (mI R 39 21).toInt ∧ (mI R2 39 21).toInt - (mI R 39 21).toInt ≤ 142560) ∧ (-50000000000 ≤ (mL R2 39 18).toInt - (mL R 39 18).toInt ∧ (mL R2 39 18).toInt - (mL R 39 18).toInt ≤ 50000000000) := fun a b => by rw [a, b]; omega
  have x1 : RS2 R R1 := RS2.ex hx
  by_cases c1 : mL R 52 p < needR mg R p
  · simp only [if_pos c1] at base mbase
    by_cases c2 : mI R 49 p = -1
    · simp only [if_pos c2] at base
      rw [if_neg (by rw [c2]; decide)] at mbase
      refine ⟨_, _, base, mbase, h1.wCal hp1 ⟨by clear h h1 base mbase; grind, by rw [f39]; clear h h1 base mbase; grind⟩, AG.p h AG.rf hp, x1.s (by omega), same21 (by rw [row_n (by decide), f39]) (by rw [mL_sI, l39])⟩
    · simp only [if_neg c2] at base
      have c3 : 0 ≤ mI R 49 p := by clear h h1 base mbase; grind
      rw [if_pos c3] at mbase
      by_cases c4 : mI R 39 0 - mI R 49 p < g
      · simp only [if_pos c4] at base
        rw [if_neg (by clear h h1 base mbase; grind)] at mbase
        exact ⟨_, _, base, mbase, h1, AG.rf, x1, same21 (by rw [f39]) (by rw [l39])⟩
      · simp only [if_neg c4] at base
        rw [if_pos (by clear h h1 base mbase; grind)] at mbase
        -- closed out
        have e21 : (mI R 39 21 + mI R 47 p).toInt = (mI R 39 21).toInt + (mI R 47 p).toInt := I_add _ _ (by omega) (by omega) (by omega) (by omega)
        have s1 := h1.wHp (v := mI R 39 21 + mI R 47 p) (by rw [f39, e21]; omega)
        have s2 := s1.wPos (i := p) hp1 (v := 0) (by unfold okP; rw [show (0 : Int32).toInt = 0 from rfl]; show -(5940 * (mI R1 39 71).toInt) ≤ 0 ∧ 0 ≤ 5940 * (mI R1 39 71).toInt; rw [f39]; omega)
        have s3 := s2.wCal (i := p) hp1 (v := -1) ⟨by decide, by show (-1 : Int32) ≤ mI R1 39 0; rw [f39]; clear h h1 base mbase s1 s2; grind⟩
        have s4 := s3.wClo (i := p) hp1 (v := mI R 50 p + 1)
        rw [sI_cm (M := sI (sI R1 39 21 (mI R 39 21 + mI R 47 p)) 47 p 0) (show 49 ≠ 50 by decide)] at s4
        have ae : AG C (sI (sI (sI (sI C 30 3 (mI R 39 21 + mI R 47 p)) (ad 1 p) 4 0) (ad 1 p) 6 (-1)) (ad 1 p) 7 (mI R 50 p + 1)) := AG.p h (AG.p h (AG.p h (AG.hs h AG.rf) hp) hp) hp
        have xe : RS2 R (sI (sI (sI (sI R1 39 21 (mI R 39 21 + mI R 47 p)) 47 p 0) 50 p (mI R 50 p + 1)) 49 p (-1)) := ((x1.h.s (by omega)).s (by omega)).s (by omega)
        have n30 : ad 1 p ≠ 30 := by have := h.hA.1 1 p; omega
        have g4 : ∀ v, mI (sI C 30 3 v) (ad 1 p) = mI C (ad 1 p) := fun v => row_n n30
        have i7 : ∀ v, mI (sI (sI (sI C 30 3 v) (ad 1 p) 4 0) (ad 1 p) 6 (-1)) (ad 1 p) 7 = mI R 50 p := fun v => by
          rw [mI_sI, if_neg (by omega), mI_sI, if_neg (by omega), g4]; exact h.lp7 hp
        have i8 : ∀ v w, mI (sI (sI (sI (sI C 30 3 v) (ad 1 p) 4 0) (ad 1 p) 6 (-1)) (ad 1 p) 7 w) (ad 1 p) 8 = mI R 51 p := fun v w => by
          rw [mI_sI, if_neg (by omega), mI_sI, if_neg (by omega), mI_sI, if_neg (by omega), g4]; exact h.lp8 hp
        have co : House_closeOut C 30 (ad 1 p) = (if 0 ≤ mL R 52 p then some ((), sI (sI (sI (sI C 30 3 (mI R 39 21 + mI R 47 p)) (ad 1 p) 4 0) (ad 1 p) 6 (-1)) (ad 1 p) 7 (mI R 50 p + 1)) else some ((), sI (sL (sL (sI (sI (sI (sI C 30 3 (mI R 39 21 + mI R 47 p)) (ad 1 p) 4 0) (ad 1 p) 6 (-1)) (ad 1 p) 7 (mI R 50 p + 1)) 30 4 (mL R 39 18 + mL R 52 p)) (ad 1 p) 3 0) (ad 1 p) 8 (mI R 51 p + 1))) := by
          unfold House_closeOut
          simp only [h.o30, ck_t, kO_t sp.2.1, h.l30_3, h.lp4 hp, i7, mL_sI, h.llp3 hp, h.ll30_4, mI_sL, i8]
        have d21 : mI (sI (sI (sI (sI R1 39 21 (mI R 39 21 + mI R 47 p)) 47 p 0) 50 p (mI R 50 p + 1)) 49 p (-1)) 39 21 = mI R 39 21 + mI R 47 p := by
          rw [row_n (show 39 ≠ 49 by decide), row_n (show 39 ≠ 50 by decide), row_n (show 39 ≠ 47 by decide), mI_sI, if_pos ⟨rfl, rfl⟩]
        have bb : ∀ {R2 : Mm}, mI R2 39 21 = mI R 39 21 + mI R 47 p → (-142560 ≤ (mI R2 39 21).toInt - (mI R 39 21).toInt ∧ (mI R2 39 21).toInt - (mI R 39 21).toInt ≤ 142560) := fun a => by rw [a, e21]; omega
        have z0 : (0 : Int64).toInt = 0 := rfl
        by_cases c5 : mL R 52 p < 0
        · rw [if_pos c5] at mbase
          rw [if_neg (by rw [L_le, z0]; rw [L_lt, z0] at c5; omega)] at co
          rw [L_lt, z0] at c5
          have e18 : (mL R 39 18 + mL R 52 p).toInt = (mL R 39 18).toInt + (mL R 52 p).toInt := L_add _ _ (by omega) (by omega) (by omega) (by omega)
          generalize hA4 : sI (sI (sI (sI C 30 3 (mI R 39 21 + mI R 47 p)) (ad 1 p) 4 0) (ad 1 p) 6 (-1)) (ad 1 p) 7 (mI R 50 p + 1) = C4 at *
          generalize hR4 : sI (sI (sI (sI R1 39 21 (mI R 39 21 + mI R 47 p)) 47 p 0) 50 p (mI R 50 p + 1)) 49 p (-1) = R4 at *
          have f71 : mI R4 39 71 = mI R 39 71 := xe.1 71 (by decide)
          have f9 : mI R4 39 9 = mI R 39 9 := xe.1 9 (by decide)
          have hp4 : p < ix (mI R4 39 9) := by rw [f9]; exact hp
          have s5 := s4.wFu (v := mL R 39 18 + mL R 52 p) (by rw [f71, e18]; omega)
          have s6 := s5.wL (i := p) hp4 (v := 0) (by unfold okL; rw [z0]; show -(2000000000 * (mI R4 39 71).toInt + 100000 * (k : Int)) ≤ 0 ∧ 0 ≤ 2000000000 * (mI R4 39 71).toInt + 100000 * (k : Int); rw [f71]; omega)
          have s7 := s6.wFai (i := p) hp4 (v := mI R 51 p + 1)
          refine ⟨_, _, fun K => ?_, mbase, s7, AG.p h ((ae.l).l) hp, (xe.l.l).s (by omega), bb (by rw [row_n (show 39 ≠ 51 by decide), mI_sL, mI_sL]; exact d21), ?_⟩
          · rw [base, co]; rfl
          · rw [mL_sI, mL_sL, if_neg (by omega), mL_sL, if_pos ⟨rfl, rfl⟩, e18]
            omega
        · rw [if_neg c5] at mbase
          rw [if_pos (by rw [L_le, z0]; rw [L_lt, z0] at c5; omega)] at co
          refine ⟨_, _, fun K => ?_, mbase, s4, ae, xe, bb d21, ?_⟩
          · rw [base, co]; rfl
          · rw [mL_sI, mL_sI, mL_sI, mL_sI, l39]; omega
  · simp only [if_neg c1] at base mbase
    exact ⟨_, _, base, mbase, h1.wCal hp1 ⟨by decide, by rw [f39]; clear h h1 base mbase; grind⟩, AG.p h AG.rf hp, x1.s (by omega), same21 (by rw [row_n (by decide), f39]) (by rw [mL_sI, l39])⟩
end Z6
