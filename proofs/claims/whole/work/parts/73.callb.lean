section S7
variable {k : Nat} {ad : Nat → Nat → Nat} {C R : Mm}
theorem sim_call (h : Rel k ad C R) (hk : k < 512) (p s n : Int32) : Sim k (Hall_call C 8 p s n) (Mod_call R 39 p s n) := by
  unfold Hall_call Mod_call
  have s1 : ∀ r : Int32, Sim k (some (r, C)) (some (r, R)) := fun r => ⟨_, _, _, ad, rfl, rfl, h.up hk⟩
  have h4 := sto4 h
  have hp := p16 h
  have hP := h.isc.persons
  have hS := h.isc.stores
  have hW := h.isc.waits
  simp only [h.o8, h.o39, ck_t, ev_mP h, ev_mS h, ev_holds h, bd_s, h.l8_6]
  by_cases h1 : 0 ≤ p ∧ p < mI R 39 9
  · by_cases h2 : 0 ≤ s ∧ s < mI R 39 22
    · have hs := ix_mo h2.1 h2.2
      have hi := ix_mo h1.1 h1.2
      have s4 : ix s < 4 := by omega
      have es : Int32.ofNat (ix s) = s := of_ix _ h2.1
      have sp := h.shp (ix p) hi
      have sh := h.shs (ix s) hs
      obtain ⟨e1, e2⟩ := ix_m4 p s h1.1 (by grind) h2.1 (by grind)
      simp only [if_pos h1, if_pos h2, i10, if_false, h.o39, ck_t, h.sr.r39_17, nn_s, kA_t h.sr.k53 e2 (show ix (4 * p + s) < 64 by omega), e1]
      by_cases c1 : n < 1
      · rw [if_neg (show ¬ ((0 ≤ p ∧ p < mI R 39 9) ∧ (0 ≤ s ∧ s < mI R 39 22) ∧ 1 ≤ n ∧ n ≤ mI R 53 (4 * ix p + ix s)) from fun q => by have := q.2.2.1; grind), if_pos rfl, if_pos c1]
        exact s1 _
      · by_cases c2 : mI R 53 (4 * ix p + ix s) < n
        · rw [if_neg (show ¬ ((0 ≤ p ∧ p < mI R 39 9) ∧ (0 ≤ s ∧ s < mI R 39 22) ∧ 1 ≤ n ∧ n ≤ mI R 53 (4 * ix p + ix s)) from fun q => by have := q.2.2.2; grind), if_pos rfl, if_neg c1, if_pos c2]
          exact s1 _
        · have hh : ((0 ≤ p ∧ p < mI R 39 9) ∧ (0 ≤ s ∧ s < mI R 39 22) ∧ 1 ≤ n ∧ n ≤ mI R 53 (4 * ix p + ix s)) := ⟨h1, h2, by grind, by grind⟩
          rw [if_pos hh, if_neg (by decide), if_neg c1, if_neg c2]
          by_cases c3 : mI R 39 24 = 60
          · rw [if_neg (show ¬ mI R 39 24 < 60 by grind), if_pos c3]
            exact s1 _
          · have lt60 : mI R 39 24 < 60 := by grind
            rw [if_pos lt60, if_neg c3]
            have ws := wait1 h h1 h2 hh.2.2.1 hh.2.2.2 lt60
            have W60 : ix (mI R 39 24) < 60 := ix_b 60 hW.1 lt60 (by decide) (by decide)
            have cl := cnt_le (mI R 62) s (ix (mI R 39 24))
            obtain ⟨q1, q2, q3, q4, q5, q6, q7, q8⟩ := h.qs (ix s) hs
            rw [es] at q3 q6
            have j0 : (0 : Int32) ≤ Int32.ofNat (cnt (mI R 62) s (ix (mI R 39 24))) := of_nn _ (by omega)
            have j1 : ix (Int32.ofNat (cnt (mI R 62) s (ix (mI R 39 24)))) = cnt (mI R 62) s (ix (mI R 39 24)) := ix_of _ (by omega)
            have n60 : ¬ (60 : Int32) ≤ Int32.ofNat (cnt (mI R 62) s (ix (mI R 39 24))) := fun q => by have := (of_le 60 _ (by omega) (by omega)).mp q; omega
            have a8 : ∀ c i, (ad c i = 8) = False := fun c i => adl h.hA (by decide) c i
            have b8 : ∀ c i, (8 = ad c i) = False := fun c i => lda h.hA (by decide) c i
            have eC : Store_addWait (sI (sI C 8 6 (mI R 39 24 + 1)) (ad 2 (ix p)) (ix s) (mI R 53 (4 * ix p + ix s) - n)) (ad 4 (ix s)) p n (mI R 39 0) = some ((), (sI (sI (sI (sI (sI (sI (sI (sI C 8 6 (mI R 39 24 + 1)) (ad 2 (ix p)) (ix s) (mI R 53 (4 * ix p + ix s) - n)) (ad 7 (ix s)) (cnt (mI R 62) s (ix (mI R 39 24))) p) (ad 8 (ix s)) (cnt (mI R 62) s (ix (mI R 39 24))) n) (ad 9 (ix s)) (cnt (mI R 62) s (ix (mI R 39 24))) (mI R 39 0)) (ad 4 (ix s)) 7 (Int32.ofNat (cnt (mI R 62) s (ix (mI R 39 24))) + 1)) (ad 4 (ix s)) 9 (mI C (ad 4 (ix s)) 9 - n)) (ad 4 (ix s)) 10 (mI C (ad 4 (ix s)) 10 + n))) := by
              unfold Store_addWait
              have d1 : ((4 : Nat) = 2) = False := eq_false (by decide)
              have d2 : ((4 : Nat) = 7) = False := eq_false (by decide)
              have d3 : ((4 : Nat) = 8) = False := eq_false (by decide)
              have d4 : ((4 : Nat) = 9) = False := eq_false (by decide)
              have d5 : ((9 : Nat) = 7) = False := eq_false (by decide)
              have d6 : ((10 : Nat) = 9) = False := eq_false (by decide)
              have d7 : ((10 : Nat) = 7) = False := eq_false (by decide)
              simp only [kO_sI, kA_sI, mR_sI, kO_t sh.2.1, ck_t, mI_sI, adE h.hA, a8, d1, d2, d3, d4, d5, d6, d7, false_and, and_false, if_false, q3, if_neg n60, sh.2.2.2.2.1, sh.2.2.2.2.2.1, sh.2.2.2.2.2.2.1, nn_s, kA_t sh.2.2.2.2.2.2.2.2.2.1 j0 (show ix (Int32.ofNat (cnt (mI R 62) s (ix (mI R 39 24)))) < 60 by omega), kA_t sh.2.2.2.2.2.2.2.2.2.2.1 j0 (show ix (Int32.ofNat (cnt (mI R 62) s (ix (mI R 39 24)))) < 60 by omega), kA_t sh.2.2.2.2.2.2.2.2.2.2.2 j0 (show ix (Int32.ofNat (cnt (mI R 62) s (ix (mI R 39 24)))) < 60 by omega), j1]
            simp only [mR_sI, kA_sI, kO_sI, h.o8, h.o39, ck_t, h.sc.r8_1, h.sc.r8_3, nn_s, kA_t h.sc.k16 h1.1 (show ix p < 16 by omega), kA_t h.sc.k17 h2.1 s4, sp.1, kO_t sp.2.1, sp.2.2.1, kA_t sp.2.2.2.2.1 h2.1 s4, sh.1, kO_t sh.2.1, row_s h.hA (show 8 < 116 by decide), h.lpaper hi s4, mI_sI, a8, b8, false_and, if_false, show ((16 : Nat) = 6) = False from eq_false (by decide), and_false, h.l8_16, eC, bd_s, h.sr.r39_33, h.sr.r39_34, h.sr.r39_35, h.sr.r39_36, show ((39 : Nat) = 53) = False from eq_false (by decide), show ((39 : Nat) = 62) = False from eq_false (by decide), show ((39 : Nat) = 63) = False from eq_false (by decide), show ((39 : Nat) = 64) = False from eq_false (by decide), show ((39 : Nat) = 65) = False from eq_false (by decide), kA_t h.sr.k62 hW.1 W60, kA_t h.sr.k63 hW.1 W60, kA_t h.sr.k64 hW.1 W60, kA_t h.sr.k65 hW.1 W60]
            have l8 := ws.l4 h hs (f := 8) (a := 54) rfl (by decide)
            have e54 : mI (sI (sI (sI (sI (sI (sI R 53 (4 * ix p + ix s) (mI R 53 (4 * ix p + ix s) - n)) 62 (ix (mI R 39 24)) s) 63 (ix (mI R 39 24)) p) 64 (ix (mI R 39 24)) n) 65 (ix (mI R 39 24)) (mI R 39 0)) 39 24 (mI R 39 24 + 1)) 54 (ix s) = mI R 54 (ix s) := rfl
            rw [e54] at l8
            have e64 : ∀ y, mI (sI (sI (sI (sI (sI (sI R 53 (4 * ix p + ix s) (mI R 53 (4 * ix p + ix s) - n)) 62 (ix (mI R 39 24)) s) 63 (ix (mI R 39 24)) p) 64 (ix (mI R 39 24)) n) 65 (ix (mI R 39 24)) (mI R 39 0)) 39 24 (mI R 39 24 + 1)) 64 y = if y = ix (mI R 39 24) then n else mI R 64 y := fun y => by
              show mI (sI (sI (sI (sI R 53 (4 * ix p + ix s) (mI R 53 (4 * ix p + ix s) - n)) 62 (ix (mI R 39 24)) s) 63 (ix (mI R 39 24)) p) 64 (ix (mI R 39 24)) n) 64 y = _
              rw [mI_sI]
              by_cases c : y = ix (mI R 39 24)
              · rw [if_pos ⟨rfl, c⟩, if_pos c]
              · rw [if_neg (fun q => c q.2), if_neg c]; rfl
            have e62 : ∀ y, mI (sI (sI (sI (sI (sI (sI R 53 (4 * ix p + ix s) (mI R 53 (4 * ix p + ix s) - n)) 62 (ix (mI R 39 24)) s) 63 (ix (mI R 39 24)) p) 64 (ix (mI R 39 24)) n) 65 (ix (mI R 39 24)) (mI R 39 0)) 39 24 (mI R 39 24 + 1)) 62 y = if y = ix (mI R 39 24) then s else mI R 62 y := fun y => by
              show mI (sI (sI R 53 (4 * ix p + ix s) (mI R 53 (4 * ix p + ix s) - n)) 62 (ix (mI R 39 24)) s) 62 y = _
              rw [mI_sI]
              by_cases c : y = ix (mI R 39 24)
              · rw [if_pos ⟨rfl, c⟩, if_pos c]
              · rw [if_neg (fun q => c q.2), if_neg c]; rfl
            have e24 : ix (mI (sI (sI (sI (sI (sI (sI R 53 (4 * ix p + ix s) (mI R 53 (4 * ix p + ix s) - n)) 62 (ix (mI R 39 24)) s) 63 (ix (mI R 39 24)) p) 64 (ix (mI R 39 24)) n) 65 (ix (mI R 39 24)) (mI R 39 0)) 39 24 (mI R 39 24 + 1)) 39 24) = ix (mI R 39 24) + 1 := ix_s1 _ hW.1 (by grind)
            have sw : ∀ s', s' < 4 → sumW (sI (sI (sI (sI (sI (sI R 53 (4 * ix p + ix s) (mI R 53 (4 * ix p + ix s) - n)) 62 (ix (mI R 39 24)) s) 63 (ix (mI R 39 24)) p) 64 (ix (mI R 39 24)) n) 65 (ix (mI R 39 24)) (mI R 39 0)) 39 24 (mI R 39 24 + 1)) s' = sumW R s' + (if s' = ix s then n.toInt else 0) := fun s' hs' => by
              unfold sumW
              rw [e24]
              show sumTo _ (ix (mI R 39 24)) + (if mI _ 62 (ix (mI R 39 24)) = Int32.ofNat s' then (mI _ 64 (ix (mI R 39 24))).toInt else 0) = _
              rw [e62, if_pos rfl, e64, if_pos rfl]
              congr 1
              · apply sumTo_cg
                intro y hy
                rw [e62, e64, if_neg (show ¬ y = ix (mI R 39 24) by omega), if_neg (show ¬ y = ix (mI R 39 24) by omega)]
              · by_cases c : s' = ix s
                · rw [if_pos c, if_pos (by rw [c, es])]
                · rw [if_neg c, if_neg (fun q => c (by rw [q, ix_of _ (by omega)]))]
            generalize hC1 : sI (sI (sI (sI (sI (sI (sI (sI C 8 6 (mI R 39 24 + 1)) (ad 2 (ix p)) (ix s) (mI R 53 (4 * ix p + ix s) - n)) (ad 7 (ix s)) (cnt (mI R 62) s (ix (mI R 39 24))) p) (ad 8 (ix s)) (cnt (mI R 62) s (ix (mI R 39 24))) n) (ad 9 (ix s)) (cnt (mI R 62) s (ix (mI R 39 24))) (mI R 39 0)) (ad 4 (ix s)) 7 (Int32.ofNat (cnt (mI R 62) s (ix (mI R 39 24))) + 1)) (ad 4 (ix s)) 9 (mI C (ad 4 (ix s)) 9 - n)) (ad 4 (ix s)) 10 (mI C (ad 4 (ix s)) 10 + n) = C1 at *
            generalize hR1 : sI (sI (sI (sI (sI (sI R 53 (4 * ix p + ix s) (mI R 53 (4 * ix p + ix s) - n)) 62 (ix (mI R 39 24)) s) 63 (ix (mI R 39 24)) p) 64 (ix (mI R 39 24)) n) 65 (ix (mI R 39 24)) (mI R 39 0)) 39 24 (mI R 39 24 + 1) = R1 at *
            obtain ⟨r, C', R', y1, y2, y3, y4, y5, y6, y7, y8, y9, y10⟩ := lp_serve h hs (mI R1 54 (ix s)) (ix (mI R 39 24) + 1) fu fu 0 C1 R1 0 (mI C1 (ad 4 (ix s)) 6) ws (by rw [e24]; omega) (fun _ => ⟨rfl, Nat.zero_le _⟩) (by grind) (fu_g (by omega)) (fu_g (by omega))
            rw [es] at y2
            have y2' : Mod_serves R1 39 s = some (r, R') := y2
            have k1 : mK C1 = mK C := ws.1.1
            have m1 : mR C1 = mR C := ws.1.2.1
            have hC1 : Rel k ad C R := h
            have o8' : kO C1 8 11 18 = true := kO_t (by rw [k1]; exact h.sc.k8)
            have oS : kO C1 (ad 4 (ix s)) 10 14 = true := kO_t (by rw [k1]; exact sh.2.1)
            have a17 : kA C1 17 25 s = true := kA_t (by rw [k1]; exact h.sc.k17) h2.1 s4
            have y1' : Store_serve C1 (ad 4 (ix s)) 16 = some (r, C') := by
              unfold Store_serve
              rw [oS, ck_t, l8, ← e54]
              exact y1
            have SR' : SR R' := h.sr.sm y3.2.1.2.1 y3.2.1.2.2
            have f39 := y4 39 (by decide) (by decide) (by decide) (by decide)
            have r24 : mI R' 39 24 - 1 = mI R 39 24 := by
              have : mI R1 39 24 = mI R 39 24 + 1 := by rw [← hR1, mI_sI, if_pos ⟨rfl, rfl⟩]
              rw [f39, this]
              grind
            simp only [o8', ck_t, m1, h.sc.r8_1, h.sc.r8_3, nn_s, a17, sh.1, oS, y1', bd_s, y2', kO_t SR'.k39, SR'.r39_35, r24, kA_t SR'.k64 hW.1 W60]
            -- what was served of it
            have i1 := ws.2.2.2.2.2.2.2.1
            have i' := y3.2.2.2.2.2.2.2.1
            have nt : 1 ≤ n.toInt := by
              have := hh.2.2.1
              rw [I_le] at this
              exact this
            have pb := paper_b h (show ix p < 16 by omega) s4
            have nt2 : n.toInt ≤ 30000 := by
              have := hh.2.2.2
              rw [I_le] at this
              omega
            have key : r = n - mI R' 64 (ix (mI R 39 24)) := by
              by_cases c0 : mI R1 54 (ix s) ≤ 0
              · have e := y10 c0
                rw [y5, e, e64, if_pos rfl]
                grind
              · have sz : sumW R (ix s) = 0 := h.ist.cl (ix s) s4 (by rw [← e54]; grind)
                have sw1 := sw (ix s) s4
                rw [sz, if_pos rfl] at sw1
                have f62 := y4 62 (by decide) (by decide) (by decide) (by decide)
                have zero : ∀ y, y < ix (mI R 39 24) → mI R 62 y = Int32.ofNat (ix s) → mI R' 64 y = 0 := by
                  intro y hy hys
                  have z1 := sumTo_z (f := fun w => if mI R 62 w = Int32.ofNat (ix s) then (mI R 64 w).toInt else 0) (n := ix (mI R 39 24)) (fun w hw' => by
                    have := (h.ist.2.2.1 w hw').2.2.1
                    rw [I_le, i0T] at this
                    show 0 ≤ (if mI R 62 w = Int32.ofNat (ix s) then (mI R 64 w).toInt else 0)
                    split
                    · exact this
                    · exact Int.le_refl 0) sz y hy
                  have z1 : (if mI R 62 y = Int32.ofNat (ix s) then (mI R 64 y).toInt else 0) = 0 := z1
                  rw [if_pos hys] at z1
                  have z2 := y8 y (by omega)
                  rw [e64, if_neg (by omega)] at z2
                  have z3 := (i'.2.2.1 y (by rw [f39, e24]; omega)).2.2.1
                  rw [I_le, i0T] at z3
                  exact I_eq (by rw [i0T]; omega)
                have sR' : sumW R' (ix s) = (mI R' 64 (ix (mI R 39 24))).toInt := by
                  unfold sumW
                  rw [f39, e24]
                  show sumTo _ (ix (mI R 39 24)) + (if mI R' 62 (ix (mI R 39 24)) = Int32.ofNat (ix s) then (mI R' 64 (ix (mI R 39 24))).toInt else 0) = _
                  rw [f62, e62, if_pos rfl, es, if_pos rfl, sumTo_0, Int.zero_add]
                  intro y hy
                  show (if mI R1 62 y = s then (mI R' 64 y).toInt else 0) = 0
                  by_cases c : mI R1 62 y = s
                  · rw [if_pos c, zero y hy (by rw [e62, if_neg (by omega)] at c; rw [es]; exact c)]
                    rfl
                  · rw [if_neg c]
                have b54 := (i1.1 (ix s) s4).1
                have b54' := (i'.1 (ix s) s4).1
                rw [I_le, I_le, i0T, i99T] at b54 b54'
                have lb := y8 (ix (mI R 39 24)) (by omega)
                rw [e64, if_pos rfl] at lb
                have ln := (i'.2.2.1 (ix (mI R 39 24)) (by rw [f39, e24]; omega)).2.2.1
                rw [I_le, i0T] at ln
                rw [y5]
                apply I_eq
                rw [I_sub _ _ (by omega) (by omega) (by omega) (by omega), I_sub _ _ (by omega) (by omega) (by omega) (by omega)]
                omega
            refine Sim.mk2 (ad := ad) key ((RS.fin h y3 (fun s' hs' hr => ?_)).up hk)
            by_cases c' : s' = ix s
            · rw [c'] at hr ⊢
              rcases y6 with y6 | y6
              · rw [y6] at hr; exact absurd hr (by decide)
              · exact y6
            · obtain ⟨z1, z2⟩ := y9 s' hs' c'
              have q := sw s' hs'
              rw [if_neg c', Int.add_zero] at q
              rw [z1, q]
              have e54' : mI R1 54 s' = mI R 54 s' := by rw [← hR1]; rfl
              rw [z2, e54'] at hr
              exact h.ist.cl s' hs' hr
    · simp only [if_pos h1, if_neg h2, i10, if_false, if_true]
      rw [if_neg (show ¬ ((0 ≤ p ∧ p < mI R 39 9) ∧ (0 ≤ s ∧ s < mI R 39 22) ∧ 1 ≤ n ∧ n ≤ mI R 53 (4 * ix p + ix s)) from fun q => h2 q.2.1), if_pos rfl]
      exact s1 _
  · simp only [if_neg h1, if_true]
    rw [if_neg (show ¬ ((0 ≤ p ∧ p < mI R 39 9) ∧ (0 ≤ s ∧ s < mI R 39 22) ∧ 1 ≤ n ∧ n ≤ mI R 53 (4 * ix p + ix s)) from fun q => h1 q.1), if_pos rfl]
    exact s1 _
end S7
