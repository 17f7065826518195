section S3
variable {k : Nat} {ad : Nat → Nat → Nat} {C R : Mm}
theorem Sim.mk2 {ρ : Type} {e1 e2 : ρ} {C1 R1 : Mm} (he : e1 = e2) (h : Rel (k + 1) ad C1 R1) : Sim k (some (e1, C1)) (some (e2, R1)) := ⟨e1, C1, R1, ad, rfl, by rw [he], h⟩
theorem adl (hA : Ad ad) {n : Nat} (hn : n < 116) (c i : Nat) : (ad c i = n) = False := eq_false (fun e => by have := hA.1 c i; omega)
theorem lda (hA : Ad ad) {n : Nat} (hn : n < 116) (c i : Nat) : (n = ad c i) = False := eq_false (fun e => by have := hA.1 c i; omega)
theorem cnt_cg {f g : Nat → Int32} {s : Int32} : ∀ {n : Nat}, (∀ j, j < n → f j = g j) → cnt f s n = cnt g s n
  | 0, _ => rfl
  | n + 1, h => by rw [cnt_s, cnt_s, cnt_cg (fun j hj => h j (by omega)), h n (by omega)]
theorem lvS (h : Rel k ad C R) {s : Nat} (hs : s < ix (mI R 39 22)) : ad 4 s < mZ C ∧ ad 5 s < mZ C ∧ ad 6 s < mZ C ∧ ad 7 s < mZ C ∧ ad 8 s < mZ C ∧ ad 9 s < mZ C := by
  obtain ⟨-, a, -, -, -, -, -, b, c, d, e, f⟩ := h.shs s hs
  exact ⟨h.lv.in a (by decide), h.lv.in b (by decide), h.lv.in c (by decide), h.lv.in d (by decide), h.lv.in e (by decide), h.lv.in f (by decide)⟩
theorem sim_issue (h : Rel k ad C R) (hk : k < 512) (s p n l : Int32) : Sim k (Hall_issue C 8 s p n l) (Mod_issue R 39 s p n l) := by
  unfold Hall_issue Mod_issue
  have s1 : ∀ r : Int32, Sim k (some (r, C)) (some (r, R)) := fun r => ⟨_, _, _, ad, rfl, rfl, h.up hk⟩
  have h4 := sto4 h
  have hp := p16 h
  have hP := h.isc.persons
  have hS := h.isc.stores
  have hI := h.isc.issues
  have h60 := (i60a h).1
  simp only [h.o8, h.o39, ck_t, ev_isS h, ev_mS h, ev_isP h, ev_mP h, ev_within, ev_in, bd_s, h.l8_5]
  by_cases h1 : 0 ≤ s ∧ s < mI R 39 22
  · by_cases h2 : 0 ≤ p ∧ p < mI R 39 9
    · by_cases h3 : 1 ≤ n ∧ n ≤ 500
      · by_cases h5 : 0 ≤ l ∧ l ≤ 2000
        · simp only [if_pos h1, if_pos h2, if_pos h3, if_pos h5, i10, if_false, h.o8, h.o39, ck_t]
          by_cases h6 : mI R 39 23 = 60
          · rw [if_neg (show ¬ mI R 39 23 < 60 by grind), if_pos h6]
            exact s1 _
          · have lt60 : mI R 39 23 < 60 := by grind
            rw [if_pos lt60, if_neg h6]
            have hs := ix_mo h1.1 h1.2
            have hi := ix_mo h2.1 h2.2
            have sp := h.shp (ix p) hi
            have sh := h.shs (ix s) hs
            have es : Int32.ofNat (ix s) = s := of_ix _ h1.1
            obtain ⟨q1, q2, q3, q4, q5, q6, q7, q8⟩ := h.qs (ix s) hs
            have s4 : ix s < 4 := by omega
            obtain ⟨e1, e2⟩ := ix_m4 p s h2.1 (by grind) h1.1 (by grind)
            have U60 : ix (mI R 39 23) < 60 := ix_b 60 hI.1 lt60 (by decide) (by decide)
            rw [es] at q1 q2
            have cl := cnt_le (mI R 59) s (ix (mI R 39 23))
            have c0 : (0 : Int32) ≤ Int32.ofNat (cnt (mI R 59) s (ix (mI R 39 23))) := of_nn _ (by omega)
            have c1 : ix (Int32.ofNat (cnt (mI R 59) s (ix (mI R 39 23)))) = cnt (mI R 59) s (ix (mI R 39 23)) := ix_of _ (by omega)
            have n60 : ¬ (60 : Int32) ≤ Int32.ofNat (cnt (mI R 59) s (ix (mI R 39 23))) := fun q => by have := (of_le 60 _ (by omega) (by omega)).mp q; omega
            unfold Store_addIssue Store_out Mod_outOf
            have a8 : ∀ c i, (ad c i = 8) = False := fun c i => adl h.hA (by decide) c i
            have b8 : ∀ c i, (8 = ad c i) = False := fun c i => lda h.hA (by decide) c i
            have l21 : ∀ (i j : Nat), (4 = 2 ∧ i = j) = False := fun i j => eq_false (fun q => absurd q.1 (by decide))
            simp only [h.o8, h.o39, ck_t, mR_sI, kA_sI, kO_sI, h.sc.r8_1, h.sc.r8_3, nn_s, kA_t h.sc.k16 h2.1 (show ix p < 16 by omega), kA_t h.sc.k17 h1.1 s4, sp.1, kO_t sp.2.1, sp.2.2.1, kA_t sp.2.2.2.2.1 h1.1 s4, sh.1, kO_t sh.2.1, sh.2.2.1, sh.2.2.2.1, mI_sI, adE h.hA, a8, b8, show ((2 : Nat) = 4) = False from eq_false (by decide), show ((4 : Nat) = 2) = False from eq_false (by decide), show ((4 : Nat) = 5) = False from eq_false (by decide), show ((4 : Nat) = 6) = False from eq_false (by decide), show ((9 : Nat) = 2) = False from eq_false (by decide), show ((10 : Nat) = 9) = False from eq_false (by decide), show ((10 : Nat) = 2) = False from eq_false (by decide), show ((16 : Nat) = 5) = False from eq_false (by decide), show ((2 : Nat) = 5) = False from eq_false (by decide), false_and, and_false, if_false, true_and, and_true, and_self, if_true, q1, if_neg n60, kA_t sh.2.2.2.2.2.2.2.1 c0 (show ix (Int32.ofNat (cnt (mI R 59) s (ix (mI R 39 23)))) < 60 by omega), kA_t sh.2.2.2.2.2.2.2.2.1 c0 (show ix (Int32.ofNat (cnt (mI R 59) s (ix (mI R 39 23)))) < 60 by omega), c1, bd_s, h.lpaper hi s4, h.l8_16, h.sr.r39_17, h.sr.r39_26, h.sr.r39_27, h.sr.r39_28, h.sr.r39_30, h.sr.r39_31, h.sr.r39_32, kA_t h.sr.k59 hI.1 U60, kA_t h.sr.k60 hI.1 U60, kA_t h.sr.k61 hI.1 U60, kA_t h.sr.k55 h1.1 s4, kA_t h.sr.k56 h1.1 s4, kA_t h.sr.k57 h1.1 s4, kA_t h.sr.k53 e2 (show ix (4 * p + s) < 64 by omega), e1, show ((39 : Nat) = 59) = False from eq_false (by decide), show ((39 : Nat) = 60) = False from eq_false (by decide), show ((39 : Nat) = 61) = False from eq_false (by decide), show ((55 : Nat) = 39) = False from eq_false (by decide), show ((55 : Nat) = 61) = False from eq_false (by decide), show ((55 : Nat) = 60) = False from eq_false (by decide), show ((55 : Nat) = 59) = False from eq_false (by decide), show ((55 : Nat) = 53) = False from eq_false (by decide), show ((56 : Nat) = 53) = False from eq_false (by decide), show ((56 : Nat) = 55) = False from eq_false (by decide), show ((56 : Nat) = 39) = False from eq_false (by decide), show ((56 : Nat) = 61) = False from eq_false (by decide), show ((56 : Nat) = 60) = False from eq_false (by decide), show ((56 : Nat) = 59) = False from eq_false (by decide), show ((57 : Nat) = 53) = False from eq_false (by decide), show ((57 : Nat) = 55) = False from eq_false (by decide), show ((57 : Nat) = 39) = False from eq_false (by decide), show ((57 : Nat) = 61) = False from eq_false (by decide), show ((57 : Nat) = 60) = False from eq_false (by decide), show ((57 : Nat) = 59) = False from eq_false (by decide), show ((53 : Nat) = 55) = False from eq_false (by decide), show ((53 : Nat) = 39) = False from eq_false (by decide), show ((53 : Nat) = 61) = False from eq_false (by decide), show ((53 : Nat) = 60) = False from eq_false (by decide), show ((53 : Nat) = 59) = False from eq_false (by decide)]
            have oe := out_eq h hs
            unfold outR at oe
            refine Sim.mk2 (ad := ad) (by grind) ?_
            have lv := lvS h hs
            obtain ⟨p1, p2, p3, p4, p5, p6, p7, p8⟩ := h.st_b s4
            have pb := paper_b h (show ix p < 16 by omega) s4
            have n1 : 1 ≤ n.toInt ∧ n.toInt ≤ 500 := by
              have := h3
              rw [I_le, I_le] at this
              exact this
            have tP : (mI R 53 (4 * ix p + ix s) + n).toInt = (mI R 53 (4 * ix p + ix s)).toInt + n.toInt := I_add _ _ (by omega) (by omega) (by omega) (by omega)
            have tI : (mI R 55 (ix s) + n).toInt = (mI R 55 (ix s)).toInt + n.toInt := I_add _ _ (by omega) (by omega) (by omega) (by omega)
            have tH : (mI C (ad 4 (ix s)) 9 + n).toInt = (mI C (ad 4 (ix s)) 9).toInt + n.toInt := I_add _ _ (by omega) (by omega) (by omega) (by omega)
            have iU := h.isc.issues
            rw [I_le, I_le, i0T, i60T] at iU
            have tU : (mI R 39 23 + 1).toInt = (mI R 39 23).toInt + 1 := by
              have : (1 : Int32).toInt = 1 := rfl
              rw [I_add _ _ (by omega) (by omega) (by omega) (by omega), this]
            have xU : ix (mI R 39 23 + 1) = ix (mI R 39 23) + 1 := ix_s1 _ hI.1 (by grind)
            have i0 := h.ist.to0
            have hnow := h.isc.now
            generalize hU : ix (mI R 39 23) = U at *
            generalize hj : cnt (mI R 59) s U = j at *
            generalize hvP : mI R 53 (4 * ix p + ix s) + n = vP at *
            generalize hvI : mI R 55 (ix s) + n = vI at *
            generalize hvH : mI C (ad 4 (ix s)) 9 + n = vH at *
            generalize hvK : mI R 39 0 + l = vK at *
            have D0 := (h.dt.st h.hA 108 0 5 (v := mI R 39 23 + 1) rfl (by decide) (h.lv.st (a := 8) (by decide)))
            have D1 := D0.st h.hA 2 (ix p) (ix s) (v := vP) (cm2 _ _ s4) (by decide) (lv2 h hi)
            have D2 := D1.stc h.hA 5 (ix s) j (v := n) rfl (Or.inl (by decide)) lv.2.1
            have D3 := D2.stc h.hA 6 (ix s) j (v := vK) rfl (Or.inl (by decide)) lv.2.2.1
            have D4 := D3.stc h.hA 4 (ix s) 2 (v := Int32.ofNat j + 1) rfl (Or.inl (by decide)) lv.1
            have D5 := D4.stc h.hA 4 (ix s) 9 (v := vH) rfl (Or.inl (by decide)) lv.1
            have D6 : Dt ad (sI (sI (sI (sI (sI (sI C 8 5 (mI R 39 23 + 1)) (ad 2 (ix p)) (ix s) vP) (ad 5 (ix s)) j n) (ad 6 (ix s)) j vK) (ad 4 (ix s)) 2 (Int32.ofNat j + 1)) (ad 4 (ix s)) 9 vH) (sI (sI (sI (sI (sI (sI R 59 U s) 60 U n) 61 U vK) 39 23 (mI R 39 23 + 1)) 55 (ix s) vI) 53 (4 * ix p + ix s) vP) := by
              intro c i x hc
              have z := D5 c i x hc
              refine Eq.trans z ?_
              obtain ⟨-, ntr⟩ := cm_tC c i x hc
              have cic := cm_ci c i x hc
              simp only [mI_sI]
              by_cases w1 : (cm c i x).1 = 53 ∧ (cm c i x).2 = 4 * ix p + ix s
              · rw [if_pos w1, if_pos w1]
              · rw [if_neg w1, if_neg w1]
                have w2 : ∀ y, (ci y (cm c i x).2).1 = 0 → ¬ (cm c i x).1 = y := by
                  intro y hy hh
                  rw [← hh, cic] at hy
                  have hy : c = 0 := hy
                  subst hy
                  exact hc rfl
                by_cases w3 : (cm c i x).1 = 39 ∧ (cm c i x).2 = 23
                · rw [if_pos w3, if_neg (fun q => w2 55 rfl q.1), if_pos w3]
                · rw [if_neg w3, if_neg (fun q => w2 55 rfl q.1), if_neg w3, if_neg (fun q => w2 61 rfl q.1), if_neg (fun q => w2 60 rfl q.1), if_neg (fun q => w2 59 rfl q.1)]
            have cU : ∀ s' m, m ≤ U → cnt (mI (sI (sI (sI (sI (sI (sI R 59 U s) 60 U n) 61 U vK) 39 23 (mI R 39 23 + 1)) 55 (ix s) vI) 53 (4 * ix p + ix s) vP) 59) s' m = cnt (mI R 59) s' m := fun s' m hm => cnt_cg (fun j hj => by
              show mI (sI R 59 U s) 59 j = _
              rw [mI_sI, if_neg (fun q => by omega)])
            have cU1 : ∀ s', cnt (mI (sI (sI (sI (sI (sI (sI R 59 U s) 60 U n) 61 U vK) 39 23 (mI R 39 23 + 1)) 55 (ix s) vI) 53 (4 * ix p + ix s) vP) 59) s' (U + 1) = cnt (mI R 59) s' U + (if s = s' then 1 else 0) := fun s' => by
              rw [cnt_s, cU s' U (Nat.le_refl _)]
              show _ + (if mI (sI R 59 U s) 59 U = s' then 1 else 0) = _
              rw [mI_sI, if_pos (show 59 = 59 ∧ U = U from ⟨rfl, rfl⟩)]
            have spR : ∀ s', s' < 4 → sumP (sI (sI (sI (sI (sI (sI R 59 U s) 60 U n) 61 U vK) 39 23 (mI R 39 23 + 1)) 55 (ix s) vI) 53 (4 * ix p + ix s) vP) s' = sumP R s' + (if s' = ix s then n.toInt else 0) := fun s' hs' => by
              rw [sumP_set _ (show ix p < 16 by omega) s4 hs']
              have : sumP (sI (sI (sI (sI (sI R 59 U s) 60 U n) 61 U vK) 39 23 (mI R 39 23 + 1)) 55 (ix s) vI) s' = sumP R s' := rfl
              rw [this]
              have e53 : mI (sI (sI (sI (sI (sI R 59 U s) 60 U n) 61 U vK) 39 23 (mI R 39 23 + 1)) 55 (ix s) vI) 53 (4 * ix p + ix s) = mI R 53 (4 * ix p + ix s) := rfl
              rw [e53]
              split
              · omega
              · omega
            refine Rel.up (RS.fin h ⟨⟨rfl, rfl, rfl, rfl, rfl⟩, ⟨rfl, rfl, rfl⟩, D6, fun c i hc => ?_, fun a x y z => ?_, fun j' x y => ?_, ⟨?_, h.isc.waits⟩, ⟨fun s' hs' => ?_, fun j' hj' => ?_, i0.2.2.1, fun u hu => ?_, fun s' x y => ?_⟩, fun s' hs' => ?_⟩ h.ist.cl) hk
            · rw [row_d h.hA c i (by omega), row_d h.hA c i (by omega), row_d h.hA c i (by omega), row_d h.hA c i (by omega), row_d h.hA c i (by omega), row_s h.hA (by decide)]
            · rw [row_n (by omega), row_n (by omega), row_n (by omega), row_n (by omega), row_n (by omega), row_n (by omega)]
            · show mI (sI _ 39 23 (mI R 39 23 + 1)) 39 j' = _
              rw [mI_sI, if_neg (fun q => x q.2)]
              rfl
            · show 0 ≤ mI R 39 23 + 1 ∧ mI R 39 23 + 1 ≤ 60
              grind
            · obtain ⟨a1, a2, a3, a4, a5⟩ := i0.1 s' hs'
              refine ⟨a1, ?_, a3, a4, ?_⟩
              · rw [spR s' hs']
                have sw : sumW (sI (sI (sI (sI (sI (sI R 59 U s) 60 U n) 61 U vK) 39 23 (mI R 39 23 + 1)) 55 (ix s) vI) 53 (4 * ix p + ix s) vP) s' = sumW R s' := rfl
                rw [sw]
                show (mI (sI R 55 (ix s) vI) 55 s').toInt = (mI R 56 s').toInt + (mI R 57 s').toInt + _ + _
                rw [mI_sI]
                by_cases c : s' = ix s
                · rw [if_pos ⟨rfl, c⟩, if_pos c, tI, c]
                  rw [c] at a2
                  omega
                · rw [if_neg (fun q => c q.2), if_neg c]
                  omega
              · show (mI (sI R 55 (ix s) vI) 55 s').toInt ≤ 500 * (mI R 39 23 + 1).toInt
                rw [tU, mI_sI]
                by_cases c : s' = ix s
                · rw [if_pos ⟨rfl, c⟩, tI]
                  rw [c] at a5
                  omega
                · rw [if_neg (fun q => c q.2)]
                  omega
            · rw [mI_sI]
              split
              · rw [I_le, i0T, tP]; omega
              · exact i0.2.1 j' hj'
            · have hu : u < ix (mI R 39 23 + 1) := hu
              rw [xU] at hu
              show 0 ≤ mI (sI R 59 U s) 59 u ∧ mI (sI R 59 U s) 59 u < mI R 39 22
              rw [mI_sI]
              by_cases c : u = U
              · rw [if_pos ⟨rfl, c⟩]; exact h1
              · rw [if_neg (fun q => c q.2)]
                exact i0.2.2.2.1 u (by omega)
            · have x : ix (mI R 39 22) ≤ s' := x
              show mI (sI R 55 (ix s) vI) 55 s' = 0
              rw [mI_sI, if_neg (fun q => by omega)]
              exact i0.2.2.2.2 s' x y
            · have hs' : s' < ix (mI R 39 22) := hs'
              have hs4 : s' < 4 := by omega
              obtain ⟨b1, b2, b3, b4, b5, b6, b7, b8⟩ := h.qs s' hs'
              have e39 : ix (mI (sI (sI (sI (sI (sI (sI R 59 U s) 60 U n) 61 U vK) 39 23 (mI R 39 23 + 1)) 55 (ix s) vI) 53 (4 * ix p + ix s) vP) 39 23) = U + 1 := xU
              rw [e39, cU1, spR s' hs4]
              have r7 : ∀ c, c ≠ 2 → c ≠ 4 → c ≠ 5 → c ≠ 6 → mI (sI (sI (sI (sI (sI (sI C 8 5 (mI R 39 23 + 1)) (ad 2 (ix p)) (ix s) vP) (ad 5 (ix s)) j n) (ad 6 (ix s)) j vK) (ad 4 (ix s)) 2 (Int32.ofNat j + 1)) (ad 4 (ix s)) 9 vH) (ad c s') = mI C (ad c s') := fun c c2 c4 c5 c6 => by
                rw [row_d h.hA c s' c4, row_d h.hA c s' c4, row_d h.hA c s' c6, row_d h.hA c s' c5, row_d h.hA c s' c2, row_s h.hA (by decide)]
              have r4 : ∀ f, mI (sI (sI (sI (sI (sI (sI C 8 5 (mI R 39 23 + 1)) (ad 2 (ix p)) (ix s) vP) (ad 5 (ix s)) j n) (ad 6 (ix s)) j vK) (ad 4 (ix s)) 2 (Int32.ofNat j + 1)) (ad 4 (ix s)) 9 vH) (ad 4 s') f = if s' = ix s ∧ f = 9 then vH else if s' = ix s ∧ f = 2 then Int32.ofNat j + 1 else mI C (ad 4 s') f := fun f => by
                simp only [mI_sI, adE h.hA, a8, show ((4 : Nat) = 5) = False from eq_false (by decide), show ((4 : Nat) = 6) = False from eq_false (by decide), l21, false_and, true_and, if_false]
              have r56 : ∀ c f v, (c = 5 ∧ v = n ∨ c = 6 ∧ v = vK) → mI (sI (sI (sI (sI (sI (sI C 8 5 (mI R 39 23 + 1)) (ad 2 (ix p)) (ix s) vP) (ad 5 (ix s)) j n) (ad 6 (ix s)) j vK) (ad 4 (ix s)) 2 (Int32.ofNat j + 1)) (ad 4 (ix s)) 9 vH) (ad c s') f = if s' = ix s ∧ f = j then v else mI C (ad c s') f := fun c f v hc => by
                rcases hc with ⟨rfl, rfl⟩ | ⟨rfl, rfl⟩
                · rw [row_d h.hA 5 s' (by decide), row_d h.hA 5 s' (by decide), row_d h.hA 5 s' (by decide), mI_sI, row_d h.hA 5 s' (by decide), row_s h.hA (by decide)]
                  simp only [adE h.hA, true_and]
                · rw [row_d h.hA 6 s' (by decide), row_d h.hA 6 s' (by decide), mI_sI, row_d h.hA 6 s' (by decide), row_d h.hA 6 s' (by decide), row_s h.hA (by decide)]
                  simp only [adE h.hA, true_and]
              rw [r4, r4, r4, r4, r4, r7 7 (by decide) (by decide) (by decide) (by decide), r7 8 (by decide) (by decide) (by decide) (by decide), r7 9 (by decide) (by decide) (by decide) (by decide)]
              simp only [show ((2 : Nat) = 9) = False from eq_false (by decide), show ((7 : Nat) = 9) = False from eq_false (by decide), show ((7 : Nat) = 2) = False from eq_false (by decide), show ((6 : Nat) = 9) = False from eq_false (by decide), show ((6 : Nat) = 2) = False from eq_false (by decide), show ((10 : Nat) = 9) = False from eq_false (by decide), show ((10 : Nat) = 2) = False from eq_false (by decide), and_false, if_false, and_true]
              refine ⟨?_, fun u hu hus => ?_, b3, b4, b5, b6, ?_, b8⟩
              · by_cases c : s' = ix s
                · rw [if_pos c, c, es, if_pos rfl, hj, of_s1 j (by omega)]
                · rw [if_neg c, if_neg (fun q => c (by rw [q, ix_of _ (by omega)])), Nat.add_zero]
                  rw [hU] at b1
                  exact b1
              · rw [cU _ u (by omega)]
                by_cases cu : u = U
                · have hus : mI (sI R 59 U s) 59 u = Int32.ofNat s' := hus
                  rw [mI_sI, if_pos ⟨rfl, cu⟩] at hus
                  have c : s' = ix s := by rw [hus, ix_of _ (by omega)]
                  rw [r56 5 _ n (Or.inl ⟨rfl, rfl⟩), r56 6 _ vK (Or.inr ⟨rfl, rfl⟩), cu, c, es, hj, if_pos ⟨rfl, rfl⟩, if_pos ⟨rfl, rfl⟩]
                  refine ⟨?_, ?_⟩
                  · show n = mI (sI R 60 U n) 60 U
                    rw [mI_sI, if_pos ⟨rfl, rfl⟩]
                  · show vK = mI (sI R 61 U vK) 61 U
                    rw [mI_sI, if_pos ⟨rfl, rfl⟩]
                · have hus : mI (sI R 59 U s) 59 u = Int32.ofNat s' := hus
                  rw [mI_sI, if_neg (fun q => cu q.2)] at hus
                  have b2u := b2 u (by rw [hU]; omega) hus
                  have ne : ¬ (s' = ix s ∧ cnt (mI R 59) (Int32.ofNat s') u = j) := fun q => by
                    have lt := cnt_in (mI R 59) (Int32.ofNat s') (show u < U by omega) hus
                    rw [q.2, q.1, es, hj] at lt
                    omega
                  rw [r56 5 _ n (Or.inl ⟨rfl, rfl⟩), r56 6 _ vK (Or.inr ⟨rfl, rfl⟩), if_neg ne, if_neg ne]
                  refine ⟨?_, ?_⟩
                  · show _ = mI (sI R 60 U n) 60 u
                    rw [mI_sI, if_neg (fun q => cu q.2)]
                    exact b2u.1
                  · show _ = mI (sI R 61 U vK) 61 u
                    rw [mI_sI, if_neg (fun q => cu q.2)]
                    exact b2u.2
              · by_cases c : s' = ix s
                · rw [if_pos c, if_pos c, tH, q7, c]
                · rw [if_neg c, if_neg c, Int.add_zero, if_neg (fun q => absurd q.2 (by decide))]
                  exact b7
        · simp only [if_pos h1, if_pos h2, if_pos h3, if_neg h5, i10, if_false, if_true]
          exact s1 _
      · simp only [if_pos h1, if_pos h2, if_neg h3, i10, if_false, if_true]
        exact s1 _
    · simp only [if_pos h1, if_neg h2, i10, if_false, if_true]
      exact s1 _
  · simp only [if_neg h1, if_true]
    exact s1 _
end S3
