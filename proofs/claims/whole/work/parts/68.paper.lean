section S2
variable {k : Nat} {ad : Nat → Nat → Nat} {C R C0 R0 C1 R1 : Mm}
def Ist0 (R : Mm) : Prop :=
  (∀ s, s < 4 → (0 ≤ mI R 54 s ∧ mI R 54 s ≤ 99999) ∧ (mI R 55 s).toInt = (mI R 56 s).toInt + (mI R 57 s).toInt + sumP R s + sumW R s ∧ 0 ≤ mI R 56 s ∧ 0 ≤ mI R 57 s ∧ (mI R 55 s).toInt ≤ 500 * (mI R 39 23).toInt) ∧
  (∀ j, j < 64 → 0 ≤ mI R 53 j) ∧
  (∀ w, w < ix (mI R 39 24) → (0 ≤ mI R 62 w ∧ mI R 62 w < mI R 39 22) ∧ (0 ≤ mI R 63 w ∧ mI R 63 w < mI R 39 9) ∧ (0 ≤ mI R 64 w) ∧ (0 ≤ mI R 65 w ∧ mI R 65 w ≤ mI R 39 0)) ∧
  (∀ u, u < ix (mI R 39 23) → 0 ≤ mI R 59 u ∧ mI R 59 u < mI R 39 22) ∧ (∀ s, ix (mI R 39 22) ≤ s → s < 4 → mI R 55 s = 0)
def Icl (R : Mm) : Prop := ∀ s, s < 4 → 0 < mI R 54 s → sumW R s = 0
theorem Ist.to0 (h : Ist R) : Ist0 R := ⟨fun s hs => by obtain ⟨a, b, c, d, e, -⟩ := h.1 s hs; exact ⟨a, b, c, d, e⟩, h.2⟩
theorem Ist.cl (h : Ist R) : Icl R := fun s hs => (h.1 s hs).2.2.2.2.2
theorem Ist0.mk (h : Ist0 R) (c : Icl R) : Ist R := ⟨fun s hs => by obtain ⟨a, b, d, e, f⟩ := h.1 s hs; exact ⟨a, b, d, e, f, c s hs⟩, h.2⟩
/-- a state on the way, from one that is related: all but stores, paper and bales as it was -/
def RS (ad : Nat → Nat → Nat) (C0 R0 C1 R1 : Mm) : Prop := (mK C1 = mK C0 ∧ mR C1 = mR C0 ∧ mZ C1 = mZ C0 ∧ mS C1 = mS C0 ∧ mL C1 = mL C0) ∧ (mL R1 = mL R0 ∧ mK R1 = mK R0 ∧ mR R1 = mR R0) ∧ Dt ad C1 R1 ∧ (∀ c i, 10 ≤ c → mI C1 (ad c i) = mI C0 (ad c i)) ∧ (∀ a, a ≠ 39 → a ≠ 48 → ¬ (53 ≤ a ∧ a ≤ 65) → mI R1 a = mI R0 a) ∧ (∀ j, j ≠ 23 → j ≠ 24 → mI R1 39 j = mI R0 39 j) ∧ ((0 ≤ mI R1 39 23 ∧ mI R1 39 23 ≤ 60) ∧ (0 ≤ mI R1 39 24 ∧ mI R1 39 24 ≤ 60)) ∧ Ist0 R1 ∧ Qs ad C1 R1
theorem RS.of (h : Rel k ad C R) : RS ad C R C R := ⟨⟨rfl, rfl, rfl, rfl, rfl⟩, ⟨rfl, rfl, rfl⟩, h.dt, fun _ _ _ => rfl, fun _ _ _ _ => rfl, fun _ _ _ => rfl, ⟨h.isc.issues, h.isc.waits⟩, h.ist.to0, h.qs⟩
theorem RS.fin (h : Rel k ad C0 R0) (w : RS ad C0 R0 C1 R1) (cl : Icl R1) : Rel k ad C1 R1 := by
  obtain ⟨⟨hK, hR, hZ, hS, hL⟩, ⟨hL', hK', hR'⟩, dt, rc, rr, r39, ⟨i23, i24⟩, ist, qs⟩ := w
  have q : ∀ a, (a ≠ 39 ∧ a ≠ 48 ∧ ¬ (53 ≤ a ∧ a ≤ 65)) → mI R1 a = mI R0 a := fun a p => rr a p.1 p.2.1 p.2.2
  refine Rel.mk (h.sc.sm hK hR) (h.sr.sm hK' hR') h.hA ?_ dt ?_ ?_ ?_ ?_ ?_ ?_ (ist.mk cl) qs ?_ ?_ ?_ ?_ ?_ ?_ ?_ ?_ ?_
  · unfold Lv; rw [hK, hR, hZ, hS]; exact h.lv
  · intro c i j p
    have := h.dl c i j p
    unfold rL at this ⊢
    rw [hZ, hL, hL']
    exact this
  · have := h.isc
    unfold Isc at this ⊢
    rw [r39 0 (by decide) (by decide), r39 1 (by decide) (by decide), r39 2 (by decide) (by decide), r39 9 (by decide) (by decide), r39 22 (by decide) (by decide), r39 54 (by decide) (by decide), r39 71 (by decide) (by decide), r39 37 (by decide) (by decide), r39 70 (by decide) (by decide), r39 73 (by decide) (by decide)]
    obtain ⟨a1, a2, a3, a4, a5, a6, a7, a8⟩ := this
    exact ⟨a1, a2, a3, a4, a5, i23, i24, a8⟩
  · have := h.ila
    unfold Ila at this ⊢
    rw [q 40 (by decide), q 41 (by decide), q 42 (by decide), q 43 (by decide), q 79 (by decide)]
    exact this
  · have := h.ipe
    unfold Ipe at this ⊢
    rw [hL', q 46 (by decide), q 47 (by decide), q 49 (by decide), q 112 (by decide), q 91 (by decide), r39 0 (by decide) (by decide), r39 2 (by decide) (by decide), r39 71 (by decide) (by decide), r39 21 (by decide) (by decide)]
    exact this
  · have := h.shp
    unfold ShP at this ⊢
    rw [hK, hR, r39 9 (by decide) (by decide)]
    exact this
  · have := h.shs
    unfold ShS at this ⊢
    rw [hK, hR, r39 22 (by decide) (by decide)]
    exact this
  · have := h.she
    unfold ShE at this ⊢
    rw [hK, hR, r39 37 (by decide) (by decide), q 67 (by decide)]
    exact this
  · have := h.ied
    unfold Ied at this ⊢
    rw [r39 37 (by decide) (by decide), r39 46 (by decide) (by decide), r39 52 (by decide) (by decide), q 66 (by decide), q 67 (by decide), q 68 (by decide), q 69 (by decide), q 70 (by decide), q 72 (by decide), q 73 (by decide)]
    exact this
  · exact h.eds.cg hK (fun c s _ _ => rc c s (by omega)) (r39 37 (by decide) (by decide)) (q 66 (by decide)) (q 67 (by decide)) (q 69 (by decide)) (q 70 (by decide)) (q 71 (by decide)) (q 72 (by decide)) (q 73 (by decide)) (q 74 (by decide)) (q 75 (by decide)) (q 76 (by decide)) (q 77 (by decide))
  · have := h.shn
    unfold ShN Un Al at this ⊢
    rw [hK, hR, hZ, r39 70 (by decide) (by decide), r39 73 (by decide) (by decide), r39 9 (by decide) (by decide), r39 22 (by decide) (by decide), r39 37 (by decide) (by decide), q 87 (by decide), q 88 (by decide)]
    exact this
  · have := h.ise
    unfold Ise at this ⊢
    rw [r39 70 (by decide) (by decide), r39 73 (by decide) (by decide), r39 9 (by decide) (by decide), r39 0 (by decide) (by decide), q 84 (by decide), q 85 (by decide), q 86 (by decide), q 87 (by decide), q 88 (by decide), q 89 (by decide), q 90 (by decide), q 92 (by decide), q 93 (by decide), q 94 (by decide), q 95 (by decide), q 97 (by decide), q 98 (by decide), q 99 (by decide), q 100 (by decide), q 101 (by decide), q 102 (by decide), q 103 (by decide), q 104 (by decide), q 105 (by decide), q 107 (by decide), q 108 (by decide)]
    exact this
  · have := h.ison
    unfold Ison at this ⊢
    rw [r39 70 (by decide) (by decide), r39 72 (by decide) (by decide), r39 73 (by decide) (by decide), q 87 (by decide), q 88 (by decide), q 109 (by decide)]
    exact this
  · exact h.son.cg (fun s => congrFun (rc 10 s (by decide)) 7) (fun s => rc 12 s (by decide)) (r39 70 (by decide) (by decide)) (r39 72 (by decide) (by decide)) (r39 73 (by decide) (by decide)) (q 109 (by decide))
  · exact h.den.cg (fun s j _ => congrFun (rc 15 s (by decide)) j) (r39 70 (by decide) (by decide)) (q 88 (by decide)) (q 105 (by decide)) (q 106 (by decide))
  · exact h.evs.cg (fun s => congrFun (rc 14 s (by decide)) 5) (r39 70 (by decide) (by decide)) (r39 73 (by decide) (by decide)) (q 87 (by decide)) (q 90 (by decide)) (q 96 (by decide)) (q 109 (by decide))
theorem adE (hA : Ad ad) (c i c' i' : Nat) : (ad c i = ad c' i') = (c = c' ∧ i = i') := propext ⟨fun e => hA.2 _ _ _ _ e, fun e => by rw [e.1, e.2]⟩
theorem sumP_set (R : Mm) {i s s' : Nat} (hi : i < 16) (hs : s < 4) (hs' : s' < 4) (v : Int32) : sumP (sI R 53 (4 * i + s) v) s' = sumP R s' + (if s' = s then v.toInt - (mI R 53 (4 * i + s)).toInt else 0) := by
  unfold sumP
  by_cases c : s' = s
  · subst c
    rw [if_pos rfl]
    have := sumTo_one (f := fun p => (mI (sI R 53 (4 * i + s') v) 53 (4 * p + s')).toInt) (g := fun p => (mI R 53 (4 * p + s')).toInt) (n := 16) hi (fun j _ hj => by
      show (mI (sI R 53 (4 * i + s') v) 53 (4 * j + s')).toInt = _
      rw [mI_sI, if_neg (fun q => hj (by omega))])
    rw [this]
    show _ + ((mI (sI R 53 (4 * i + s') v) 53 (4 * i + s')).toInt - _) = _
    rw [mI_sI, if_pos ⟨rfl, rfl⟩]
  · rw [if_neg c, Int.add_zero]
    apply sumTo_cg
    intro j _
    show (mI (sI R 53 (4 * i + s) v) 53 (4 * j + s')).toInt = _
    rw [mI_sI, if_neg (fun q => c (by omega))]
theorem paper_b (h : Rel k ad C R) {i s : Nat} (hi : i < 16) (hs : s < 4) : 0 ≤ (mI R 53 (4 * i + s)).toInt ∧ (mI R 53 (4 * i + s)).toInt ≤ sumP R s ∧ sumP R s ≤ 30000 := by
  have p := h.ist.2.1
  obtain ⟨p1, p2, p3, p4, p5, p6, -⟩ := h.st_b hs
  have q := p (4 * i + s) (by omega)
  rw [I_le, i0T] at q
  refine ⟨q, ?_, by omega⟩
  exact sumTo_le (f := fun p => (mI R 53 (4 * p + s)).toInt) hi (fun j hj => by
    have := p (4 * j + s) (by omega)
    rw [I_le, i0T] at this
    exact this)
theorem lv2 (h : Rel k ad C R) {i : Nat} (hi : i < ix (mI R 39 9)) : ad 2 i < mZ C := h.lv.in (h.shp i hi).2.2.2.2.1 (by decide)
theorem ev_holds (h : Rel k ad C R) (p s n : Int32) : Hall_holdsPaper C 8 p s n = some (if (0 ≤ p ∧ p < mI R 39 9) ∧ (0 ≤ s ∧ s < mI R 39 22) ∧ 1 ≤ n ∧ n ≤ mI R 53 (4 * ix p + ix s) then 1 else 0, C) := by
  unfold Hall_holdsPaper
  have h4 := sto4 h
  have hp := p16 h
  simp only [h.o8, ck_t, ev_isP h, ev_isS h, bd_s]
  by_cases h1 : 0 ≤ p ∧ p < mI R 39 9
  · by_cases h2 : 0 ≤ s ∧ s < mI R 39 22
    · have hi := ix_mo h1.1 h1.2
      have hj := ix_mo h2.1 h2.2
      have sh := h.shp (ix p) hi
      simp only [if_pos h1, if_pos h2, i10, if_false, h.o8, ck_t, h.sc.r8_1, nn_s, kA_t h.sc.k16 h1.1 (show ix p < 16 by omega), sh.1, kO_t sh.2.1, sh.2.2.1, kA_t sh.2.2.2.2.1 h2.1 (show ix s < 4 by omega), h.lpaper hi (show ix s < 4 by omega)]
      by_cases h3 : n < 1
      · rw [if_pos h3, if_neg (fun q => by have := q.2.2.1; grind)]
      · rw [if_neg h3]
        by_cases h5 : mI R 53 (4 * ix p + ix s) < n
        · rw [if_pos h5, if_neg (fun q => by have := q.2.2.2; grind)]
        · rw [if_neg h5, if_pos ⟨h1, h2, by grind, by grind⟩]
    · simp only [if_pos h1, if_neg h2, i10, if_false, if_true]
      rw [if_neg (fun q => h2 q.2.1)]
  · simp only [if_neg h1, if_true]
    rw [if_neg (fun q => h1 q.1)]
theorem sim_give (h : Rel k ad C R) (hk : k < 512) (a b s n : Int32) : Sim k (Hall_give C 8 a b s n) (Mod_give R 39 a b s n) := by
  unfold Hall_give Mod_give
  have s1 : ∀ r : Int32, Sim k (some (r, C)) (some (r, R)) := fun r => ⟨_, _, _, ad, rfl, rfl, h.up hk⟩
  have h4 := sto4 h
  have hp := p16 h
  have hP := h.isc.persons
  have hS := h.isc.stores
  simp only [h.o8, h.o39, ck_t, ev_isP h, ev_mP h, ev_mS h, ev_holds h, bd_s]
  by_cases h1 : 0 ≤ a ∧ a < mI R 39 9
  · by_cases h2 : 0 ≤ b ∧ b < mI R 39 9
    · by_cases h3 : 0 ≤ s ∧ s < mI R 39 22
      · have hi := ix_mo h1.1 h1.2
        have hj := ix_mo h2.1 h2.2
        have hs := ix_mo h3.1 h3.2
        have si := h.shp (ix a) hi
        have sj := h.shp (ix b) hj
        obtain ⟨e1, e2⟩ := ix_m4 a s h1.1 (by grind) h3.1 (by grind)
        obtain ⟨e3, e4⟩ := ix_m4 b s h2.1 (by grind) h3.1 (by grind)
        have s4 : ix s < 4 := by omega
        simp only [if_pos h1, if_pos h2, if_pos h3, i10, if_false, h.o8, h.o39, ck_t, h.sr.r39_17, nn_s, kA_t h.sr.k53 e2 (show ix (4 * a + s) < 64 by omega), e1]
        by_cases c1 : n < 1
        · rw [if_neg (show ¬ ((0 ≤ a ∧ a < mI R 39 9) ∧ (0 ≤ s ∧ s < mI R 39 22) ∧ 1 ≤ n ∧ n ≤ mI R 53 (4 * ix a + ix s)) from fun q => by have := q.2.2.1; grind), if_pos rfl, if_pos c1]
          exact s1 _
        · by_cases c2 : n ≤ mI R 53 (4 * ix a + ix s)
          · have D1 := h.dt.st h.hA 2 (ix a) (ix s) (v := mI R 53 (4 * ix a + ix s) - n) (cm2 _ _ s4) (by decide) (lv2 h hi)
            have l2 : mI (sI C (ad 2 (ix a)) (ix s) (mI R 53 (4 * ix a + ix s) - n)) (ad 2 (ix b)) (ix s) = mI (sI R 53 (4 * ix a + ix s) (mI R 53 (4 * ix a + ix s) - n)) 53 (4 * ix b + ix s) := D1.ld 2 (ix b) (ix s) (cm2 _ _ s4) (by decide) (lv2 h hj)
            have D2 := D1.st h.hA 2 (ix b) (ix s) (v := mI (sI R 53 (4 * ix a + ix s) (mI R 53 (4 * ix a + ix s) - n)) 53 (4 * ix b + ix s) + n) (cm2 _ _ s4) (by decide) (lv2 h hj)
            rw [if_pos (show (0 ≤ a ∧ a < mI R 39 9) ∧ (0 ≤ s ∧ s < mI R 39 22) ∧ 1 ≤ n ∧ n ≤ mI R 53 (4 * ix a + ix s) from ⟨h1, h3, by grind, c2⟩), if_neg (by decide), if_neg c1, if_pos c2]
            simp only [h.o8, ck_t, h.sc.r8_1, nn_s, mR_sI, kA_sI, kO_sI, kA_t h.sc.k16 h1.1 (show ix a < 16 by omega), kA_t h.sc.k16 h2.1 (show ix b < 16 by omega), si.1, sj.1, kO_t si.2.1, kO_t sj.2.1, si.2.2.1, sj.2.2.1, kA_t si.2.2.2.2.1 h3.1 s4, kA_t sj.2.2.2.2.1 h3.1 s4, h.lpaper hi s4, l2, h.sr.r39_17, kA_t h.sr.k53 e4 (show ix (4 * b + s) < 64 by omega), e3]
            refine ⟨_, _, _, ad, rfl, rfl, ?_⟩
            -- numbers
            have pa := paper_b h (show ix a < 16 by omega) s4
            have pb := paper_b h (show ix b < 16 by omega) s4
            have n1 : 1 ≤ n.toInt := by
              have : (1 : Int32) ≤ n := by grind
              rw [I_le] at this
              exact this
            have c2' := c2
            rw [I_le] at c2'
            have t1 : (mI R 53 (4 * ix a + ix s) - n).toInt = (mI R 53 (4 * ix a + ix s)).toInt - n.toInt := I_sub _ _ (by omega) (by omega) (by omega) (by omega)
            have bv : 0 ≤ (mI (sI R 53 (4 * ix a + ix s) (mI R 53 (4 * ix a + ix s) - n)) 53 (4 * ix b + ix s)).toInt ∧ (mI (sI R 53 (4 * ix a + ix s) (mI R 53 (4 * ix a + ix s) - n)) 53 (4 * ix b + ix s)).toInt ≤ 30000 := by
              rw [mI_sI]
              split
              · rw [t1]; omega
              · omega
            have t2 := I_add (mI (sI R 53 (4 * ix a + ix s) (mI R 53 (4 * ix a + ix s) - n)) 53 (4 * ix b + ix s)) n (by omega) (by omega) (by omega) (by omega)
            have sp : ∀ s', s' < 4 → sumP (sI (sI R 53 (4 * ix a + ix s) (mI R 53 (4 * ix a + ix s) - n)) 53 (4 * ix b + ix s) (mI (sI R 53 (4 * ix a + ix s) (mI R 53 (4 * ix a + ix s) - n)) 53 (4 * ix b + ix s) + n)) s' = sumP R s' := by
              intro s' hs'
              rw [sumP_set _ (show ix b < 16 by omega) s4 hs', sumP_set _ (show ix a < 16 by omega) s4 hs']
              split
              · rw [t2, t1]; omega
              · omega
            have nn53 : ∀ j, j < 64 → 0 ≤ mI (sI (sI R 53 (4 * ix a + ix s) (mI R 53 (4 * ix a + ix s) - n)) 53 (4 * ix b + ix s) (mI (sI R 53 (4 * ix a + ix s) (mI R 53 (4 * ix a + ix s) - n)) 53 (4 * ix b + ix s) + n)) 53 j := by
              intro j hj
              rw [I_le, i0T, mI_sI]
              split
              · rw [t2]; omega
              · rw [mI_sI]
                split
                · rw [t1]; omega
                · have := h.ist.2.1 j hj
                  rw [I_le, i0T] at this
                  exact this
            generalize mI (sI R 53 (4 * ix a + ix s) (mI R 53 (4 * ix a + ix s) - n)) 53 (4 * ix b + ix s) + n = v2 at *
            generalize mI R 53 (4 * ix a + ix s) - n = v1 at *
            have i0 := h.ist.to0
            refine (RS.fin (C1 := sI (sI C (ad 2 (ix a)) (ix s) v1) (ad 2 (ix b)) (ix s) v2) (R1 := sI (sI R 53 (4 * ix a + ix s) v1) 53 (4 * ix b + ix s) v2) h ⟨⟨rfl, rfl, rfl, rfl, rfl⟩, ⟨rfl, rfl, rfl⟩, D2, fun c i hc => ?_, fun a p q r => ?_, fun j _ _ => rfl, ⟨h.isc.issues, h.isc.waits⟩, ⟨fun s' hs' => ?_, nn53, i0.2.2⟩, fun s' hs' => ?_⟩ h.ist.cl).up hk
            · rw [row_d h.hA c i (by omega), row_d h.hA c i (by omega)]
            · rw [row_n (by omega), row_n (by omega)]
            · obtain ⟨q1, q2, q3⟩ := i0.1 s' hs'
              refine ⟨q1, ?_, q3⟩
              rw [sp s' hs']
              exact q2
            · obtain ⟨q1, q2, q3, q4, q5, q6, q7, q8⟩ := h.qs s' hs'
              have hs4 : s' < 4 := by have hs' : s' < ix (mI R 39 22) := hs'; omega
              have rw9 : ∀ c i, c ≠ 2 → mI (sI (sI C (ad 2 (ix a)) (ix s) v1) (ad 2 (ix b)) (ix s) v2) (ad c i) = mI C (ad c i) := fun c i hc => (row_d h.hA c i hc).trans (row_d h.hA c i hc)
              rw [rw9 4 s' (by decide), rw9 5 s' (by decide), rw9 6 s' (by decide), rw9 7 s' (by decide), rw9 8 s' (by decide), rw9 9 s' (by decide), sp s' hs4]
              exact ⟨q1, q2, q3, q4, q5, q6, q7, q8⟩
          · rw [if_neg (show ¬ ((0 ≤ a ∧ a < mI R 39 9) ∧ (0 ≤ s ∧ s < mI R 39 22) ∧ 1 ≤ n ∧ n ≤ mI R 53 (4 * ix a + ix s)) from fun q => c2 q.2.2.2), if_pos rfl, if_neg c1, if_neg c2]
            exact s1 _
      · simp only [if_pos h1, if_pos h2, if_neg h3, i10, if_false, if_true]
        rw [if_neg (show ¬ ((0 ≤ a ∧ a < mI R 39 9) ∧ (0 ≤ s ∧ s < mI R 39 22) ∧ 1 ≤ n ∧ n ≤ mI R 53 (4 * ix a + ix s)) from fun q => h3 q.2.1), if_pos rfl]
        exact s1 _
    · simp only [if_pos h1, if_neg h2, i10, if_false, if_true]
      exact s1 _
  · simp only [if_neg h1, if_true]
    rw [if_neg (show ¬ ((0 ≤ a ∧ a < mI R 39 9) ∧ (0 ≤ s ∧ s < mI R 39 22) ∧ 1 ≤ n ∧ n ≤ mI R 53 (4 * ix a + ix s)) from fun q => h1 q.1), if_pos rfl]
    split
    · exact s1 _
    · exact s1 _
end S2
