section S8
variable {k : Nat} {ad : Nat → Nat → Nat} {C R : Mm}
theorem pct {a p : Int32} (h0 : 0 ≤ a.toInt) (h1 : a.toInt ≤ 100000) (hp : 0 ≤ p ∧ p ≤ 100) : 0 ≤ (a * p / 100).toInt ∧ (a * p / 100).toInt ≤ a.toInt := by
  obtain ⟨p0, p1⟩ := hp
  rw [I_le, i0T] at p0
  rw [I_le, show (100 : Int32).toInt = 100 from rfl] at p1
  have m := mul_b h0 (Int.le_refl _) p0 p1
  have m2 := mul_b h0 h1 p0 p1
  have e : (a * p).toInt = a.toInt * p.toInt := I_mul _ _ (by omega) (by omega)
  rw [I_div _ _ (by rw [e]; exact m.1) (by decide), e, show (100 : Int32).toInt = 100 from rfl]
  generalize a.toInt * p.toInt = x at *
  omega
/-- the paper of one person spoils -/
theorem spoil1 (h : Rel k ad C R) {i s : Nat} {p : Int32} (hi : i < ix (mI R 39 9)) (hs : s < ix (mI R 39 22)) (hp : 0 ≤ p ∧ p ≤ 100) : Rel k ad (sI (sI (sI C (ad 2 i) s (mI R 53 (4 * i + s) - mI R 53 (4 * i + s) * p / 100)) (ad 4 s) 9 (mI C (ad 4 s) 9 - mI R 53 (4 * i + s) * p / 100)) (ad 4 s) 13 (mI R 57 s + mI R 53 (4 * i + s) * p / 100)) (sI (sI R 53 (4 * i + s) (mI R 53 (4 * i + s) - mI R 53 (4 * i + s) * p / 100)) 57 s (mI R 57 s + mI R 53 (4 * i + s) * p / 100)) := by
  have h4 := sto4 h
  have h16 := p16 h
  have s4 : s < 4 := by omega
  have lv := lvS h hs
  have i0 := h.ist.to0
  obtain ⟨p1, p2, p3, p4, p5, p6, p7, p8⟩ := h.st_b s4
  have pb := paper_b h (show i < 16 by omega) s4
  have pc := pct pb.1 (by omega) hp
  obtain ⟨q1, q2, q3, q4, q5, q6, q7, q8⟩ := h.qs s hs
  generalize mI R 53 (4 * i + s) * p / 100 = l at *
  have tP : (mI R 53 (4 * i + s) - l).toInt = (mI R 53 (4 * i + s)).toInt - l.toInt := I_sub _ _ (by omega) (by omega) (by omega) (by omega)
  have tH : (mI C (ad 4 s) 9 - l).toInt = (mI C (ad 4 s) 9).toInt - l.toInt := I_sub _ _ (by omega) (by omega) (by omega) (by omega)
  have tS : (mI R 57 s + l).toInt = (mI R 57 s).toInt + l.toInt := I_add _ _ (by omega) (by omega) (by omega) (by omega)
  have D1 := h.dt.st h.hA 2 i s (v := mI R 53 (4 * i + s) - l) (cm2 _ _ s4) (by decide) (lv2 h hi)
  have D2 := D1.stc h.hA 4 s 9 (v := mI C (ad 4 s) 9 - l) rfl (Or.inl (by decide)) lv.1
  have D3 := D2.st h.hA 4 s 13 (v := mI R 57 s + l) rfl (by decide) lv.1
  have sp : ∀ s', s' < 4 → sumP (sI (sI R 53 (4 * i + s) (mI R 53 (4 * i + s) - l)) 57 s (mI R 57 s + l)) s' = sumP R s' - (if s' = s then l.toInt else 0) := fun s' hs' => by
    have := sumP_set R (show i < 16 by omega) s4 hs' (mI R 53 (4 * i + s) - l)
    show sumP (sI R 53 (4 * i + s) (mI R 53 (4 * i + s) - l)) s' = _
    rw [this, tP]
    split <;> omega
  refine RS.fin h ⟨⟨rfl, rfl, rfl, rfl, rfl⟩, ⟨rfl, rfl, rfl⟩, D3, fun c i' hc => ?_, fun a x y z => ?_, fun j' x y => rfl, ⟨h.isc.issues, h.isc.waits⟩, ⟨fun s' hs' => ?_, fun j' hj' => ?_, i0.2.2⟩, fun s' hs' => ?_⟩ h.ist.cl
  · rw [row_d h.hA c i' (by omega), row_d h.hA c i' (by omega), row_d h.hA c i' (by omega)]
  · rw [row_n (by omega), row_n (by omega)]
  · obtain ⟨a1, a2, a3, a4, a5⟩ := i0.1 s' hs'
    rw [sp s' hs']
    refine ⟨a1, ?_, a3, ?_, a5⟩
    · show (mI R 55 s').toInt = (mI R 56 s').toInt + (mI (sI _ 57 s (mI R 57 s + l)) 57 s').toInt + _ + sumW R s'
      rw [mI_sI]
      by_cases c : s' = s
      · rw [if_pos ⟨rfl, c⟩, if_pos c, tS, c]
        rw [c] at a2
        omega
      · rw [if_neg (fun q => c q.2), if_neg c]
        have : mI (sI R 53 (4 * i + s) (mI R 53 (4 * i + s) - l)) 57 s' = mI R 57 s' := rfl
        rw [this]
        omega
    · rw [mI_sI]
      split
      · rw [I_le, i0T]; omega
      · exact a4
  · show 0 ≤ mI (sI R 53 (4 * i + s) (mI R 53 (4 * i + s) - l)) 53 j'
    rw [mI_sI]
    split
    · rw [I_le, i0T]; omega
    · exact i0.2.1 j' hj'
  · have hs' : s' < ix (mI R 39 22) := hs'
    obtain ⟨b1, b2, b3, b4, b5, b6, b7, b8⟩ := h.qs s' hs'
    have r4 : ∀ f, mI (sI (sI (sI C (ad 2 i) s (mI R 53 (4 * i + s) - l)) (ad 4 s) 9 (mI C (ad 4 s) 9 - l)) (ad 4 s) 13 (mI R 57 s + l)) (ad 4 s') f = if s' = s ∧ f = 13 then mI R 57 s + l else if s' = s ∧ f = 9 then mI C (ad 4 s) 9 - l else mI C (ad 4 s') f := fun f => by
      rw [mI_sI, mI_sI, row_d h.hA 4 s' (by decide)]
      simp only [adE h.hA, true_and]
    have ro : ∀ c, c ≠ 2 → c ≠ 4 → mI (sI (sI (sI C (ad 2 i) s (mI R 53 (4 * i + s) - l)) (ad 4 s) 9 (mI C (ad 4 s) 9 - l)) (ad 4 s) 13 (mI R 57 s + l)) (ad c s') = mI C (ad c s') := fun c c2 c4 => by
      rw [row_d h.hA c s' c4, row_d h.hA c s' c4, row_d h.hA c s' c2]
    rw [sp s' (by omega), r4, r4, r4, r4, r4, ro 5 (by decide) (by decide), ro 6 (by decide) (by decide), ro 7 (by decide) (by decide), ro 8 (by decide) (by decide), ro 9 (by decide) (by decide)]
    simp only [show ((2 : Nat) = 13) = False from eq_false (by decide), show ((2 : Nat) = 9) = False from eq_false (by decide), show ((7 : Nat) = 13) = False from eq_false (by decide), show ((7 : Nat) = 9) = False from eq_false (by decide), show ((6 : Nat) = 13) = False from eq_false (by decide), show ((6 : Nat) = 9) = False from eq_false (by decide), show ((9 : Nat) = 13) = False from eq_false (by decide), show ((10 : Nat) = 13) = False from eq_false (by decide), show ((10 : Nat) = 9) = False from eq_false (by decide), and_false, if_false, and_true]
    refine ⟨b1, b2, b3, b4, b5, b6, ?_, b8⟩
    by_cases c : s' = s
    · rw [if_pos c, if_pos c, tH, q7, c]
    · rw [if_neg c, if_neg c, Int.sub_zero]; exact b7
theorem lp_spoil {s p v : Int32} (hp : 0 ≤ p ∧ p ≤ 100) : ∀ (d n m i : Nat) (C R : Mm), Rel k ad C R → (0 ≤ s ∧ s < mI R 39 22) → i + d = ix (mI R 39 9) → d < n → d < m → ∃ C' R', Hall_spoilPaper_L2 n 8 s p (Int32.ofNat i) C = some ((), C') ∧ Mod_spoil_L78 m 39 s p v (Int32.ofNat i) R = some (v, R') ∧ Rel k ad C' R' := by
  intro d
  induction d with
  | zero =>
    intro n m i C R h h1 hi hn hm
    obtain ⟨n, rfl⟩ : ∃ x, n = x + 1 := ⟨n - 1, by omega⟩
    obtain ⟨m, rfl⟩ : ∃ x, m = x + 1 := ⟨m - 1, by omega⟩
    have h16 := p16 h
    have hP := h.isc.persons
    have e : mI R 39 9 ≤ Int32.ofNat i := by grind [ix_t, of_t]
    refine ⟨C, R, ?_, ?_, h⟩
    · show Hall_spoilPaper_B2 _ _ _ _ _ _ = _
      unfold Hall_spoilPaper_B2
      rw [h.o8, ck_t, h.l8_2, if_pos e]
    · show Mod_spoil_B78 _ _ _ _ _ _ _ = _
      unfold Mod_spoil_B78
      rw [h.o39, ck_t, if_pos e]
  | succ d ih =>
    intro n m i C R h h1 hi hn hm
    obtain ⟨n, rfl⟩ : ∃ x, n = x + 1 := ⟨n - 1, by omega⟩
    obtain ⟨m, rfl⟩ : ∃ x, m = x + 1 := ⟨m - 1, by omega⟩
    have h16 := p16 h
    have h4 := sto4 h
    have hP := h.isc.persons
    have hS := h.isc.stores
    have e : ¬ mI R 39 9 ≤ Int32.ofNat i := by grind [ix_t, of_t]
    have e0 : (0 : Int32) ≤ Int32.ofNat i := of_nn i (by omega)
    have e1 : ix (Int32.ofNat i) = i := ix_of i (by omega)
    have lt : i < ix (mI R 39 9) := by omega
    have hs := ix_mo h1.1 h1.2
    have s4 : ix s < 4 := by omega
    have sp := h.shp i lt
    have sh := h.shs (ix s) hs
    obtain ⟨x1, x2⟩ := ix_m4 (Int32.ofNat i) s e0 ((of_le i 2000 (by omega) (by omega)).mpr (by omega)) h1.1 (by grind)
    rw [e1] at x1
    have st := spoil1 h lt hs hp
    obtain ⟨C', R', y1, y2, y3⟩ := ih n m (i + 1) _ _ st h1 (by show i + 1 + d = ix (mI R 39 9); omega) (by omega) (by omega)
    refine ⟨C', R', ?_, ?_, y3⟩
    · show Hall_spoilPaper_B2 _ _ _ _ _ _ = _
      unfold Hall_spoilPaper_B2
      simp only [h.o8, ck_t, h.l8_2, if_neg e, h.sc.r8_1, h.sc.r8_3, mR_sI, kA_sI, kO_sI, nn_s, kA_t h.sc.k16 e0 (show ix (Int32.ofNat i) < 16 by omega), e1, sp.1, kO_t sp.2.1, sp.2.2.1, kA_t sp.2.2.2.2.1 h1.1 s4, h.lpaper lt s4, kA_t h.sc.k17 h1.1 s4, sh.1, kO_t sh.2.1, row_d h.hA 4 (ix s) (show 4 ≠ 2 by decide), cel_f 4 (ix s) 13 (show 13 ≠ 9 by decide), h.ls13 hs, of_s1 i (by omega)]
      exact y1
    · show Mod_spoil_B78 _ _ _ _ _ _ _ = _
      unfold Mod_spoil_B78
      simp only [h.o39, ck_t, if_neg e, h.sr.r39_17, h.sr.r39_28, mR_sI, kA_sI, nn_s, kA_t h.sr.k53 x2 (show ix (4 * Int32.ofNat i + s) < 64 by omega), kA_t h.sr.k57 h1.1 s4, x1, row_n (show 57 ≠ 53 by decide), of_s1 i (by omega)]
      exact y2
theorem spoilJ (h : Rel k ad C R) {s p s0 : Int32} (h1 : 0 ≤ s ∧ s < mI R 39 22) (hp : 0 ≤ p ∧ p ≤ 100) : ∃ r C' R', Hall_spoil_J35 8 s p s0 C = some (r, C') ∧ Mod_spoil_J35 39 s p s0 R = some (r, R') ∧ Rel k ad C' R' := by
  have h4 := sto4 h
  have h16 := p16 h
  have hs := ix_mo h1.1 h1.2
  have s4 : ix s < 4 := by omega
  have sh := h.shs (ix s) hs
  have lv := lvS h hs
  obtain ⟨p1, p2, p3, p4, p5, p6, p7, p8⟩ := h.st_b s4
  have pc := pct p7 (by omega) hp
  have i0 := h.ist.to0
  have st : Rel k ad (sI (sI C (ad 4 (ix s)) 8 (mI R 54 (ix s) - mI R 54 (ix s) * p / 100)) (ad 4 (ix s)) 12 (mI R 58 (ix s) + mI R 54 (ix s) * p / 100)) (sI (sI R 54 (ix s) (mI R 54 (ix s) - mI R 54 (ix s) * p / 100)) 58 (ix s) (mI R 58 (ix s) + mI R 54 (ix s) * p / 100)) := by
    generalize mI R 54 (ix s) * p / 100 = l at *
    have tP : (mI R 54 (ix s) - l).toInt = (mI R 54 (ix s)).toInt - l.toInt := I_sub _ _ (by omega) (by omega) (by omega) (by omega)
    refine RS.fin h ⟨⟨rfl, rfl, rfl, rfl, rfl⟩, ⟨rfl, rfl, rfl⟩, (h.dt.st h.hA 4 (ix s) 8 rfl (by decide) lv.1).st h.hA 4 (ix s) 12 rfl (by decide) lv.1, fun c i' hc => ?_, fun a x y z => ?_, fun j' x y => rfl, ⟨h.isc.issues, h.isc.waits⟩, ⟨fun s' hs' => ?_, i0.2⟩, h.qs.cg (fun s' j hj => (cel_f 4 s' j (by omega)).trans (cel_f 4 s' j (by omega))) (fun c s' p q => (row_d h.hA c s' (by omega)).trans (row_d h.hA c s' (by omega))) rfl rfl rfl rfl rfl rfl rfl rfl rfl rfl rfl⟩ (fun s' hs' hr => ?_)
    · rw [row_d h.hA c i' (by omega), row_d h.hA c i' (by omega)]
    · rw [row_n (by omega), row_n (by omega)]
    · obtain ⟨c1, c2⟩ := i0.1 s' hs'
      refine ⟨?_, c2⟩
      show 0 ≤ mI (sI R 54 (ix s) (mI R 54 (ix s) - l)) 54 s' ∧ mI (sI R 54 (ix s) (mI R 54 (ix s) - l)) 54 s' ≤ 99999
      rw [mI_sI]
      split
      · rw [I_le, I_le, i0T, i99T]; omega
      · exact c1
    · have hr : 0 < mI (sI R 54 (ix s) (mI R 54 (ix s) - l)) 54 s' := hr
      show sumW R s' = 0
      rw [mI_sI] at hr
      by_cases c : s' = ix s
      · rw [if_pos ⟨rfl, c⟩, I_lt, i0T, tP] at hr
        refine h.ist.cl s' hs' ?_
        rw [I_lt, i0T, c]
        omega
      · rw [if_neg (fun q => c q.2)] at hr
        exact h.ist.cl s' hs' hr
  unfold Hall_spoil_J35 Mod_spoil_J35 Store_spoilRice
  simp only [h.o8, h.o39, ck_t, h.sc.r8_3, nn_s, kA_t h.sc.k17 h1.1 s4, sh.1, kO_t sh.2.1, bd_s, h.ls8 hs, cel_f 4 (ix s) 12 (show 12 ≠ 8 by decide), h.ls12 hs, h.sr.r39_25, h.sr.r39_29, mR_sI, kA_sI, kA_t h.sr.k54 h1.1 s4, kA_t h.sr.k58 h1.1 s4, row_n (show 58 ≠ 54 by decide)]
  by_cases c : s0 = 0
  · rw [if_pos c, if_pos c]
    exact ⟨_, _, _, rfl, rfl, st⟩
  · rw [if_neg c, if_neg c]
    obtain ⟨C', R', y1, y2, y3⟩ := lp_spoil (k := k) (ad := ad) (v := mI R 54 (ix s) * p / 100) hp (ix (mI R 39 9)) fu fu 0 _ _ st h1 (by show 0 + ix (mI R 39 9) = ix (mI R 39 9); omega) (fu_g (by omega)) (fu_g (by omega))
    have y1' : Hall_spoilPaper (sI (sI C (ad 4 (ix s)) 8 (mI R 54 (ix s) - mI R 54 (ix s) * p / 100)) (ad 4 (ix s)) 12 (mI R 58 (ix s) + mI R 54 (ix s) * p / 100)) 8 s p = some ((), C') := y1
    rw [kO_sI, kO_sI, h.o8, ck_t, y1', bd_s]
    exact ⟨_, C', R', rfl, y2, y3⟩
theorem sim_spoil (h : Rel k ad C R) (hk : k < 512) (s p : Int32) : Sim k (Hall_spoil C 8 s p) (Mod_spoil R 39 s p) := by
  unfold Hall_spoil Mod_spoil
  have s1 : ∀ r : Int32, Sim k (some (r, C)) (some (r, R)) := fun r => ⟨_, _, _, ad, rfl, rfl, h.up hk⟩
  simp only [h.o8, h.o39, ck_t, ev_isS h, ev_mS h, ev_within, ev_in, bd_s]
  by_cases h1 : 0 ≤ s ∧ s < mI R 39 22
  · by_cases h2 : 0 ≤ p ∧ p ≤ 100
    · obtain ⟨r, r1, r2, r3⟩ := ask_hall h 9 (by decide) (by decide)
      obtain ⟨R2, x1, x2⟩ := r3 R ExR.rf
      have hC := h.tmp (ex_fct C R) x1
      have e39 : mI R2 39 = mI R 39 := x1.1 39 (by unfold tR; omega)
      have h1' : 0 ≤ s ∧ s < mI R2 39 22 := by rw [e39]; exact h1
      simp only [if_pos h1, if_pos h2, i10, if_false, h.o8, h.o39, ck_t, r1, x2, bd_s]
      by_cases c : r = 1
      · rw [if_pos c, if_pos c]
        obtain ⟨r', C', R', y1, y2, y3⟩ := spoilJ hC (s0 := 1) h1' h2
        exact ⟨r', C', R', ad, y1, y2, y3.up hk⟩
      · rw [if_neg c, if_neg c]
        obtain ⟨r', C', R', y1, y2, y3⟩ := spoilJ hC (s0 := 0) h1' h2
        exact ⟨r', C', R', ad, y1, y2, y3.up hk⟩
    · simp only [if_pos h1, if_neg h2, i10, if_false, if_true]
      exact s1 _
  · simp only [if_neg h1, if_true]
    exact s1 _
end S8
