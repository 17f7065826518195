section S6
variable {k : Nat} {ad : Nat → Nat → Nat} {C R : Mm}
theorem sumTo_z {f : Nat → Int} : ∀ {n : Nat}, (∀ j, j < n → 0 ≤ f j) → sumTo f n = 0 → ∀ j, j < n → f j = 0
  | 0, _, _, j, hj => absurd hj (Nat.not_lt_zero j)
  | n + 1, h, h0, j, hj => by
    have h0 : sumTo f n + f n = 0 := h0
    have h1 := sumTo_nn (f := f) (n := n) (fun j hj => h j (by omega))
    have h2 := h n (by omega)
    by_cases e : j = n
    · subst e; omega
    · exact sumTo_z (f := f) (n := n) (fun j hj => h j (by omega)) (by omega) j (by omega)
theorem sumTo_0 {f : Nat → Int} {n : Nat} (h : ∀ j, j < n → f j = 0) : sumTo f n = 0 := by
  have := sumTo_cg (f := f) (g := fun _ => 0) (n := n) h
  rw [this]
  clear this h
  induction n with
  | zero => rfl
  | succ n ih => show sumTo (fun _ => (0 : Int)) n + 0 = 0; rw [ih]; rfl
/-- called paper comes to the end of the queue -/
theorem wait1 (h : Rel k ad C R) {p s n : Int32} (h1 : 0 ≤ p ∧ p < mI R 39 9) (h2 : 0 ≤ s ∧ s < mI R 39 22) (h3 : 1 ≤ n) (h5 : n ≤ mI R 53 (4 * ix p + ix s)) (hW : mI R 39 24 < 60) : RS ad C R (sI (sI (sI (sI (sI (sI (sI (sI C 8 6 (mI R 39 24 + 1)) (ad 2 (ix p)) (ix s) (mI R 53 (4 * ix p + ix s) - n)) (ad 7 (ix s)) (cnt (mI R 62) s (ix (mI R 39 24))) p) (ad 8 (ix s)) (cnt (mI R 62) s (ix (mI R 39 24))) n) (ad 9 (ix s)) (cnt (mI R 62) s (ix (mI R 39 24))) (mI R 39 0)) (ad 4 (ix s)) 7 (Int32.ofNat (cnt (mI R 62) s (ix (mI R 39 24))) + 1)) (ad 4 (ix s)) 9 (mI C (ad 4 (ix s)) 9 - n)) (ad 4 (ix s)) 10 (mI C (ad 4 (ix s)) 10 + n)) (sI (sI (sI (sI (sI (sI R 53 (4 * ix p + ix s) (mI R 53 (4 * ix p + ix s) - n)) 62 (ix (mI R 39 24)) s) 63 (ix (mI R 39 24)) p) 64 (ix (mI R 39 24)) n) 65 (ix (mI R 39 24)) (mI R 39 0)) 39 24 (mI R 39 24 + 1)) := by
  have h4 := sto4 h
  have hp := p16 h
  have h60 := (i60a h).2
  have hwb := h.isc.waits
  have hnow := h.isc.now
  have hs := ix_mo h2.1 h2.2
  have hi := ix_mo h1.1 h1.2
  have s4 : ix s < 4 := by omega
  have es : Int32.ofNat (ix s) = s := of_ix _ h2.1
  have lv := lvS h hs
  have i0 := h.ist.to0
  obtain ⟨p1, p2, p3, p4, p5, p6, p7, p8⟩ := h.st_b s4
  have pb := paper_b h (show ix p < 16 by omega) s4
  obtain ⟨q1, q2, q3, q4, q5, q6, q7, q8⟩ := h.qs (ix s) hs
  have n1 : 1 ≤ n.toInt ∧ n.toInt ≤ (mI R 53 (4 * ix p + ix s)).toInt := by
    rw [I_le] at h3 h5
    exact ⟨h3, h5⟩
  have tP : (mI R 53 (4 * ix p + ix s) - n).toInt = (mI R 53 (4 * ix p + ix s)).toInt - n.toInt := I_sub _ _ (by omega) (by omega) (by omega) (by omega)
  have tH : (mI C (ad 4 (ix s)) 9 - n).toInt = (mI C (ad 4 (ix s)) 9).toInt - n.toInt := I_sub _ _ (by omega) (by omega) (by omega) (by omega)
  have tW : (mI C (ad 4 (ix s)) 10 + n).toInt = (mI C (ad 4 (ix s)) 10).toInt + n.toInt := I_add _ _ (by omega) (by omega) (by omega) (by omega)
  have xW : ix (mI R 39 24 + 1) = ix (mI R 39 24) + 1 := ix_s1 _ hwb.1 (by grind)
  have W60 : ix (mI R 39 24) < 60 := ix_b 60 hwb.1 hW (by decide) (by decide)
  have cl := cnt_le (mI R 62) s (ix (mI R 39 24))
  rw [es] at q3 q6
  generalize hU : ix (mI R 39 24) = U at *
  generalize hj : cnt (mI R 62) s U = j at *
  generalize hvP : mI R 53 (4 * ix p + ix s) - n = vP at *
  generalize hvH : mI C (ad 4 (ix s)) 9 - n = vH at *
  generalize hvW : mI C (ad 4 (ix s)) 10 + n = vW at *
  have D0 := (h.dt.st h.hA 108 0 6 (v := mI R 39 24 + 1) rfl (by decide) (h.lv.st (a := 8) (by decide)))
  have D1 := D0.st h.hA 2 (ix p) (ix s) (v := vP) (cm2 _ _ s4) (by decide) (lv2 h hi)
  have D2 := D1.stc h.hA 7 (ix s) j (v := p) rfl (Or.inl (by decide)) lv.2.2.2.1
  have D3 := D2.stc h.hA 8 (ix s) j (v := n) rfl (Or.inl (by decide)) lv.2.2.2.2.1
  have D4 := D3.stc h.hA 9 (ix s) j (v := mI R 39 0) rfl (Or.inl (by decide)) lv.2.2.2.2.2
  have D5 := D4.stc h.hA 4 (ix s) 7 (v := Int32.ofNat j + 1) rfl (Or.inl (by decide)) lv.1
  have D6 := D5.stc h.hA 4 (ix s) 9 (v := vH) rfl (Or.inl (by decide)) lv.1
  have D7 := (((((D6.stc h.hA 4 (ix s) 10 (v := vW) rfl (Or.inl (by decide)) lv.1).str 62 U (v := s) rfl).str 63 U (v := p) rfl).str 64 U (v := n) rfl).str 65 U (v := mI R 39 0) rfl)
  have eR : sI (sI (sI (sI (sI (sI R 39 24 (mI R 39 24 + 1)) 53 (4 * ix p + ix s) vP) 62 U s) 63 U p) 64 U n) 65 U (mI R 39 0) = sI (sI (sI (sI (sI (sI R 53 (4 * ix p + ix s) vP) 62 U s) 63 U p) 64 U n) 65 U (mI R 39 0)) 39 24 (mI R 39 24 + 1) := by
    rw [sI_comm R 24 (4 * ix p + ix s) _ _ (show 39 ≠ 53 by decide), sI_comm (sI R 53 (4 * ix p + ix s) vP) 24 U _ _ (show 39 ≠ 62 by decide), sI_comm (sI (sI R 53 (4 * ix p + ix s) vP) 62 U s) 24 U _ _ (show 39 ≠ 63 by decide), sI_comm (sI (sI (sI R 53 (4 * ix p + ix s) vP) 62 U s) 63 U p) 24 U _ _ (show 39 ≠ 64 by decide), sI_comm (sI (sI (sI (sI R 53 (4 * ix p + ix s) vP) 62 U s) 63 U p) 64 U n) 24 U _ _ (show 39 ≠ 65 by decide)]
  rw [eR] at D7
  have a8 : ∀ c i, (ad c i = 8) = False := fun c i => adl h.hA (by decide) c i
  have cU : ∀ s' m, m ≤ U → cnt (mI (sI (sI (sI (sI (sI (sI R 53 (4 * ix p + ix s) vP) 62 U s) 63 U p) 64 U n) 65 U (mI R 39 0)) 39 24 (mI R 39 24 + 1)) 62) s' m = cnt (mI R 62) s' m := fun s' m hm => cnt_cg (fun j hj => by
    show mI (sI (sI R 53 (4 * ix p + ix s) vP) 62 U s) 62 j = _
    rw [mI_sI, if_neg (fun q => by omega)]
    rfl)
  have g62 : ∀ y, mI (sI (sI (sI (sI (sI (sI R 53 (4 * ix p + ix s) vP) 62 U s) 63 U p) 64 U n) 65 U (mI R 39 0)) 39 24 (mI R 39 24 + 1)) 62 y = if y = U then s else mI R 62 y := fun y => by
    show mI (sI (sI R 53 (4 * ix p + ix s) vP) 62 U s) 62 y = _
    rw [mI_sI]
    by_cases c : y = U
    · rw [if_pos ⟨rfl, c⟩, if_pos c]
    · rw [if_neg (fun q => c q.2), if_neg c]; rfl
  have g63 : ∀ y, mI (sI (sI (sI (sI (sI (sI R 53 (4 * ix p + ix s) vP) 62 U s) 63 U p) 64 U n) 65 U (mI R 39 0)) 39 24 (mI R 39 24 + 1)) 63 y = if y = U then p else mI R 63 y := fun y => by
    show mI (sI (sI (sI R 53 (4 * ix p + ix s) vP) 62 U s) 63 U p) 63 y = _
    rw [mI_sI]
    by_cases c : y = U
    · rw [if_pos ⟨rfl, c⟩, if_pos c]
    · rw [if_neg (fun q => c q.2), if_neg c]; rfl
  have g64 : ∀ y, mI (sI (sI (sI (sI (sI (sI R 53 (4 * ix p + ix s) vP) 62 U s) 63 U p) 64 U n) 65 U (mI R 39 0)) 39 24 (mI R 39 24 + 1)) 64 y = if y = U then n else mI R 64 y := fun y => by
    show mI (sI (sI (sI (sI R 53 (4 * ix p + ix s) vP) 62 U s) 63 U p) 64 U n) 64 y = _
    rw [mI_sI]
    by_cases c : y = U
    · rw [if_pos ⟨rfl, c⟩, if_pos c]
    · rw [if_neg (fun q => c q.2), if_neg c]; rfl
  have g65 : ∀ y, mI (sI (sI (sI (sI (sI (sI R 53 (4 * ix p + ix s) vP) 62 U s) 63 U p) 64 U n) 65 U (mI R 39 0)) 39 24 (mI R 39 24 + 1)) 65 y = if y = U then mI R 39 0 else mI R 65 y := fun y => by
    show mI (sI (sI (sI (sI (sI R 53 (4 * ix p + ix s) vP) 62 U s) 63 U p) 64 U n) 65 U (mI R 39 0)) 65 y = _
    rw [mI_sI]
    by_cases c : y = U
    · rw [if_pos ⟨rfl, c⟩, if_pos c]
    · rw [if_neg (fun q => c q.2), if_neg c]; rfl
  have e24 : ix (mI (sI (sI (sI (sI (sI (sI R 53 (4 * ix p + ix s) vP) 62 U s) 63 U p) 64 U n) 65 U (mI R 39 0)) 39 24 (mI R 39 24 + 1)) 39 24) = U + 1 := xW
  have sw : ∀ s', s' < 4 → sumW (sI (sI (sI (sI (sI (sI R 53 (4 * ix p + ix s) vP) 62 U s) 63 U p) 64 U n) 65 U (mI R 39 0)) 39 24 (mI R 39 24 + 1)) s' = sumW R s' + (if s' = ix s then n.toInt else 0) := fun s' hs' => by
    unfold sumW
    rw [e24, hU]
    show sumTo _ U + (if mI _ 62 U = Int32.ofNat s' then (mI _ 64 U).toInt else 0) = _
    rw [g62, if_pos rfl, g64, if_pos rfl]
    congr 1
    · apply sumTo_cg
      intro y hy
      rw [g62, g64, if_neg (show ¬ y = U by omega), if_neg (show ¬ y = U by omega)]
    · by_cases c : s' = ix s
      · rw [if_pos c, if_pos (by rw [c, es])]
      · rw [if_neg c, if_neg (fun q => c (by rw [q, ix_of _ (by omega)]))]
  have sp : ∀ s', s' < 4 → sumP (sI (sI (sI (sI (sI (sI R 53 (4 * ix p + ix s) vP) 62 U s) 63 U p) 64 U n) 65 U (mI R 39 0)) 39 24 (mI R 39 24 + 1)) s' = sumP R s' - (if s' = ix s then n.toInt else 0) := fun s' hs' => by
    have := sumP_set R (show ix p < 16 by omega) s4 hs' vP
    show sumP (sI R 53 (4 * ix p + ix s) vP) s' = _
    rw [this]
    split <;> omega
  have r4 : ∀ s' f, mI (sI (sI (sI (sI (sI (sI (sI (sI C 8 6 (mI R 39 24 + 1)) (ad 2 (ix p)) (ix s) vP) (ad 7 (ix s)) j p) (ad 8 (ix s)) j n) (ad 9 (ix s)) j (mI R 39 0)) (ad 4 (ix s)) 7 (Int32.ofNat j + 1)) (ad 4 (ix s)) 9 vH) (ad 4 (ix s)) 10 vW) (ad 4 s') f = if s' = ix s ∧ f = 10 then vW else if s' = ix s ∧ f = 9 then vH else if s' = ix s ∧ f = 7 then Int32.ofNat j + 1 else mI C (ad 4 s') f := fun s' f => by
    rw [mI_sI, mI_sI, mI_sI, row_d h.hA 4 s' (by decide), row_d h.hA 4 s' (by decide), row_d h.hA 4 s' (by decide), row_d h.hA 4 s' (by decide), row_s h.hA (by decide)]
    simp only [adE h.hA, true_and]
  have r7 : ∀ s' f, mI (sI (sI (sI (sI (sI (sI (sI (sI C 8 6 (mI R 39 24 + 1)) (ad 2 (ix p)) (ix s) vP) (ad 7 (ix s)) j p) (ad 8 (ix s)) j n) (ad 9 (ix s)) j (mI R 39 0)) (ad 4 (ix s)) 7 (Int32.ofNat j + 1)) (ad 4 (ix s)) 9 vH) (ad 4 (ix s)) 10 vW) (ad 7 s') f = if s' = ix s ∧ f = j then p else mI C (ad 7 s') f := fun s' f => by
    rw [row_d h.hA 7 s' (by decide), row_d h.hA 7 s' (by decide), row_d h.hA 7 s' (by decide), row_d h.hA 7 s' (by decide), row_d h.hA 7 s' (by decide), mI_sI, row_d h.hA 7 s' (by decide), row_s h.hA (by decide)]
    simp only [adE h.hA, true_and]
  have r8 : ∀ s' f, mI (sI (sI (sI (sI (sI (sI (sI (sI C 8 6 (mI R 39 24 + 1)) (ad 2 (ix p)) (ix s) vP) (ad 7 (ix s)) j p) (ad 8 (ix s)) j n) (ad 9 (ix s)) j (mI R 39 0)) (ad 4 (ix s)) 7 (Int32.ofNat j + 1)) (ad 4 (ix s)) 9 vH) (ad 4 (ix s)) 10 vW) (ad 8 s') f = if s' = ix s ∧ f = j then n else mI C (ad 8 s') f := fun s' f => by
    rw [row_d h.hA 8 s' (by decide), row_d h.hA 8 s' (by decide), row_d h.hA 8 s' (by decide), row_d h.hA 8 s' (by decide), mI_sI, row_d h.hA 8 s' (by decide), row_d h.hA 8 s' (by decide), row_s h.hA (by decide)]
    simp only [adE h.hA, true_and]
  have r9 : ∀ s' f, mI (sI (sI (sI (sI (sI (sI (sI (sI C 8 6 (mI R 39 24 + 1)) (ad 2 (ix p)) (ix s) vP) (ad 7 (ix s)) j p) (ad 8 (ix s)) j n) (ad 9 (ix s)) j (mI R 39 0)) (ad 4 (ix s)) 7 (Int32.ofNat j + 1)) (ad 4 (ix s)) 9 vH) (ad 4 (ix s)) 10 vW) (ad 9 s') f = if s' = ix s ∧ f = j then mI R 39 0 else mI C (ad 9 s') f := fun s' f => by
    rw [row_d h.hA 9 s' (by decide), row_d h.hA 9 s' (by decide), row_d h.hA 9 s' (by decide), mI_sI, row_d h.hA 9 s' (by decide), row_d h.hA 9 s' (by decide), row_d h.hA 9 s' (by decide), row_s h.hA (by decide)]
    simp only [adE h.hA, true_and]
  have ro : ∀ c i, c ≠ 2 → c ≠ 4 → c ≠ 7 → c ≠ 8 → c ≠ 9 → mI (sI (sI (sI (sI (sI (sI (sI (sI C 8 6 (mI R 39 24 + 1)) (ad 2 (ix p)) (ix s) vP) (ad 7 (ix s)) j p) (ad 8 (ix s)) j n) (ad 9 (ix s)) j (mI R 39 0)) (ad 4 (ix s)) 7 (Int32.ofNat j + 1)) (ad 4 (ix s)) 9 vH) (ad 4 (ix s)) 10 vW) (ad c i) = mI C (ad c i) := fun c i c2 c4 c7 c8 c9 => by
    rw [row_d h.hA c i c4, row_d h.hA c i c4, row_d h.hA c i c4, row_d h.hA c i c9, row_d h.hA c i c8, row_d h.hA c i c7, row_d h.hA c i c2, row_s h.hA (by decide)]
  refine ⟨⟨rfl, rfl, rfl, rfl, rfl⟩, ⟨rfl, rfl, rfl⟩, D7, fun c i hc => ro c i (by omega) (by omega) (by omega) (by omega) (by omega), fun a x y z => ?_, fun j' x y => ?_, ⟨h.isc.issues, ?_⟩, ⟨fun s' hs' => ?_, fun j' hj' => ?_, fun y hy => ?_, i0.2.2.2⟩, fun s' hs' => ?_⟩
  · rw [row_n (by omega), row_n (by omega), row_n (by omega), row_n (by omega), row_n (by omega), row_n (by omega)]
  · rw [mI_sI, if_neg (fun q => y q.2)]; rfl
  · show 0 ≤ mI R 39 24 + 1 ∧ mI R 39 24 + 1 ≤ 60
    grind
  · obtain ⟨a1, a2, a3, a4, a5⟩ := i0.1 s' hs'
    refine ⟨a1, ?_, a3, a4, a5⟩
    rw [sp s' hs', sw s' hs']
    show (mI R 55 s').toInt = (mI R 56 s').toInt + (mI R 57 s').toInt + _ + _
    split <;> omega
  · show 0 ≤ mI (sI R 53 (4 * ix p + ix s) vP) 53 j'
    rw [mI_sI]
    split
    · rw [I_le, i0T, tP]; omega
    · exact i0.2.1 j' hj'
  · rw [e24] at hy
    rw [g62, g63, g64, g65]
    show (0 ≤ (if y = U then s else mI R 62 y) ∧ (if y = U then s else mI R 62 y) < mI R 39 22) ∧ (0 ≤ (if y = U then p else mI R 63 y) ∧ (if y = U then p else mI R 63 y) < mI R 39 9) ∧ 0 ≤ (if y = U then n else mI R 64 y) ∧ 0 ≤ (if y = U then mI R 39 0 else mI R 65 y) ∧ (if y = U then mI R 39 0 else mI R 65 y) ≤ mI R 39 0
    by_cases c : y = U
    · rw [if_pos c, if_pos c, if_pos c, if_pos c]
      exact ⟨h2, h1, by grind, hnow.1, by grind⟩
    · rw [if_neg c, if_neg c, if_neg c, if_neg c]
      exact i0.2.2.1 y (by omega)
  · have hs' : s' < ix (mI R 39 22) := hs'
    obtain ⟨b1, b2, b3, b4, b5, b6, b7, b8⟩ := h.qs s' hs'
    rw [hU] at b3
    have hs4 : s' < 4 := by omega
    rw [e24, sp s' hs4, sw s' hs4, r4, r4, r4, r4, r4, ro 5 s' (by decide) (by decide) (by decide) (by decide) (by decide), ro 6 s' (by decide) (by decide) (by decide) (by decide) (by decide)]
    simp only [show ((2 : Nat) = 10) = False from eq_false (by decide), show ((2 : Nat) = 9) = False from eq_false (by decide), show ((2 : Nat) = 7) = False from eq_false (by decide), show ((7 : Nat) = 10) = False from eq_false (by decide), show ((7 : Nat) = 9) = False from eq_false (by decide), show ((6 : Nat) = 10) = False from eq_false (by decide), show ((6 : Nat) = 9) = False from eq_false (by decide), show ((6 : Nat) = 7) = False from eq_false (by decide), show ((9 : Nat) = 10) = False from eq_false (by decide), and_false, if_false, and_true]
    have cnt1 : cnt (mI (sI (sI (sI (sI (sI (sI R 53 (4 * ix p + ix s) vP) 62 U s) 63 U p) 64 U n) 65 U (mI R 39 0)) 39 24 (mI R 39 24 + 1)) 62) (Int32.ofNat s') (U + 1) = cnt (mI R 62) (Int32.ofNat s') U + (if s' = ix s then 1 else 0) := by
      rw [cnt_s, cU _ U (Nat.le_refl _), g62, if_pos rfl]
      congr 1
      by_cases c : s' = ix s
      · rw [if_pos c, if_pos (by rw [c, es])]
      · rw [if_neg c, if_neg (fun q => c (by rw [q, ix_of _ (by omega)]))]
    have cl' := cnt_le (mI R 62) (Int32.ofNat s') U
    refine ⟨b1, b2, ?_, fun y hy hys => ?_, ?_, fun y hy hys => ?_, ?_, ?_⟩
    · rw [cnt1]
      by_cases c : s' = ix s
      · rw [if_pos c, if_pos c, c, es, hj, of_s1 j (by omega)]
      · rw [if_neg c, if_neg c, Nat.add_zero]
        exact b3
    · rw [g62] at hys
      rw [cU _ y (by omega), r7, r8, r9, g63, g64, g65]
      by_cases c : y = U
      · rw [if_pos c] at hys
        have c' : s' = ix s := by rw [hys, ix_of _ (by omega)]
        rw [if_pos c, if_pos c, if_pos c, c, c', es, hj, if_pos ⟨rfl, rfl⟩, if_pos ⟨rfl, rfl⟩, if_pos ⟨rfl, rfl⟩]
        exact ⟨rfl, rfl, rfl⟩
      · rw [if_neg c] at hys
        have ne : ¬ (s' = ix s ∧ cnt (mI R 62) (Int32.ofNat s') y = j) := fun q => by
          have lt := cnt_in (mI R 62) (Int32.ofNat s') (show y < U by omega) hys
          rw [q.2, q.1, es, hj] at lt
          omega
        rw [if_neg c, if_neg c, if_neg c, if_neg ne, if_neg ne, if_neg ne]
        exact b4 y (by omega) hys
    · by_cases c : s' = ix s
      · rw [if_pos c]
        rw [b3] at b5
        rw [c, es, hj] at b5
        rw [c, of_s1 j (by omega)]
        refine ⟨b5.1, ?_⟩
        have := b5.2
        have : Int32.ofNat j ≤ Int32.ofNat (j + 1) := (of_le _ _ (by omega) (by omega)).mpr (by omega)
        grind
      · rw [if_neg c]; exact b5
    · rw [g62] at hys
      rw [cU _ y (by omega), g64]
      by_cases c : y = U
      · rw [if_pos c] at hys
        have c' : s' = ix s := by rw [hys, ix_of _ (by omega)]
        rw [if_pos c, c, c', es, hj]
        have b5' := b5
        rw [b3, c', es, hj] at b5'
        refine ⟨fun q => by rw [q] at h3; exact absurd h3 (by decide), fun q => ?_⟩
        exfalso
        grind [ix_t, of_t]
      · rw [if_neg c] at hys
        rw [if_neg c]
        exact b6 y (by omega) hys
    · by_cases c : s' = ix s
      · rw [if_pos c, if_pos c, tH, q7, c]
      · rw [if_neg c, if_neg c, if_neg (fun q => absurd q.2 (by decide)), Int.sub_zero]
        exact b7
    · by_cases c : s' = ix s
      · rw [if_pos c, if_pos c, tW, q8, c]
      · rw [if_neg c, if_neg c, if_neg (fun q => absurd q.2 (by decide)), if_neg (fun q => absurd q.2 (by decide)), Int.add_zero]
        exact b8
end S6
