section S4
variable {k : Nat} {ad : Nat → Nat → Nat} {C0 R0 C R : Mm}
theorem sI_comm (M : Mm) {a b : Nat} (i j : Nat) (v w : Int32) (h : a ≠ b) : sI (sI M a i v) b j w = sI (sI M b j w) a i v := by
  have e : (fun x y => if x = b ∧ y = j then w else mI (sI M a i v) x y) = (fun x y => if x = a ∧ y = i then v else mI (sI M b j w) x y) := by
    funext x y
    rw [mI_sI, mI_sI]
    by_cases c1 : x = b ∧ y = j
    · rw [if_pos c1, if_neg (fun q => h (by rw [← q.1, c1.1])), if_pos c1]
    · rw [if_neg c1, if_neg c1]
  show ((fun x y => if x = b ∧ y = j then w else mI (sI M a i v) x y), mL M, mR M, mK M, mZ M, mS M) = ((fun x y => if x = a ∧ y = i then v else mI (sI M b j w) x y), mL M, mR M, mK M, mZ M, mS M)
  rw [e]
theorem RS.s22 (w : RS ad C0 R0 C R) : mI R 39 22 = mI R0 39 22 := w.2.2.2.2.2.1 22 (by decide) (by decide)
theorem RS.s9 (w : RS ad C0 R0 C R) : mI R 39 9 = mI R0 39 9 := w.2.2.2.2.2.1 9 (by decide) (by decide)
theorem RS.l4 (h : Rel k ad C0 R0) (w : RS ad C0 R0 C R) {s f a : Nat} (hs : s < ix (mI R0 39 22)) (hc : cm 4 s f = (a, s)) (ha : a ≠ 0) : mI C (ad 4 s) f = mI R a s := w.2.2.1.ld 4 s f hc ha (by rw [w.1.2.2.1]; exact (lvS h hs).1)
theorem RS.w60 (w : RS ad C0 R0 C R) : ix (mI R 39 24) ≤ 60 := by have := w.2.2.2.2.2.2.1.2; grind [ix_t]
theorem sumW_set (R : Mm) {s x : Nat} (hx : x < ix (mI R 39 24)) (hs : mI R 62 x = Int32.ofNat s) (hs4 : s < 4) (v : Int32) (s' : Nat) (hs' : s' < 4) : sumW (sI R 64 x v) s' = sumW R s' + (if s' = s then v.toInt - (mI R 64 x).toInt else 0) := by
  unfold sumW
  have e1 : mI (sI R 64 x v) 39 24 = mI R 39 24 := rfl
  have e2 : mI (sI R 64 x v) 62 = mI R 62 := rfl
  rw [e1, e2]
  by_cases c : s' = s
  · subst c
    rw [if_pos rfl, sumTo_one (f := fun w => if mI R 62 w = Int32.ofNat s' then (mI (sI R 64 x v) 64 w).toInt else 0) (g := fun w => if mI R 62 w = Int32.ofNat s' then (mI R 64 w).toInt else 0) hx (fun j _ hj => by
      show (if mI R 62 j = Int32.ofNat s' then (mI (sI R 64 x v) 64 j).toInt else 0) = (if mI R 62 j = Int32.ofNat s' then (mI R 64 j).toInt else 0)
      rw [mI_sI, if_neg (show ¬ (64 = 64 ∧ j = x) from fun q => hj q.2)])]
    show _ + ((if mI R 62 x = Int32.ofNat s' then (mI (sI R 64 x v) 64 x).toInt else 0) - (if mI R 62 x = Int32.ofNat s' then (mI R 64 x).toInt else 0)) = _
    rw [if_pos hs, if_pos hs, mI_sI, if_pos ⟨rfl, rfl⟩]
  · rw [if_neg c, Int.add_zero]
    apply sumTo_cg
    intro j _
    show (if mI R 62 j = Int32.ofNat s' then (mI (sI R 64 x v) 64 j).toInt else 0) = (if mI R 62 j = Int32.ofNat s' then (mI R 64 j).toInt else 0)
    by_cases cj : j = x
    · rw [cj, hs, if_neg (fun q => c (by have := (of_eq s s' (by omega) (by omega)).mp q; omega)), if_neg (fun q => c (by have := (of_eq s s' (by omega) (by omega)).mp q; omega))]
    · rw [mI_sI, if_neg (show ¬ (64 = 64 ∧ j = x) from fun q => cj q.2)]
theorem w0_b (i0 : Ist0 R) {s : Nat} (hs : s < 4) : 0 ≤ sumW R s ∧ 0 ≤ sumP R s ∧ ∀ x, x < ix (mI R 39 24) → mI R 62 x = Int32.ofNat s → 0 ≤ (mI R 64 x).toInt ∧ (mI R 64 x).toInt ≤ sumW R s := by
  have nn : ∀ w, w < ix (mI R 39 24) → 0 ≤ (if mI R 62 w = Int32.ofNat s then (mI R 64 w).toInt else 0) := fun w hw' => by
    have := (i0.2.2.1 w hw').2.2.1
    rw [I_le, i0T] at this
    split
    · exact this
    · exact Int.le_refl 0
  refine ⟨sumTo_nn nn, sumTo_nn (fun p hp => ?_), fun x hx hxs => ?_⟩
  · have := i0.2.1 (4 * p + s) (by omega)
    rw [I_le, i0T] at this
    exact this
  · have t1 := sumTo_le (f := fun w => if mI R 62 w = Int32.ofNat s then (mI R 64 w).toInt else 0) (i := x) hx nn
    have t1 : (if mI R 62 x = Int32.ofNat s then (mI R 64 x).toInt else 0) ≤ sumW R s := t1
    have t2 := nn x hx
    rw [if_pos hxs] at t1 t2
    exact ⟨t2, t1⟩
/-- one service -/
theorem serve1 (h : Rel k ad C0 R0) (w : RS ad C0 R0 C R) {s x : Nat} (hs : s < ix (mI R0 39 22)) (hx : x < ix (mI R 39 24)) (hxs : mI R 62 x = Int32.ofNat s) (hl : mI R 64 x ≠ 0) (hr : 0 < mI R 54 s) (hj : cnt (mI R 62) (Int32.ofNat s) x = ix (mI C (ad 4 s) 6)) : ∃ m C' R', 0 < m ∧ RS ad C0 R0 C' R' ∧ (∀ a, a ≠ 48 → a ≠ 54 → a ≠ 56 → a ≠ 64 → mI R' a = mI R a) ∧ (∀ n v2 k10, n + 1 = n + 1 → Store_serve_B10 k10 (ad 4 s) 16 v2 (mI C (ad 4 s) 6) C = k10 (ad 4 s) 16 v2 (mI C (ad 4 s) 6 + 1) C') ∧ (∀ all k4, Mod_serves_B4 k4 39 (Int32.ofNat s) all (Int32.ofNat x) R = k4 39 (Int32.ofNat s) (all + m) (Int32.ofNat (x + 1)) R') ∧ mI R' 54 s = mI R 54 s - m ∧ (mI R 54 s).toInt - (mI R' 54 s).toInt = sumW R s - sumW R' s ∧ (∀ y, y < 60 → (mI R' 64 y).toInt ≤ (mI R 64 y).toInt) ∧ (mI R' 54 s = 0 ∨ (0 < mI R' 54 s ∧ mI R' 64 x = 0 ∧ mI C' (ad 4 s) 6 = mI C (ad 4 s) 6 + 1)) ∧ (∀ s', s' < 4 → s' ≠ s → sumW R' s' = sumW R s' ∧ mI R' 54 s' = mI R 54 s') := by
  have h4 := sto4 h
  have hp := p16 h
  have w60 := w.w60
  have es22 := w.s22
  have es9 := w.s9
  obtain ⟨⟨hK, hR, hZ, hS, hL⟩, ⟨hL', hK', hR'⟩, dt, rc, rr, r39, ⟨i23, i24⟩, ist, qs⟩ := id w
  have sh := h.shs s hs
  rw [← hK, ← hR] at sh
  have lv := lvS h hs
  rw [← hZ] at lv
  obtain ⟨q1, q2, q3, q4, q5, q6, q7, q8⟩ := qs s (by rw [es22]; exact hs)
  obtain ⟨z1, z2, z3⟩ := q4 x hx hxs
  obtain ⟨b1, b2, b3, b4, b5⟩ := ist.1 s (by omega)
  obtain ⟨v1, v2, v3, v4⟩ := ist.2.2.1 x hx
  obtain ⟨y1, y0, y2⟩ := w0_b ist (show s < 4 by omega)
  obtain ⟨y3, y4⟩ := y2 x hx hxs
  have who : ix (mI R 63 x) < ix (mI R0 39 9) := by rw [← es9]; exact ix_mo v2.1 v2.2
  have sp := h.shp _ who
  rw [← hK, ← hR] at sp
  have l8 : mI C (ad 4 s) 8 = mI R 54 s := w.l4 h hs rfl (by decide)
  have l11 : mI C (ad 4 s) 11 = mI R 56 s := w.l4 h hs rfl (by decide)
  have lv1 : ad 1 (ix (mI R 63 x)) < mZ C := by rw [hZ]; exact h.lv.in (h.shp _ who).2.1 (by decide)
  have lb : mI C (ad 1 (ix (mI R 63 x))) 5 = mI R 48 (ix (mI R 63 x)) := dt.ld 1 _ 5 rfl (by decide) lv1
  have SR : SR R := h.sr.sm hK' hR'
  have SCc : SC C := h.sc.sm hK hR
  have cl := cnt_in (mI R 62) (Int32.ofNat s) hx hxs
  have cl2 := cnt_le (mI R 62) (Int32.ofNat s) (ix (mI R 39 24))
  have eF : mI C (ad 4 s) 6 = Int32.ofNat (cnt (mI R 62) (Int32.ofNat s) x) := by rw [hj]; exact (of_ix _ q5.1).symm
  generalize hJ : cnt (mI R 62) (Int32.ofNat s) x = J at *
  have J0 : (0 : Int32) ≤ Int32.ofNat J := of_nn J (by omega)
  have J1 : ix (Int32.ofNat J) = J := ix_of J (by omega)
  have X0 : (0 : Int32) ≤ Int32.ofNat x := of_nn x (by omega)
  have X1 : ix (Int32.ofNat x) = x := ix_of x (by omega)
  have S0 : (0 : Int32) ≤ Int32.ofNat s := of_nn s (by omega)
  have S1 : ix (Int32.ofNat s) = s := ix_of s (by omega)
  -- numbers
  rw [I_lt, i0T] at hr
  have hl' : (mI R 64 x).toInt ≠ 0 := fun q => hl (I_eq (by rw [q]; rfl))
  have b1' := b1
  rw [I_le, I_le, i0T, i99T] at b1'
  have b3' := b3
  rw [I_le, i0T] at b3'
  have b4' := b4
  rw [I_le, i0T] at b4'
  have hi23 := i23
  rw [I_le, I_le, i0T, i60T] at hi23
  generalize hm : (if mI R 64 x < mI R 54 s then mI R 64 x else mI R 54 s) = m at *
  have hmt : 0 < m.toInt ∧ m.toInt ≤ (mI R 54 s).toInt ∧ m.toInt ≤ (mI R 64 x).toInt ∧ (m.toInt = (mI R 54 s).toInt ∨ m.toInt = (mI R 64 x).toInt) := by
    rw [← hm]
    split
    · rename_i q; rw [I_lt] at q; omega
    · rename_i q; rw [I_lt] at q; omega
  have t54 : (mI R 54 s - m).toInt = (mI R 54 s).toInt - m.toInt := I_sub _ _ (by omega) (by omega) (by omega) (by omega)
  have t64 : (mI R 64 x - m).toInt = (mI R 64 x).toInt - m.toInt := I_sub _ _ (by omega) (by omega) (by omega) (by omega)
  have t56 : (mI R 56 s + m).toInt = (mI R 56 s).toInt + m.toInt := I_add _ _ (by omega) (by omega) (by omega) (by omega)
  have t10 : (mI C (ad 4 s) 10 - m).toInt = (mI C (ad 4 s) 10).toInt - m.toInt := I_sub _ _ (by omega) (by omega) (by omega) (by omega)
  have R'e : ∀ all (k4 : Nat → Int32 → Int32 → Int32 → Mm → Option (Int32 × Mm)), Mod_serves_B4 k4 39 (Int32.ofNat s) all (Int32.ofNat x) R = k4 39 (Int32.ofNat s) (all + m) (Int32.ofNat (x + 1)) (sI (sI (sI (sI R 54 s (mI R 54 s - m)) 64 x (mI R 64 x - m)) 48 (ix (mI R 63 x)) (mI R 48 (ix (mI R 63 x)) + m)) 56 s (mI R 56 s + m)) := by
    intro all k4
    unfold Mod_serves_B4 Mod_serves_J114
    have n1 : ¬ mI R 39 24 ≤ Int32.ofNat x := by grind [ix_t, of_t]
    have n2 : ¬ mI R 54 s ≤ 0 := by rw [I_le, i0T]; omega
    have o39 : kO R 39 12 107 = true := kO_t SR.k39
    simp only [o39, ck_t, if_neg n1, if_neg n2, SR.r39_25, SR.r39_33, SR.r39_34, SR.r39_35, SR.r39_12, SR.r39_27, mR_sI, kA_sI, nn_s, kA_t SR.k54 S0 (show ix (Int32.ofNat s) < 4 by omega), kA_t SR.k56 S0 (show ix (Int32.ofNat s) < 4 by omega), kA_t SR.k62 X0 (show ix (Int32.ofNat x) < 60 by omega), kA_t SR.k63 X0 (show ix (Int32.ofNat x) < 60 by omega), kA_t SR.k64 X0 (show ix (Int32.ofNat x) < 60 by omega), S1, X1, hxs, if_true, if_neg hl, ev_mmin, bd_s, hm, row_n (show 64 ≠ 54 by decide), row_n (show 63 ≠ 64 by decide), row_n (show 63 ≠ 54 by decide), row_n (show 48 ≠ 64 by decide), row_n (show 48 ≠ 54 by decide), row_n (show 56 ≠ 48 by decide), row_n (show 56 ≠ 64 by decide), row_n (show 56 ≠ 54 by decide), kA_t SR.k48 v2.1 (show ix (mI R 63 x) < 16 by omega), of_s1 x (by omega)]
  have a16 : ∀ c i, (ad c i = 8) = False := fun c i => adl h.hA (by decide) c i
  have Ce : ∀ v2 (k10 : Nat → Nat → Int32 → Int32 → Mm → Option (Int32 × Mm)), Store_serve_B10 k10 (ad 4 s) 16 v2 (Int32.ofNat J) C = k10 (ad 4 s) 16 v2 (Int32.ofNat J + 1) (if mI R 64 x - m = 0 then sI (sI (sI (sI (sI (sI C (ad 4 s) 8 (mI R 54 s - m)) (ad 4 s) 10 (mI C (ad 4 s) 10 - m)) (ad 4 s) 11 (mI R 56 s + m)) (ad 8 s) J (mI R 64 x - m)) (ad 1 (ix (mI R 63 x))) 5 (mI R 48 (ix (mI R 63 x)) + m)) (ad 4 s) 6 (Int32.ofNat J + 1) else sI (sI (sI (sI (sI C (ad 4 s) 8 (mI R 54 s - m)) (ad 4 s) 10 (mI C (ad 4 s) 10 - m)) (ad 4 s) 11 (mI R 56 s + m)) (ad 8 s) J (mI R 64 x - m)) (ad 1 (ix (mI R 63 x))) 5 (mI R 48 (ix (mI R 63 x)) + m)) := by
    intro vv k10
    unfold Store_serve_B10 Store_serve_J118
    have n1 : ¬ mI C (ad 4 s) 7 ≤ Int32.ofNat J := by
      rw [q3]
      intro q
      have := (of_le _ _ (by omega) (by omega)).mp q
      omega
    have n2 : ¬ mI R 54 s ≤ 0 := by rw [I_le, i0T]; omega
    have d1 : ((4 : Nat) = 8) = False := eq_false (by decide)
    have d2 : ((4 : Nat) = 1) = False := eq_false (by decide)
    have d3 : ((8 : Nat) = 4) = False := eq_false (by decide)
    have d4 : ((7 : Nat) = 4) = False := eq_false (by decide)
    have d5 : ((7 : Nat) = 8) = False := eq_false (by decide)
    have d6 : ((1 : Nat) = 4) = False := eq_false (by decide)
    have d7 : ((1 : Nat) = 8) = False := eq_false (by decide)
    have d8 : ((8 : Nat) = 1) = False := eq_false (by decide)
    have d9 : ((10 : Nat) = 8) = False := eq_false (by decide)
    have d10 : ((11 : Nat) = 10) = False := eq_false (by decide)
    have d11 : ((11 : Nat) = 8) = False := eq_false (by decide)
    simp only [kO_t sh.2.1, ck_t, if_neg n1, l8, if_neg n2, sh.2.2.2.2.1, sh.2.2.2.2.2.1, mR_sI, kA_sI, kO_sI, nn_s, kA_t sh.2.2.2.2.2.2.2.2.2.1 J0 (show ix (Int32.ofNat J) < 60 by omega), kA_t sh.2.2.2.2.2.2.2.2.2.2.1 J0 (show ix (Int32.ofNat J) < 60 by omega), J1, z1, z2, ev_min, bd_s, hm, mI_sI, adE h.hA, d1, d2, d3, d4, d5, d6, d7, d8, d9, d10, d11, false_and, and_false, if_false, true_and, and_self, if_true, l11, lb, kA_t SCc.k16 v2.1 (show ix (mI R 63 x) < 16 by omega), sp.1, kO_t sp.2.1]
    split
    · rfl
    · rfl
  refine ⟨m, (if mI R 64 x - m = 0 then sI (sI (sI (sI (sI (sI C (ad 4 s) 8 (mI R 54 s - m)) (ad 4 s) 10 (mI C (ad 4 s) 10 - m)) (ad 4 s) 11 (mI R 56 s + m)) (ad 8 s) J (mI R 64 x - m)) (ad 1 (ix (mI R 63 x))) 5 (mI R 48 (ix (mI R 63 x)) + m)) (ad 4 s) 6 (Int32.ofNat J + 1) else sI (sI (sI (sI (sI C (ad 4 s) 8 (mI R 54 s - m)) (ad 4 s) 10 (mI C (ad 4 s) 10 - m)) (ad 4 s) 11 (mI R 56 s + m)) (ad 8 s) J (mI R 64 x - m)) (ad 1 (ix (mI R 63 x))) 5 (mI R 48 (ix (mI R 63 x)) + m)), (sI (sI (sI (sI R 54 s (mI R 54 s - m)) 64 x (mI R 64 x - m)) 48 (ix (mI R 63 x)) (mI R 48 (ix (mI R 63 x)) + m)) 56 s (mI R 56 s + m)), by rw [I_lt, i0T]; exact hmt.1, ?_, fun a p q r t => by rw [row_n r, row_n p, row_n t, row_n q], fun _ v2 k10 _ => by rw [eF]; exact Ce v2 k10, R'e, ?_, ?_, ?_, ?_, fun s' hs4 hne => ⟨?_, ?_⟩⟩
  -- the state
  · generalize hv8 : mI R 54 s - m = v8 at *
    generalize hv10 : mI C (ad 4 s) 10 - m = v10 at *
    generalize hv11 : mI R 56 s + m = v11 at *
    generalize hvl : mI R 64 x - m = vl at *
    generalize hvb : mI R 48 (ix (mI R 63 x)) + m = vb at *
    generalize hwho : ix (mI R 63 x) = W at *
    have D1 := dt.st h.hA 4 s 8 (v := v8) rfl (by decide) lv.1
    have D2 := D1.stc h.hA 4 s 10 (v := v10) rfl (Or.inl (by decide)) lv.1
    have D3 := D2.st h.hA 4 s 11 (v := v11) rfl (by decide) lv.1
    have D4 := D3.stc h.hA 8 s J (v := vl) rfl (Or.inl (by decide)) lv.2.2.2.2.1
    have D5 := (D4.st h.hA 1 W 5 (v := vb) rfl (by decide) lv1).str 64 x (v := vl) rfl
    have eR : sI (sI (sI (sI R 54 s v8) 56 s v11) 48 W vb) 64 x vl = sI (sI (sI (sI R 54 s v8) 64 x vl) 48 W vb) 56 s v11 := by
      rw [sI_comm (sI (sI R 54 s v8) 56 s v11) W x vb vl (by decide), sI_comm (sI R 54 s v8) s x v11 vl (by decide), sI_comm (sI (sI R 54 s v8) 64 x vl) s W v11 vb (by decide)]
    have D5' : Dt ad (sI (sI (sI (sI (sI C (ad 4 s) 8 v8) (ad 4 s) 10 v10) (ad 4 s) 11 v11) (ad 8 s) J vl) (ad 1 W) 5 vb) (sI (sI (sI (sI R 54 s v8) 64 x vl) 48 W vb) 56 s v11) := by
      rw [← eR]; exact D5
    have D6' := D5'.stc h.hA 4 s 6 (v := Int32.ofNat J + 1) rfl (Or.inl (by decide)) lv.1
    -- the reference's side
    have ist' : Ist0 (sI (sI (sI (sI R 54 s v8) 64 x vl) 48 W vb) 56 s v11) := by
      have sw : ∀ s', s' < 4 → sumW (sI (sI (sI (sI R 54 s v8) 64 x vl) 48 W vb) 56 s v11) s' = sumW R s' + (if s' = s then vl.toInt - (mI R 64 x).toInt else 0) := fun s' hs' => sumW_set (sI R 54 s v8) hx hxs (by omega) vl s' hs'
      refine ⟨fun s' hs' => ?_, ist.2.1, fun y hy => ?_, ist.2.2.2⟩
      · obtain ⟨c1, c2, c3, c4, c5⟩ := ist.1 s' hs'
        rw [sw s' hs']
        have sp' : sumP (sI (sI (sI (sI R 54 s v8) 64 x vl) 48 W vb) 56 s v11) s' = sumP R s' := rfl
        rw [sp']
        refine ⟨?_, ?_, ?_, c4, c5⟩
        · show 0 ≤ mI (sI R 54 s v8) 54 s' ∧ mI (sI R 54 s v8) 54 s' ≤ 99999
          rw [mI_sI]
          split
          · rw [I_le, I_le, i0T, i99T]; omega
          · exact c1
        · show (mI R 55 s').toInt = (mI (sI (sI (sI (sI R 54 s v8) 64 x vl) 48 W vb) 56 s v11) 56 s').toInt + (mI R 57 s').toInt + _ + _
          rw [mI_sI]
          by_cases c : s' = s
          · rw [if_pos ⟨rfl, c⟩, if_pos c, t56, c]
            rw [c] at c2
            omega
          · rw [if_neg (fun q => c q.2), if_neg c]
            have : mI (sI (sI (sI R 54 s v8) 64 x vl) 48 W vb) 56 s' = mI R 56 s' := rfl
            rw [this]
            omega
        · show 0 ≤ mI (sI (sI (sI (sI R 54 s v8) 64 x vl) 48 W vb) 56 s v11) 56 s'
          rw [mI_sI]
          split
          · rw [I_le, i0T]; omega
          · exact c3
      · obtain ⟨c1, c2, c3, c4⟩ := ist.2.2.1 y hy
        refine ⟨c1, c2, ?_, c4⟩
        show 0 ≤ mI (sI (sI R 54 s v8) 64 x vl) 64 y
        rw [mI_sI]
        split
        · rw [I_le, i0T]; omega
        · exact c3
    have rrw : ∀ a, a ≠ 39 → a ≠ 48 → ¬ (53 ≤ a ∧ a ≤ 65) → mI (sI (sI (sI (sI R 54 s v8) 64 x vl) 48 W vb) 56 s v11) a = mI R0 a := fun a p q r => by
      rw [row_n (by omega), row_n (by omega), row_n (by omega), row_n (by omega)]
      exact rr a p q r
    -- the queue, with a first that waits
    have qsg : ∀ (F : Int32) (C' : Mm), (∀ c i, c ≠ 4 → c ≠ 8 → c ≠ 1 → mI C' (ad c i) = mI C (ad c i)) → (∀ s' f, mI C' (ad 4 s') f = if s' = s ∧ f = 6 then F else if s' = s ∧ f = 11 then v11 else if s' = s ∧ f = 10 then v10 else if s' = s ∧ f = 8 then v8 else mI C (ad 4 s') f) → (∀ s' f, mI C' (ad 8 s') f = if s' = s ∧ f = J then vl else mI C (ad 8 s') f) → ((vl = 0 ∧ F = Int32.ofNat (J + 1)) ∨ (vl ≠ 0 ∧ F = Int32.ofNat J)) → Qs ad C' (sI (sI (sI (sI R 54 s v8) 64 x vl) 48 W vb) 56 s v11) := by
      intro F C' r1 r4 r8 hF s' hs'
      have hs' : s' < ix (mI R 39 22) := hs'
      obtain ⟨c1, c2, c3, c4, c5, c6, c7, c8⟩ := qs s' hs'
      have sw : sumW (sI (sI (sI (sI R 54 s v8) 64 x vl) 48 W vb) 56 s v11) s' = sumW R s' + (if s' = s then vl.toInt - (mI R 64 x).toInt else 0) := sumW_set (sI R 54 s v8) hx hxs (by omega) vl s' (by rw [es22] at hs'; omega)
      rw [sw, r4, r4, r4, r4, r4, r1 5 s' (by decide) (by decide) (by decide), r1 6 s' (by decide) (by decide) (by decide), r1 7 s' (by decide) (by decide) (by decide), r1 9 s' (by decide) (by decide) (by decide)]
      simp only [show ((2 : Nat) = 6) = False from eq_false (by decide), show ((2 : Nat) = 11) = False from eq_false (by decide), show ((2 : Nat) = 10) = False from eq_false (by decide), show ((2 : Nat) = 8) = False from eq_false (by decide), show ((7 : Nat) = 6) = False from eq_false (by decide), show ((7 : Nat) = 11) = False from eq_false (by decide), show ((7 : Nat) = 10) = False from eq_false (by decide), show ((7 : Nat) = 8) = False from eq_false (by decide), show ((9 : Nat) = 6) = False from eq_false (by decide), show ((9 : Nat) = 11) = False from eq_false (by decide), show ((9 : Nat) = 10) = False from eq_false (by decide), show ((9 : Nat) = 8) = False from eq_false (by decide), show ((10 : Nat) = 6) = False from eq_false (by decide), show ((10 : Nat) = 11) = False from eq_false (by decide), show ((6 : Nat) = 11) = False from eq_false (by decide), show ((6 : Nat) = 10) = False from eq_false (by decide), show ((6 : Nat) = 8) = False from eq_false (by decide), and_false, if_false, and_true]
      have e64 : ∀ y, mI (sI (sI (sI (sI R 54 s v8) 64 x vl) 48 W vb) 56 s v11) 64 y = if y = x then vl else mI R 64 y := fun y => by
        show mI (sI (sI R 54 s v8) 64 x vl) 64 y = _
        rw [mI_sI]
        by_cases c : y = x
        · rw [if_pos ⟨rfl, c⟩, if_pos c]
        · rw [if_neg (fun q => c q.2), if_neg c]; rfl
      -- where another entry of this store stands
      have inj : ∀ y, y < ix (mI R 39 24) → mI R 62 y = Int32.ofNat s → y ≠ x → cnt (mI R 62) (Int32.ofNat s) y ≠ J := fun y hy hys hne e => by
        by_cases c : y < x
        · have := cnt_in (mI R 62) (Int32.ofNat s) c hys
          omega
        · have := cnt_in (mI R 62) (Int32.ofNat s) (show x < y by omega) hxs
          omega
      refine ⟨c1, c2, c3, fun y hy hys => ?_, ?_, fun y hy hys => ?_, c7, ?_⟩
      · have hys : mI R 62 y = Int32.ofNat s' := hys
        obtain ⟨d1, d2, d3⟩ := c4 y hy hys
        refine ⟨d1, ?_, d3⟩
        show mI C' (ad 8 s') (cnt (mI R 62) (Int32.ofNat s') y) = _
        rw [r8, e64]
        by_cases c : y = x
        · have es : s' = s := by
            rw [c, hxs] at hys
            exact ((of_eq s s' (by omega) (by rw [es22] at hs'; omega)).mp hys).symm
          rw [if_pos c, es, c, hJ, if_pos ⟨rfl, rfl⟩]
        · rw [if_neg c, if_neg (fun q => inj y hy (by rw [hys, q.1]) c (by rw [← q.2, q.1]))]
          exact d2
      · by_cases c : s' = s
        · rw [if_pos c, c, q3]
          rcases hF with ⟨-, e⟩ | ⟨-, e⟩
          · rw [e]; exact ⟨of_nn _ (by omega), (of_le _ _ (by omega) (by omega)).mpr (by omega)⟩
          · rw [e]; exact ⟨of_nn _ (by omega), (of_le _ _ (by omega) (by omega)).mpr (by omega)⟩
        · rw [if_neg c]
          exact c5
      · have hys : mI R 62 y = Int32.ofNat s' := hys
        show mI (sI (sI (sI (sI R 54 s v8) 64 x vl) 48 W vb) 56 s v11) 64 y = 0 ↔ cnt (mI R 62) (Int32.ofNat s') y < _
        rw [e64]
        by_cases c : s' = s
        · rw [if_pos c]
          rw [c] at hys c6
          have old := c6 y hy hys
          rw [← hj] at old
          by_cases cy : y = x
          · rw [if_pos cy, cy, c, hJ]
            rcases hF with ⟨e1, e⟩ | ⟨e1, e⟩
            · rw [e, ix_of _ (by omega)]; exact ⟨fun _ => by omega, fun _ => e1⟩
            · rw [e, ix_of _ (by omega)]; exact ⟨fun q => absurd q e1, fun q => by omega⟩
          · rw [if_neg cy, old, c]
            have := inj y hy hys cy
            rcases hF with ⟨e1, e⟩ | ⟨e1, e⟩
            · rw [e, ix_of _ (by omega)]; omega
            · rw [e, ix_of _ (by omega)]
        · rw [if_neg c, if_neg (fun q => c (by
            rw [q, hxs] at hys
            exact ((of_eq s s' (by omega) (by rw [es22] at hs'; omega)).mp hys).symm))]
          exact c6 y hy hys
      · by_cases c : s' = s
        · rw [if_pos c, if_pos c, t10, c, q8]
          omega
        · rw [if_neg c, if_neg c, if_neg (fun q => c q.1), Int.add_zero]
          exact c8
    have base : ∀ c i, c ≠ 4 → c ≠ 8 → c ≠ 1 → mI (sI (sI (sI (sI (sI C (ad 4 s) 8 v8) (ad 4 s) 10 v10) (ad 4 s) 11 v11) (ad 8 s) J vl) (ad 1 W) 5 vb) (ad c i) = mI C (ad c i) := fun c i p q r => by
      rw [row_d h.hA c i r, row_d h.hA c i q, row_d h.hA c i p, row_d h.hA c i p, row_d h.hA c i p]
    have b4' : ∀ s' f, mI (sI (sI (sI (sI (sI C (ad 4 s) 8 v8) (ad 4 s) 10 v10) (ad 4 s) 11 v11) (ad 8 s) J vl) (ad 1 W) 5 vb) (ad 4 s') f = if s' = s ∧ f = 11 then v11 else if s' = s ∧ f = 10 then v10 else if s' = s ∧ f = 8 then v8 else mI C (ad 4 s') f := fun s' f => by
      rw [row_d h.hA 4 s' (by decide), row_d h.hA 4 s' (by decide), mI_sI, mI_sI, mI_sI]
      simp only [adE h.hA, true_and]
    have b8' : ∀ s' f, mI (sI (sI (sI (sI (sI C (ad 4 s) 8 v8) (ad 4 s) 10 v10) (ad 4 s) 11 v11) (ad 8 s) J vl) (ad 1 W) 5 vb) (ad 8 s') f = if s' = s ∧ f = J then vl else mI C (ad 8 s') f := fun s' f => by
      rw [row_d h.hA 8 s' (by decide), mI_sI, row_d h.hA 8 s' (by decide), row_d h.hA 8 s' (by decide), row_d h.hA 8 s' (by decide)]
      simp only [adE h.hA, true_and]
    by_cases cz : vl = 0
    · rw [if_pos cz]
      refine ⟨⟨hK, hR, hZ, hS, hL⟩, ⟨hL', hK', hR'⟩, D6', fun c i hc => ?_, rrw, r39, ⟨i23, i24⟩, ist', qsg (Int32.ofNat J + 1) _ (fun c i p q r => ?_) (fun s' f => ?_) (fun s' f => ?_) (Or.inl ⟨cz, of_s1 J (by omega)⟩)⟩
      · rw [row_d h.hA c i (by omega), base c i (by omega) (by omega) (by omega)]; exact rc c i hc
      · rw [row_d h.hA c i p, base c i p q r]
      · rw [mI_sI, b4']
        simp only [adE h.hA, true_and]
      · rw [row_d h.hA 8 s' (by decide), b8']
    · rw [if_neg cz]
      refine ⟨⟨hK, hR, hZ, hS, hL⟩, ⟨hL', hK', hR'⟩, D5', fun c i hc => ?_, rrw, r39, ⟨i23, i24⟩, ist', qsg (Int32.ofNat J) _ base (fun s' f => ?_) b8' (Or.inr ⟨cz, rfl⟩)⟩
      · rw [base c i (by omega) (by omega) (by omega)]; exact rc c i hc
      · rw [b4']
        by_cases c6 : s' = s ∧ f = 6
        · rw [if_pos c6, c6.1, c6.2, if_neg (fun q => absurd q.2 (by decide)), if_neg (fun q => absurd q.2 (by decide)), if_neg (fun q => absurd q.2 (by decide))]
          exact eF
        · rw [if_neg c6]
  · show mI (sI R 54 s (mI R 54 s - m)) 54 s = _
    rw [mI_sI, if_pos ⟨rfl, rfl⟩]
  · have e1 : mI (sI (sI (sI (sI R 54 s (mI R 54 s - m)) 64 x (mI R 64 x - m)) 48 (ix (mI R 63 x)) (mI R 48 (ix (mI R 63 x)) + m)) 56 s (mI R 56 s + m)) 54 s = mI R 54 s - m := by
      show mI (sI R 54 s (mI R 54 s - m)) 54 s = _
      rw [mI_sI, if_pos ⟨rfl, rfl⟩]
    have sw : sumW (sI (sI (sI (sI R 54 s (mI R 54 s - m)) 64 x (mI R 64 x - m)) 48 (ix (mI R 63 x)) (mI R 48 (ix (mI R 63 x)) + m)) 56 s (mI R 56 s + m)) s = sumW R s + (if s = s then (mI R 64 x - m).toInt - (mI R 64 x).toInt else 0) := sumW_set (sI R 54 s (mI R 54 s - m)) hx hxs (by omega) _ s (by omega)
    rw [e1, sw, if_pos rfl, t54, t64]
    omega
  · intro y hy
    show (mI (sI (sI R 54 s (mI R 54 s - m)) 64 x (mI R 64 x - m)) 64 y).toInt ≤ _
    rw [mI_sI]
    split
    · rename_i q; rw [t64, q.2]; omega
    · exact Int.le_refl _
  · have e1 : mI (sI (sI (sI (sI R 54 s (mI R 54 s - m)) 64 x (mI R 64 x - m)) 48 (ix (mI R 63 x)) (mI R 48 (ix (mI R 63 x)) + m)) 56 s (mI R 56 s + m)) 54 s = mI R 54 s - m := by
      show mI (sI R 54 s (mI R 54 s - m)) 54 s = _
      rw [mI_sI, if_pos ⟨rfl, rfl⟩]
    rw [e1]
    by_cases c : m.toInt = (mI R 54 s).toInt
    · left
      exact I_eq (by rw [t54, i0T]; omega)
    · right
      have e2 : mI R 64 x - m = 0 := I_eq (by rw [t64, i0T]; omega)
      refine ⟨by rw [I_lt, i0T, t54]; omega, ?_, ?_⟩
      · show mI (sI (sI R 54 s (mI R 54 s - m)) 64 x (mI R 64 x - m)) 64 x = 0
        rw [mI_sI, if_pos ⟨rfl, rfl⟩, e2]
      · rw [if_pos e2, mI_sI, if_pos ⟨rfl, rfl⟩, eF]
  · have sw := sumW_set (sI R 54 s (mI R 54 s - m)) hx hxs (by omega) (mI R 64 x - m) s' hs4
    rw [if_neg hne, Int.add_zero] at sw
    exact sw
  · show mI (sI R 54 s (mI R 54 s - m)) 54 s' = _
    rw [mI_sI, if_neg (fun q => hne q.2)]
end S4
