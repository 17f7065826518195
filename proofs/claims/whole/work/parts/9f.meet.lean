section Y6
theorem lp_meet {s c : Nat} {p b : Int32} : ∀ (d n n2 i q k : Nat) (ad : Nat → Nat → Nat) (C R : Mm) (r : Int32) (X : Nat), Rel k ad C R → mI R 39 73 = 1 → s + 1 = ix (mI R 39 70) → ad 10 s = X → c + 1 = ix (mI R 87 s) → ix (mI R 88 s) = q → i ≤ q → q + d = 60 → mZ C + d ≤ 116 + 100 * k → mS C + 14 * d ≤ 45818 + 2000 * k → d < n → d < n2 → mI R 92 (60 * s + c) = p → mI R 97 (60 * s + c) = b → mI R 95 (60 * s + c) = mI R 39 0 → (mI R 109 c = 0 → r = -1) → (mI R 109 c ≠ 0 → Mod_against R 39 (Int32.ofNat s) (Int32.ofNat c) (Int32.ofNat c) = some (r, R)) → ∃ C' R' ad', Session_meet_L30 n X (Int32.ofNat c) (Int32.ofNat i) C = some ((), C') ∧ Mod_cry_L244 n2 39 p b (Int32.ofNat s) (Int32.ofNat c) r R = some (Int32.ofNat c, R') ∧ Rel k ad' C' R' := by
  intro d
  induction d with
  | zero =>
    intro n n2 i q k ad C R r X h o t1 hX hc hq hi hd m1 m2 hn hn2 hp hb ht r1 r2
    obtain ⟨n, rfl⟩ : ∃ x, n = x + 1 := ⟨n - 1, by omega⟩
    obtain ⟨n2, rfl⟩ : ∃ x, n2 = x + 1 := ⟨n2 - 1, by omega⟩
    subst hX
    have hN := n24 h
    have s24 : s < 24 := by omega
    have hs : s < ix (mI R 39 70) := by omega
    have h60 := n60 h s24
    have so := h.ison o
    rw [← t1, Nat.add_sub_cancel] at so
    have z : mI R 109 c = 0 := by
      apply Classical.byContradiction
      intro w
      have := sumTo_nn (f := fun i => if mI R 109 i = 0 then (0 : Int) else 1) (n := 60) (fun j _ => by show (0 : Int) ≤ if mI R 109 j = 0 then (0 : Int) else 1; split <;> omega)
      have s1 := sumTo_one (f := fun i => if mI R 109 i = 0 then (0 : Int) else 1) (g := fun i => if i = c then 0 else if mI R 109 i = 0 then (0 : Int) else 1) (n := 60) (i := c) (by omega) (fun j _ w => by show _ = if j = c then (0 : Int) else _; rw [if_neg w])
      have s2 := sumTo_nn (f := fun i => if i = c then 0 else if mI R 109 i = 0 then (0 : Int) else 1) (n := 60) (fun j _ => by show (0 : Int) ≤ if j = c then 0 else if mI R 109 j = 0 then (0 : Int) else 1; split <;> (try split) <;> omega)
      have s3 : (if mI R 109 c = 0 then (0 : Int) else 1) - (if c = c then 0 else if mI R 109 c = 0 then (0 : Int) else 1) = 1 := by rw [if_neg w, if_pos rfl]; rfl
      have s1 : sumTo (fun i => if mI R 109 i = 0 then (0 : Int) else 1) 60 = sumTo (fun i => if i = c then 0 else if mI R 109 i = 0 then (0 : Int) else 1) 60 + ((if mI R 109 c = 0 then (0 : Int) else 1) - (if c = c then 0 else if mI R 109 c = 0 then (0 : Int) else 1)) := s1
      rw [s3] at s1
      have := so.2.2.2.2
      omega
    have C0 : (0 : Int32) ≤ Int32.ofNat c := of_nn _ (by omega)
    have C1 : ix (Int32.ofNat c) = c := ix_of _ (by omega)
    have sh := h.shn.1 s hs
    have st := h.son.2 o c (by omega)
    rw [← t1, Nat.add_sub_cancel, z] at st
    refine ⟨C, R, ad, ?_, ?_, h⟩
    · show Session_meet_B30 _ _ _ _ _ = _
      unfold Session_meet_B30
      simp only [kO_t sh.2.1, ck_t, sh.2.2.2.1, nn_s, kA_t sh.2.2.2.2.2.2.1 C0 (show ix (Int32.ofNat c) < 60 by omega), C1, st, if_pos (show (0 : Int32) ≤ 0 by decide)]
      split <;> rfl
    · show Mod_cry_B244 _ _ _ _ _ _ _ _ = _
      unfold Mod_cry_B244
      rw [r1 z, if_pos (by decide)]
  | succ d ih =>
    intro n n2 i q k ad C R r X h o t1 hX hc hq hi hd m1 m2 hn hn2 hp hb ht r1 r2
    obtain ⟨n, rfl⟩ : ∃ x, n = x + 1 := ⟨n - 1, by omega⟩
    obtain ⟨n2, rfl⟩ : ∃ x, n2 = x + 1 := ⟨n2 - 1, by omega⟩
    subst hX
    have hN := n24 h
    have s24 : s < 24 := by omega
    have hs : s < ix (mI R 39 70) := by omega
    have h60 := n60 h s24
    have C0 : (0 : Int32) ≤ Int32.ofNat c := of_nn _ (by omega)
    have C1 : ix (Int32.ofNat c) = c := ix_of _ (by omega)
    have sh := h.shn.1 s hs
    have stA := h.son.2 o
    rw [← t1, Nat.add_sub_cancel] at stA
    have so := h.ison o
    rw [← t1, Nat.add_sub_cancel] at so
    by_cases z : mI R 109 c = 0
    · refine ⟨C, R, ad, ?_, ?_, h⟩
      · show Session_meet_B30 _ _ _ _ _ = _
        unfold Session_meet_B30
        simp only [kO_t sh.2.1, ck_t, sh.2.2.2.1, nn_s, kA_t sh.2.2.2.2.2.2.1 C0 (show ix (Int32.ofNat c) < 60 by omega), C1, stA c (by omega), z, if_pos (show (0 : Int32) ≤ 0 by decide)]
        split <;> rfl
      · show Mod_cry_B244 _ _ _ _ _ _ _ _ = _
        unfold Mod_cry_B244
        rw [r1 z, if_pos (by decide)]
    · have ra := r2 z
      obtain ⟨r', b1, b2, b3⟩ := ev_part h hs (show c < ix (mI R 87 s) by omega) sh.2.2.2.2.2.2.1 (fun j hj => ⟨stA j (by omega), (so.2.2.1 j (by omega)).1⟩)
      obtain rfl : r' = r := by rw [ra] at b2; injection b2 with b2; exact (Prod.mk.inj b2).1.symm
      have bc := so.2.2.1 c (by omega)
      have pos : ¬ mI C (ad 12 s) c ≤ 0 := by rw [stA c (by omega)]; clear h; grind
      have e87 : mI R 87 s = Int32.ofNat (c + 1) := by rw [hc]; exact (of_ix _ h60.2.2.1).symm
      have q1 : q + 1 ≤ c + 1 := by
        have s1 := sumTo_one (f := fun i => if mI R 109 i = 0 then (0 : Int) else 1) (g := fun i => if i = c then 0 else if mI R 109 i = 0 then (0 : Int) else 1) (n := 60) (i := c) (by omega) (fun j _ w => by show _ = if j = c then (0 : Int) else _; rw [if_neg w])
        have s2 := sumTo_nn (f := fun i => if i = c then 0 else if mI R 109 i = 0 then (0 : Int) else 1) (n := 60) (fun j _ => by show (0 : Int) ≤ if j = c then 0 else if mI R 109 j = 0 then (0 : Int) else 1; split <;> (try split) <;> omega)
        have s3 : (if mI R 109 c = 0 then (0 : Int) else 1) - (if c = c then 0 else if mI R 109 c = 0 then (0 : Int) else 1) = 1 := by rw [if_neg z, if_pos rfl]; rfl
        have s1 : sumTo (fun i => if mI R 109 i = 0 then (0 : Int) else 1) 60 = sumTo (fun i => if i = c then 0 else if mI R 109 i = 0 then (0 : Int) else 1) 60 + ((if mI R 109 c = 0 then (0 : Int) else 1) - (if c = c then 0 else if mI R 109 c = 0 then (0 : Int) else 1)) := s1
        rw [s3] at s1
        have := so.2.2.2.2
        omega
      have i4 : ¬ mI C (ad 10 s) 4 ≤ Int32.ofNat i := by
        rw [h.ln4 hs, e87]
        intro w
        have := (of_le (c + 1) i (by omega) (by omega)).mp w
        omega
      rcases b3 with w | ⟨w0, w1, w2⟩
      · subst w
        refine ⟨C, R, ad, ?_, ?_, h⟩
        · show Session_meet_B30 _ _ _ _ _ = _
          unfold Session_meet_B30
          simp only [kO_t sh.2.1, ck_t, if_neg i4, sh.2.2.2.1, nn_s, kA_t sh.2.2.2.2.2.2.1 C0 (show ix (Int32.ofNat c) < 60 by omega), C1, if_neg pos, b1, bd_s, if_true]
        · show Mod_cry_B244 _ _ _ _ _ _ _ _ = _
          unfold Mod_cry_B244
          rw [if_pos (by decide)]
      · -- a bargain
        have j60 : ix r' < 60 := by omega
        have bj := so.2.2.1 (ix r') j60
        have e88 : mI R 88 s = Int32.ofNat q := by rw [← hq]; exact (of_ix _ h60.2.2.2).symm
        have i5 : mI C (ad 10 s) 5 = Int32.ofNat q := by rw [h.ln5 hs, e88]
        have tR := turn_R (R := R) (s := s) (c := c) (q := q) (p := p) (b := b) (r := r') (u := mI R 109 c) (v := mI R 109 (ix r')) (Mod_cry_L244 n2) h.sr s24 (by omega) (by omega) e88 w0 w1 rfl rfl
        have eS := ev_strike (M := C) (T := ad 12 s) (c := c) (r := r') (u := mI R 109 c) (v := mI R 109 (ix r')) sh.2.2.2.2.2.2.1 (by omega) w0 j60 (by omega) (stA c (by omega)) (stA (ix r') j60)
        have un : ∃ nn0 u w : Int32, (if mI R 109 (ix r') < mI R 109 c then mI R 109 (ix r') else mI R 109 c) = nn0 ∧ mI R 109 c - nn0 = u ∧ mI R 109 (ix r') - nn0 = w ∧ (1 ≤ nn0 ∧ nn0 ≤ 50) ∧ (0 ≤ u ∧ u ≤ 50) ∧ (0 ≤ w ∧ w ≤ 50) ∧ (u = 0 ∨ w = 0) := by
          refine ⟨_, _, _, rfl, rfl, rfl, ?_⟩
          have x1 := bc
          have x2 := bj
          have x3 := z
          have x4 := w2
          generalize mI R 109 c = a1 at x1 x3 ⊢
          generalize mI R 109 (ix r') = a2 at x2 x4 ⊢
          clear tR eS ra b1 b2 r1 r2 so stA sh h ih
          split <;> grind
        obtain ⟨n0, u, w, en, eu, ew, hn0, hu, hw, huw⟩ := un
        rw [en, eu, ew] at tR eS
        -- places
        have nz : ∀ c' i', (if c' = 15 ∧ i' = 60 * s + q then mZ C else 0) ≠ 0 → c' = 15 ∧ i' = 60 * s + q := fun c' i' y => by
          apply Classical.byContradiction
          intro y2
          rw [if_neg y2] at y
          exact y rfl
        have hz := h.lv.1
        obtain ⟨ad', y1, y2, y3, y4⟩ := h.re (fun c' i' => if c' = 15 ∧ i' = 60 * s + q then mZ C else 0) (fun c' i' y => by
          have x := nz c' i' y
          show mZ C ≤ (if c' = 15 ∧ i' = 60 * s + q then mZ C else 0) ∧ (if c' = 15 ∧ i' = 60 * s + q then mZ C else 0) < mZ C + 200 ∧ ¬ Al R c' i'
          rw [if_pos x]
          refine ⟨by omega, by omega, ?_⟩
          unfold Al
          have x2 : i' / 60 = s := by omega
          have x3 : i' % 60 = q := by omega
          rw [x2, x3, hq]
          omega) (fun c' i' c2 i2 y e => by
          have x := nz c' i' y
          have e : (if c' = 15 ∧ i' = 60 * s + q then mZ C else 0) = (if c2 = 15 ∧ i2 = 60 * s + q then mZ C else 0) := e
          rw [if_pos x] at e
          by_cases x' : c2 = 15 ∧ i2 = 60 * s + q
          · omega
          · rw [if_neg x'] at e; omega)
        have a10 : ad' 10 s = ad 10 s := y3 10 s (alN (by decide) hs)
        have a12 : ad' 12 s = ad 12 s := y3 12 s (alN (by decide) hs)
        have a13 : ad' 13 s = ad 13 s := y3 13 s (alN (by decide) hs)
        have a15 : ad' 15 (60 * s + q) = mZ C := by
          have e : (if (15 : Nat) = 15 ∧ 60 * s + q = 60 * s + q then mZ C else 0) = mZ C := if_pos ⟨rfl, rfl⟩
          have := y2 15 (60 * s + q) (by show (if (15 : Nat) = 15 ∧ 60 * s + q = 60 * s + q then mZ C else 0) ≠ 0; rw [e]; omega)
          exact this.trans e
        have far : ∀ c' i', ¬ (c' = 15 ∧ i' = 60 * s + q) → ad' c' i' < mZ C ∨ mZ C + 200 ≤ ad' c' i' := fun c' i' y => by
          by_cases a : Al R c' i'
          · left; exact al_lt y1 a
          · right
            refine y4 c' i' a ?_
            show (if c' = 15 ∧ i' = 60 * s + q then mZ C else 0) = 0
            rw [if_neg y]
        have z5 := h.ise.2.2.2.2.1
        have fc := z5 s c s24 (by omega)
        have fj := z5 s (ix r') s24 (by omega)
        rw [hp, hb] at fc
        have hbr : BR R (tR' R s c (ix r') q p b n0 u w) s c (ix r') q u w (if b = 0 then mI R 92 (60 * s + ix r') else p) (if b = 0 then p else mI R 92 (60 * s + ix r')) n0 (mI R 94 (60 * s + ix r')) (mI R 39 0) := by
          unfold tR'
          refine ⟨fun j => ?_, fun j => ?_, fun j => ?_, fun j => ?_, fun j => ?_, fun j => ?_, fun j => ?_, fun a a1 a2 a3 a4 a5 a6 a7 => ?_, rfl, rfl, rfl⟩
          · rw [row_n (show 98 ≠ 88 by decide), row_n (show 98 ≠ 102 by decide), row_n (show 98 ≠ 101 by decide), row_n (show 98 ≠ 100 by decide), row_n (show 98 ≠ 99 by decide), mI_sI, row_n (show 98 ≠ 109 by decide), row_n (show 98 ≠ 109 by decide)]
            by_cases y : j = 60 * s + q
            · rw [if_pos ⟨rfl, y⟩, if_pos y]
            · rw [if_neg (fun z => y z.2), if_neg y]
          · rw [row_n (show 99 ≠ 88 by decide), row_n (show 99 ≠ 102 by decide), row_n (show 99 ≠ 101 by decide), row_n (show 99 ≠ 100 by decide), mI_sI, row_n (show 99 ≠ 98 by decide), row_n (show 99 ≠ 109 by decide), row_n (show 99 ≠ 109 by decide)]
            by_cases y : j = 60 * s + q
            · rw [if_pos ⟨rfl, y⟩, if_pos y]
            · rw [if_neg (fun z => y z.2), if_neg y]
          · rw [row_n (show 100 ≠ 88 by decide), row_n (show 100 ≠ 102 by decide), row_n (show 100 ≠ 101 by decide), mI_sI, row_n (show 100 ≠ 99 by decide), row_n (show 100 ≠ 98 by decide), row_n (show 100 ≠ 109 by decide), row_n (show 100 ≠ 109 by decide)]
            by_cases y : j = 60 * s + q
            · rw [if_pos ⟨rfl, y⟩, if_pos y]
            · rw [if_neg (fun z => y z.2), if_neg y]
          · rw [row_n (show 101 ≠ 88 by decide), row_n (show 101 ≠ 102 by decide), mI_sI, row_n (show 101 ≠ 100 by decide), row_n (show 101 ≠ 99 by decide), row_n (show 101 ≠ 98 by decide), row_n (show 101 ≠ 109 by decide), row_n (show 101 ≠ 109 by decide)]
            by_cases y : j = 60 * s + q
            · rw [if_pos ⟨rfl, y⟩, if_pos y]
            · rw [if_neg (fun z => y z.2), if_neg y]
          · rw [row_n (show 102 ≠ 88 by decide), mI_sI, row_n (show 102 ≠ 101 by decide), row_n (show 102 ≠ 100 by decide), row_n (show 102 ≠ 99 by decide), row_n (show 102 ≠ 98 by decide), row_n (show 102 ≠ 109 by decide), row_n (show 102 ≠ 109 by decide)]
            by_cases y : j = 60 * s + q
            · rw [if_pos ⟨rfl, y⟩, if_pos y]
            · rw [if_neg (fun z => y z.2), if_neg y]
          · rw [mI_sI, row_n (show 88 ≠ 102 by decide), row_n (show 88 ≠ 101 by decide), row_n (show 88 ≠ 100 by decide), row_n (show 88 ≠ 99 by decide), row_n (show 88 ≠ 98 by decide), row_n (show 88 ≠ 109 by decide), row_n (show 88 ≠ 109 by decide)]
            by_cases y : j = s
            · rw [if_pos ⟨rfl, y⟩, if_pos y]
            · rw [if_neg (fun z => y z.2), if_neg y]
          · rw [row_n (show 109 ≠ 88 by decide), row_n (show 109 ≠ 102 by decide), row_n (show 109 ≠ 101 by decide), row_n (show 109 ≠ 100 by decide), row_n (show 109 ≠ 99 by decide), row_n (show 109 ≠ 98 by decide), mI_sI, mI_sI]
            by_cases y : j = ix r'
            · rw [if_pos ⟨rfl, y⟩, if_pos y]
            · rw [if_neg (fun z => y z.2), if_neg y]
              by_cases y : j = c
              · rw [if_pos ⟨rfl, y⟩, if_pos y]
              · rw [if_neg (fun z => y z.2), if_neg y]
          · rw [row_n a6, row_n a5, row_n a4, row_n a3, row_n a2, row_n a1, row_n a7, row_n a7]
        have rel := barg_R (c := c) (j0 := ix r') (q := q) (u := u) (w := w) y1 o t1 (by omega) w1 hq z w2 hu hw huw (by_ := if b = 0 then mI R 92 (60 * s + ix r') else p) (by split; exact fj.1; exact fc.1) (se := if b = 0 then p else mI R 92 (60 * s + ix r')) (by split; exact fc.1; exact fj.1) hn0 fj.2.2.2.1 (t := mI R 39 0) ⟨h.isc.now.1, by clear h tR eS; grind⟩ a15 far ⟨by omega, by omega⟩ hbr
        rw [a10, a12, a13] at rel
        -- the class's turn
        have sc := sh.2.2.2.2.2.2.2.2.1 c (by omega)
        have sj := sh.2.2.2.2.2.2.2.2.1 (ix r') (by omega)
        have ge := h.hA.1
        have zl : ∀ c' i', Al R c' i' → ad c' i' ≠ mZ C := fun c' i' a => by have := al_lt h a; omega
        have l10 := zl 10 s (alN (by decide) hs)
        have l11 := zl 11 s (alN (by decide) hs)
        have l12 := zl 12 s (alN (by decide) hs)
        have l13 := zl 13 s (alN (by decide) hs)
        have lc := zl 14 (60 * s + c) (al14 h hs (by omega))
        have lj := zl 14 (60 * s + ix r') (al14 h hs (by omega))
        have ne12 : ∀ c' i', c' ≠ 12 → mI (sI (sI C (ad 12 s) c u) (ad 12 s) (ix r') w) (ad c' i') = mI C (ad c' i') := fun c' i' y => (row_d h.hA c' i' y).trans (row_d h.hA c' i' y)
        generalize hM : sI (sI C (ad 12 s) c u) (ad 12 s) (ix r') w = M at eS ne12
        have zM : mZ M = mZ C := by rw [← hM]; rfl
        have kM : mK M = mK C := by rw [← hM]; rfl
        have rM : mR M = mR C := by rw [← hM]; rfl
        have kN : ∀ a, a ≠ mZ C → mK (nw M 0 14) a = mK C a := fun a y => by rw [mK_nw, zM, if_neg y, kM]
        have rN : ∀ a, a ≠ mZ C → mR (nw M 0 14) a = mR C a := fun a y => by funext j; rw [mR_nw, zM, if_neg y, rM]
        have iN : ∀ c' i', Al R c' i' → c' ≠ 12 → mI (nw M 0 14) (ad c' i') = mI C (ad c' i') := fun c' i' y y2 => by
          funext j
          rw [mI_nw, zM, if_neg (zl c' i' y), ne12 c' i' y2]
        have kz : mK (nw M 0 14) (mZ C) = (0, 14) := by rw [mK_nw, zM, if_pos rfl]
        have eB := ev_bnew (M := nw M 0 14) (z := mZ C) (X := ad 14 (60 * s + c)) (Y := ad 14 (60 * s + ix r')) (n := n0) kz (by rw [kN _ lc]; exact sc.2) (by rw [kN _ lj]; exact sj.2) lc lj
        rw [iN 14 _ (al14 h hs (by omega)) (by decide), iN 14 _ (al14 h hs (by omega)) (by decide), h.lc0 hs (by omega), h.lc0 hs (by omega), h.lc1 hs (by omega), h.lc3 hs (by omega), h.lc4 hs (by omega), hp, hb, ht] at eB
        have hfin : sI (sR (sI (sI (sI (sI (sI (nw M 0 14) (mZ C) 0 (if b = 0 then mI R 92 (60 * s + ix r') else p)) (mZ C) 1 (if b = 0 then p else mI R 92 (60 * s + ix r'))) (mZ C) 2 n0) (mZ C) 3 (mI R 94 (60 * s + ix r'))) (mZ C) 4 (mI R 39 0)) (ad 13 s) q (some (mZ C))) (ad 10 s) 5 (Int32.ofNat (q + 1)) = bC C (ad 10 s) (ad 12 s) (ad 13 s) c (ix r') q u w (if b = 0 then mI R 92 (60 * s + ix r') else p) (if b = 0 then p else mI R 92 (60 * s + ix r')) n0 (mI R 94 (60 * s + ix r')) (mI R 39 0) (Int32.ofNat (q + 1)) := by
          unfold bC
          rw [hM]
        generalize hP : sI (sI (sI (sI (sI (nw M 0 14) (mZ C) 0 (if b = 0 then mI R 92 (60 * s + ix r') else p)) (mZ C) 1 (if b = 0 then p else mI R 92 (60 * s + ix r'))) (mZ C) 2 n0) (mZ C) 3 (mI R 94 (60 * s + ix r'))) (mZ C) 4 (mI R 39 0) = P at eB hfin
        have kP : mK P = mK (nw M 0 14) := by rw [← hP]; rfl
        have pP : mI P (ad 10 s) = mI C (ad 10 s) := by
          rw [← hP, row_n l10, row_n l10, row_n l10, row_n l10, row_n l10]
          exact iN 10 s (alN (by decide) hs) (by decide)
        have Q0 : (0 : Int32) ≤ Int32.ofNat q := of_nn _ (by omega)
        have Q1 : ix (Int32.ofNat q) = q := ix_of _ (by omega)
        have q59 : mI C (ad 10 s) 5 < 60 := by rw [i5]; exact (of_lt q 60 (by omega) (by omega)).mpr (by omega)
        have tC := turn_C (C := C) (M := M) (N := nw M 0 14) (P := P) (X := ad 10 s) (T := ad 12 s) (S11 := ad 11 s) (S13 := ad 13 s) (X1 := ad 14 (60 * s + c)) (Y1 := ad 14 (60 * s + ix r')) (z := mZ C) (c := c) (i := i) (r := r') (n := n0) (q := Int32.ofNat q) (Session_meet_L30 n) sh.2.1 i4 sh.2.2.2.1 sh.2.2.2.2.2.2.1 (by omega) pos b1 w0 j60 q59 eS (by rw [kM]; exact sh.2.1) (by rw [rM]; exact sh.2.2.2.2.1) (by rw [ne12 10 s (by decide)]; exact i5) zM rfl (by rw [kN _ l10]; exact sh.2.1) (by rw [rN _ l10]; exact sh.2.2.1) (by rw [kN _ l11]; exact sh.2.2.2.2.2.1) (by rw [rN _ l11]; exact sc.1) (by rw [rN _ l11]; exact sj.1) eB Q0 (by omega) (by rw [kP, kN _ l13]; exact sh.2.2.2.2.2.2.2.1) (by rw [kP]; exact kz) (by rw [kP, kN _ l10]; exact sh.2.1) (by rw [pP]; exact i5) (by omega)
        rw [Q1, of_s1 q (by omega), hfin] at tC
        have zC' := bC_Z (C := C) (S10 := ad 10 s) (T := ad 12 s) (S13 := ad 13 s) (c := c) (j0 := ix r') (q := q) (u := u) (w := w) (by_ := if b = 0 then mI R 92 (60 * s + ix r') else p) (se := if b = 0 then p else mI R 92 (60 * s + ix r')) (n := n0) (pr := mI R 94 (60 * s + ix r')) (t := mI R 39 0) (v := Int32.ofNat (q + 1))
        have sC' := bC_S (C := C) (S10 := ad 10 s) (T := ad 12 s) (S13 := ad 13 s) (c := c) (j0 := ix r') (q := q) (u := u) (w := w) (by_ := if b = 0 then mI R 92 (60 * s + ix r') else p) (se := if b = 0 then p else mI R 92 (60 * s + ix r')) (n := n0) (pr := mI R 94 (60 * s + ix r')) (t := mI R 39 0) (v := Int32.ofNat (q + 1))
        clear hfin hP eB kP pP hM kM rM kN rN iN kz
        generalize bC C (ad 10 s) (ad 12 s) (ad 13 s) c (ix r') q u w (if b = 0 then mI R 92 (60 * s + ix r') else p) (if b = 0 then p else mI R 92 (60 * s + ix r')) n0 (mI R 94 (60 * s + ix r')) (mI R 39 0) (Int32.ofNat (q + 1)) = C2 at *
        obtain ⟨q98, q99, q100, q101, q102, q88, q109, qo, -⟩ := hbr
        generalize tR' R s c (ix r') q p b n0 u w = R2 at *
        have g39 := qo 39 (by decide) (by decide) (by decide) (by decide) (by decide) (by decide) (by decide)
        have g87 := qo 87 (by decide) (by decide) (by decide) (by decide) (by decide) (by decide) (by decide)
        have g92 := qo 92 (by decide) (by decide) (by decide) (by decide) (by decide) (by decide) (by decide)
        have g97 := qo 97 (by decide) (by decide) (by decide) (by decide) (by decide) (by decide) (by decide)
        have g95 := qo 95 (by decide) (by decide) (by decide) (by decide) (by decide) (by decide) (by decide)
        have n109 : mI R2 109 c = u := by rw [q109, if_neg (by omega), if_pos rfl]
        have n88 : ix (mI R2 88 s) = q + 1 := by rw [q88, if_pos rfl, ix_of _ (by omega)]
        have go : ∀ r2, (mI R2 109 c = 0 → r2 = -1) → (mI R2 109 c ≠ 0 → Mod_against R2 39 (Int32.ofNat s) (Int32.ofNat c) (Int32.ofNat c) = some (r2, R2)) → ∃ C' R' ad', Session_meet_L30 n (ad 10 s) (Int32.ofNat c) (Int32.ofNat (i + 1)) C2 = some ((), C') ∧ Mod_cry_L244 n2 39 p b (Int32.ofNat s) (Int32.ofNat c) r2 R2 = some (Int32.ofNat c, R') ∧ Rel k ad' C' R' := fun r2 x1 x2 => ih n n2 (i + 1) (q + 1) k ad' C2 R2 r2 (ad 10 s) rel (by rw [g39]; exact o) (by rw [g39]; exact t1) a10 (by rw [g87]; exact hc) n88 (by omega) (by omega) (by omega) (by omega) (by omega) (by omega) (by rw [g92]; exact hp) (by rw [g97]; exact hb) (by rw [g95, g39]; exact ht) x1 x2
        by_cases u0 : u = 0
        · obtain ⟨C3, R3, ad3, x1, x2, x3⟩ := go (-1) (fun _ => rfl) (fun y => absurd (n109.trans u0) y)
          refine ⟨C3, R3, ad3, ?_, ?_, x3⟩
          · show Session_meet_B30 _ _ _ _ _ = _
            rw [tC]; exact x1
          · show Mod_cry_B244 _ _ _ _ _ _ _ _ = _
            rw [tR]
            show (if u = 0 then _ else _) = _
            rw [if_pos u0]; exact x2
        · have stA2 := rel.son.2 (by rw [g39]; exact o)
          have so2 := rel.ison (by rw [g39]; exact o)
          rw [g39, ← t1, Nat.add_sub_cancel, a12] at stA2
          have hs2 : s < ix (mI R2 39 70) := by rw [g39]; exact hs
          have kT2 := (rel.shn.1 s hs2).2.2.2.2.2.2.1
          rw [a12] at kT2
          obtain ⟨r2, v1, v2, -⟩ := ev_part rel hs2 (show c < ix (mI R2 87 s) by rw [g87]; omega) kT2 (fun j hj => ⟨stA2 j (by omega), (so2.2.2.1 j (by omega)).1⟩)
          obtain ⟨C3, R3, ad3, x1, x2, x3⟩ := go r2 (fun y => absurd (n109.symm.trans y) u0) (fun _ => v2)
          refine ⟨C3, R3, ad3, ?_, ?_, x3⟩
          · show Session_meet_B30 _ _ _ _ _ = _
            rw [tC]; exact x1
          · show Mod_cry_B244 _ _ _ _ _ _ _ _ = _
            rw [tR]
            show (if u = 0 then _ else _) = _
            rw [if_neg u0, v2, bd_s]; exact x2
end Y6
