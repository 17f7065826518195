section Q6
variable {k : Nat} {ad : Nat → Nat → Nat} {C R : Mm}
theorem cc_cg {f g : Nat → Int32} {b : Nat} : ∀ {n : Nat}, (∀ j, j < n → f (b + j) = g (b + j)) → cc f b n = cc g b n
  | 0, _ => rfl
  | n + 1, h => by
    show cc f b n + (if f (b + n) < 100 then 1 else 0) = cc g b n + (if g (b + n) < 100 then 1 else 0)
    rw [cc_cg (fun j hj => h j (by omega)), h n (by omega)]
theorem cc_le {f : Nat → Int32} {b : Nat} : ∀ {n : Nat}, cc f b n ≤ n
  | 0 => Nat.le_refl 0
  | n + 1 => by
    have := cc_le (f := f) (b := b) (n := n)
    show cc f b n + (if f (b + n) < 100 then 1 else 0) ≤ n + 1
    split <;> omega
theorem cc_mo {f : Nat → Int32} {b : Nat} : ∀ {n j : Nat}, j ≤ n → cc f b j ≤ cc f b n
  | 0, j, h => by rw [show j = 0 by omega]; exact Nat.le_refl _
  | n + 1, j, h => by
    show cc f b j ≤ cc f b n + (if f (b + n) < 100 then 1 else 0)
    by_cases e : j = n + 1
    · subst e; exact Nat.le_refl _
    · have := cc_mo (f := f) (b := b) (n := n) (j := j) (by omega)
      split <;> omega
theorem sumTo_ub {f : Nat → Int} : ∀ {n : Nat}, (∀ j, j < n → f j ≤ 1) → sumTo f n ≤ n
  | 0, _ => Int.le_refl 0
  | n + 1, h => by
    have h1 := sumTo_ub (n := n) (fun j hj => h j (by omega))
    have h2 := h n (by omega)
    show sumTo f n + f n ≤ ((n + 1 : Nat) : Int)
    omega
theorem sumTo_ub1 {f : Nat → Int} {i : Nat} : ∀ {n : Nat}, i < n → f i = 0 → (∀ j, j < n → f j ≤ 1) → sumTo f n + 1 ≤ n
  | 0, h, _, _ => by omega
  | n + 1, h, hi, hh => by
    show sumTo f n + f n + 1 ≤ ((n + 1 : Nat) : Int)
    by_cases e : i = n
    · subst e
      have := sumTo_ub (f := f) (n := i) (fun j hj => hh j (by omega))
      omega
    · have h1 := sumTo_ub1 (f := f) (i := i) (n := n) (by omega) hi (fun j hj => hh j (by omega))
      have h2 := hh n (by omega)
      omega
theorem bk01 (x : Int32) : (if x = -1 then (0 : Int) else 1) ≤ 1 ∧ 0 ≤ (if x = -1 then (0 : Int) else 1) := by split <;> omega
theorem sim_back (h : Rel k ad C R) (hk : k < 512) (a : Int32) : Sim k (Hall_back C 8 a) (Mod_back R 39 a) := by
  unfold Hall_back Mod_back Session_takeBack
  have s1 : ∀ r : Int32, Sim k (some (r, C)) (some (r, R)) := fun r => ⟨_, _, _, ad, rfl, rfl, h.up hk⟩
  have hN := n24 h
  rcases h.isc.on with o | o
  · have e14 : mR C 8 14 = none := by rw [h.shn.2.1, o]; rfl
    simp only [h.o8, h.o39, ck_t, e14, nl_n, o, if_true]
    exact s1 _
  · obtain ⟨s, t1, t2, t3, t4⟩ := on_s h o
    have hs : s < ix (mI R 39 70) := by omega
    have sh := h.shn.1 s hs
    have h60 := n60 h t2
    have s0 : (0 : Int32) ≤ Int32.ofNat s := of_nn s (by omega)
    have s2 : ix (Int32.ofNat s) = s := ix_of s (by omega)
    have bb := h.ise.1 s t2
    have st := h.son.2 o
    rw [← t1] at st
    have st : ∀ c, c < 60 → mI C (ad 12 s) c = mI R 109 c := st
    simp only [h.o8, h.o39, ck_t, t4, nl_s, nn_s, kO_t sh.2.1, o, i10, if_false, t3, h.ln4 hs, h.sr.r39_78, kA_t h.sr.k87 s0 (show ix (Int32.ofNat s) < 24 by omega), s2]
    by_cases h2 : a < 0
    · simp only [if_pos h2, bd_s]
      exact s1 _
    · by_cases h3 : mI R 87 s ≤ a
      · simp only [if_neg h2, if_pos h3, bd_s]
        exact s1 _
      · have a0 : 0 ≤ a := by grind
        have hc : ix a < ix (mI R 87 s) := ix_mo a0 (by grind)
        have a60 : ix a < 60 := by omega
        have sc := sh.2.2.2.2.2.2.2.2.1 (ix a) hc
        simp only [if_neg h2, if_neg h3, sh.2.2.2.1, nn_s, kA_t sh.2.2.2.2.2.2.1 a0 a60, ck_t, st (ix a) a60, h.sr.r39_100, kA_t h.sr.k109 a0 a60]
        by_cases h4 : mI R 109 (ix a) = 0
        · simp only [if_pos h4, bd_s]
          exact s1 _
        · obtain ⟨v1, v2, v3, v4, v5⟩ := h.evs s hs
          have bm : mI C (ad 14 (60 * s + ix a)) 5 = -1 := by
            apply Classical.byContradiction
            intro w
            exact h4 (v5 o t1 (ix a) hc w)
          have E119 : ix (mI R 90 s) + 1 ≤ 120 := by
            have := sumTo_ub1 (f := fun c => if mI C (ad 14 (60 * s + c)) 5 = -1 then (0 : Int) else 1) (n := ix (mI R 87 s)) hc (by show (if mI C (ad 14 (60 * s + ix a)) 5 = -1 then (0 : Int) else 1) = 0; rw [if_pos bm]) (fun j _ => (bk01 _).1)
            omega
          have eE : mI R 90 s = Int32.ofNat (ix (mI R 90 s)) := (of_ix _ bb.2.2.1.1).symm
          have ev : 120 * Int32.ofNat s + mI R 90 s = Int32.ofNat (120 * s + ix (mI R 90 s)) := by
            rw [eE, ix_of _ (by omega), show (120 : Int32) = Int32.ofNat 120 from rfl, of_mul, of_add]
          have x0 : (0 : Int32) ≤ Int32.ofNat (120 * s + ix (mI R 90 s)) := of_nn _ (by omega)
          have x2 : ix (Int32.ofNat (120 * s + ix (mI R 90 s))) = 120 * s + ix (mI R 90 s) := ix_of _ (by omega)
          have cm4 : mI (sI C (ad 12 s) (ix a) 0) (ad 10 s) 4 = mI R 87 s := by rw [row_d h.hA 10 s (by decide)]; exact h.ln4 hs
          simp only [if_neg h4, mR_sI, kA_sI, kO_sI, sh.2.2.1, nn_s, kA_t sh.2.2.2.2.2.1 a0 a60, ck_t, sc.1, kO_t sc.2, cm4, bd_s, h.sr.r39_87, h.sr.r39_81, h.sr.r39_100, kA_t h.sr.k90 s0 (show ix (Int32.ofNat s) < 24 by omega), s2, ev, kA_t h.sr.k96 x0 (show ix (Int32.ofNat (120 * s + ix (mI R 90 s))) < 2880 by omega), x2, kA_t h.sr.k109 a0 a60, t3, row_n (show 90 ≠ 96 by decide), row_n (show 109 ≠ 90 by decide), row_n (show 109 ≠ 96 by decide)]
          refine ⟨_, _, _, ad, rfl, rfl, ?_⟩
          have ea : 100 + a = Int32.ofNat (100 + ix a) := by
            rw [← of_add, of_ix a a0]; rfl
          rw [ea]
          have eE1 : mI R 90 s + 1 = Int32.ofNat (ix (mI R 90 s) + 1) := by rw [← of_s1 _ (by omega), ← eE]
          rw [eE1]
          generalize hE : ix (mI R 90 s) = E at *
          have hm := h.up hk
          obtain ⟨j1, j2, j3, j4, j5, j6, j7, j8, j9⟩ := h.ise
          have lv12 : ad 12 s < mZ C := h.lv.in sh.2.2.2.2.2.2.1 (by decide)
          have lv14 : ad 14 (60 * s + ix a) < mZ C := h.lv.in sc.2 (by decide)
          -- the class's rows
          have rC : ∀ c i, c ≠ 12 → c ≠ 14 → mI (sI (sI C (ad 12 s) (ix a) 0) (ad 14 (60 * s + ix a)) 5 (mI R 87 s)) (ad c i) = mI C (ad c i) := fun c i p q => (row_d h.hA c i q).trans (row_d h.hA c i p)
          have bC : ∀ x, mI (sI (sI C (ad 12 s) (ix a) 0) (ad 14 (60 * s + ix a)) 5 (mI R 87 s)) (ad 14 x) 5 = if x = 60 * s + ix a then mI R 87 s else mI C (ad 14 x) 5 := by
            intro x
            rw [mI_sI]
            by_cases c : x = 60 * s + ix a
            · rw [if_pos ⟨by rw [c], rfl⟩, if_pos c]
            · rw [if_neg (fun w => c (h.hA.2 _ _ _ _ w.1).2), if_neg c, row_d h.hA 14 x (by decide)]
          have g96 : ∀ s' j, s' < 24 → j < 120 → ¬ (s' = s ∧ j = E) → mI (sI (sI (sI R 96 (120 * s + E) (Int32.ofNat (100 + ix a))) 90 s (Int32.ofNat (E + 1))) 109 (ix a) 0) 96 (120 * s' + j) = mI R 96 (120 * s' + j) := by
            intro s' j p q w
            show mI (sI R 96 (120 * s + E) (Int32.ofNat (100 + ix a))) 96 (120 * s' + j) = _
            rw [mI_sI, if_neg (fun z => w (by omega))]
          have n96 : mI (sI (sI (sI R 96 (120 * s + E) (Int32.ofNat (100 + ix a))) 90 s (Int32.ofNat (E + 1))) 109 (ix a) 0) 96 (120 * s + E) = Int32.ofNat (100 + ix a) := by
            show mI (sI R 96 (120 * s + E) (Int32.ofNat (100 + ix a))) 96 (120 * s + E) = _
            rw [mI_sI, if_pos ⟨rfl, rfl⟩]
          have g90 : ∀ s', mI (sI (sI (sI R 96 (120 * s + E) (Int32.ofNat (100 + ix a))) 90 s (Int32.ofNat (E + 1))) 109 (ix a) 0) 90 s' = if s' = s then Int32.ofNat (E + 1) else mI R 90 s' := by
            intro s'
            show mI (sI (sI R 96 (120 * s + E) (Int32.ofNat (100 + ix a))) 90 s (Int32.ofNat (E + 1))) 90 s' = _
            rw [mI_sI]
            by_cases c : s' = s
            · rw [if_pos ⟨rfl, c⟩, if_pos c]
            · rw [if_neg (fun z => c z.2), if_neg c]; rfl
          have g109 : ∀ c, mI (sI (sI (sI R 96 (120 * s + E) (Int32.ofNat (100 + ix a))) 90 s (Int32.ofNat (E + 1))) 109 (ix a) 0) 109 c = if c = ix a then 0 else mI R 109 c := by
            intro c
            rw [mI_sI]
            by_cases q : c = ix a
            · rw [if_pos ⟨rfl, q⟩, if_pos q]
            · rw [if_neg (fun z => q z.2), if_neg q]; rfl
          have s24 : ∀ s', s' < ix (mI R 39 70) → s' < 24 := fun s' q => by omega
          have e120 : ∀ s', s' < 24 → ix (mI R 90 s') ≤ 120 := fun s' q => by have := (j1 s' q).2.2.1; grind [ix_t]
          generalize hR' : sI (sI (sI R 96 (120 * s + E) (Int32.ofNat (100 + ix a))) 90 s (Int32.ofNat (E + 1))) 109 (ix a) 0 = R' at *
          have f : ∀ b, b ≠ 96 → b ≠ 90 → b ≠ 109 → mI R' b = mI R b := fun b p q r => by rw [← hR', row_n r, row_n q, row_n p]
          have f39 : mI R' 39 = mI R 39 := f 39 (by decide) (by decide) (by decide)
          have hdt : Dt ad (sI (sI C (ad 12 s) (ix a) 0) (ad 14 (60 * s + ix a)) 5 (mI R 87 s)) R' := by
            rw [← hR']
            exact (((((h.dt.stc h.hA 12 s (ix a) rfl (Or.inl (by decide)) lv12).stc h.hA 14 (60 * s + ix a) 5 rfl (Or.inl (by decide)) lv14).str 96 _ rfl).str 90 _ rfl).str 109 _ rfl)
          have L : mL R' = mL R := by rw [← hR']; rfl
          have so := h.ison o
          refine Rel.mk h.sc (h.sr.sm (by rw [← hR']; rfl) (by rw [← hR']; rfl)) h.hA h.lv.up hdt ?_ ?_ ?_ ?_ ?_ ?_ ?_ ?_ ?_ ?_ ?_ ?_ ?_ ?_ ?_ ?_ ?_
          · intro c i j q; have := h.dl c i j q; rw [L]; exact this
          · unfold Isc; rw [f39]; exact h.isc
          · unfold Ila; rw [f 40 (by decide) (by decide) (by decide), f 41 (by decide) (by decide) (by decide), f 42 (by decide) (by decide) (by decide), f 43 (by decide) (by decide) (by decide), f 79 (by decide) (by decide) (by decide)]; exact h.ila
          · have := h.ipe.up hk
            unfold Ipe at this ⊢
            rw [f39, L, f 46 (by decide) (by decide) (by decide), f 47 (by decide) (by decide) (by decide), f 49 (by decide) (by decide) (by decide), f 112 (by decide) (by decide) (by decide), f 91 (by decide) (by decide) (by decide)]
            exact this
          · unfold ShP; rw [f39]; exact h.shp
          · unfold ShS; rw [f39]; exact h.shs
          · have := h.ist
            unfold Ist sumP sumW at this ⊢
            rw [f39, f 53 (by decide) (by decide) (by decide), f 54 (by decide) (by decide) (by decide), f 55 (by decide) (by decide) (by decide), f 56 (by decide) (by decide) (by decide), f 57 (by decide) (by decide) (by decide), f 59 (by decide) (by decide) (by decide), f 62 (by decide) (by decide) (by decide), f 63 (by decide) (by decide) (by decide), f 64 (by decide) (by decide) (by decide), f 65 (by decide) (by decide) (by decide)]
            exact this
          · exact h.qs.cg (fun s j _ => congrFun (rC 4 s (by decide) (by decide)) j) (fun c s _ _ => rC c s (by omega) (by omega)) (congrFun f39 22) (congrFun f39 23) (congrFun f39 24) (f 53 (by decide) (by decide) (by decide)) (f 59 (by decide) (by decide) (by decide)) (f 60 (by decide) (by decide) (by decide)) (f 61 (by decide) (by decide) (by decide)) (f 62 (by decide) (by decide) (by decide)) (f 63 (by decide) (by decide) (by decide)) (f 64 (by decide) (by decide) (by decide)) (f 65 (by decide) (by decide) (by decide))
          · unfold ShE; rw [f39, f 67 (by decide) (by decide) (by decide)]; exact h.she
          · have := h.ied
            unfold Ied at this ⊢
            rw [f39, f 66 (by decide) (by decide) (by decide), f 67 (by decide) (by decide) (by decide), f 68 (by decide) (by decide) (by decide), f 69 (by decide) (by decide) (by decide), f 70 (by decide) (by decide) (by decide), f 72 (by decide) (by decide) (by decide), f 73 (by decide) (by decide) (by decide)]
            exact this
          · exact h.eds.cg rfl (fun c s _ _ => rC c s (by omega) (by omega)) (congrFun f39 37) (f 66 (by decide) (by decide) (by decide)) (f 67 (by decide) (by decide) (by decide)) (f 69 (by decide) (by decide) (by decide)) (f 70 (by decide) (by decide) (by decide)) (f 71 (by decide) (by decide) (by decide)) (f 72 (by decide) (by decide) (by decide)) (f 73 (by decide) (by decide) (by decide)) (f 74 (by decide) (by decide) (by decide)) (f 75 (by decide) (by decide) (by decide)) (f 76 (by decide) (by decide) (by decide)) (f 77 (by decide) (by decide) (by decide))
          · have := h.shn
            unfold ShN Un Al at this ⊢
            rw [f39, f 87 (by decide) (by decide) (by decide), f 88 (by decide) (by decide) (by decide)]
            exact this
          · have f88 := f 88 (by decide) (by decide) (by decide)
            have f87 := f 87 (by decide) (by decide) (by decide)
            refine ⟨fun s' q => ?_, fun s' p q => ?_, ?_, ?_, ?_, ?_, ?_, ?_, ?_⟩
            · obtain ⟨q1, q2, q3, q4, q5⟩ := j1 s' q
              rw [f39, f87, f88, f 84 (by decide) (by decide) (by decide), f 86 (by decide) (by decide) (by decide), g90]
              refine ⟨q1, q2, ?_, q4, q5⟩
              split
              · exact ⟨of_nn _ (by omega), (of_le _ 120 (by omega) (by omega)).mpr (by omega)⟩
              · exact q3
            · rw [f39] at p
              obtain ⟨q1, q2, q3, q4⟩ := j2 s' p q
              rw [f87, f88, f 89 (by decide) (by decide) (by decide), f 86 (by decide) (by decide) (by decide), g90, if_neg (by omega)]
              exact ⟨q1, q2, q3, q4⟩
            · rw [f39, f 84 (by decide) (by decide) (by decide), f 89 (by decide) (by decide) (by decide), f 85 (by decide) (by decide) (by decide), f 103 (by decide) (by decide) (by decide), f 104 (by decide) (by decide) (by decide)]; exact j3
            · rw [f39, f 84 (by decide) (by decide) (by decide)]; exact j4
            · rw [f39, f87, f 92 (by decide) (by decide) (by decide), f 97 (by decide) (by decide) (by decide), f 93 (by decide) (by decide) (by decide), f 94 (by decide) (by decide) (by decide), f 95 (by decide) (by decide) (by decide)]; exact j5
            · rw [f39, f88, f 98 (by decide) (by decide) (by decide), f 99 (by decide) (by decide) (by decide), f 100 (by decide) (by decide) (by decide), f 101 (by decide) (by decide) (by decide), f 102 (by decide) (by decide) (by decide)]; exact j6
            · rw [f 103 (by decide) (by decide) (by decide), f 104 (by decide) (by decide) (by decide)]; exact j7
            · rw [f 107 (by decide) (by decide) (by decide), f 108 (by decide) (by decide) (by decide)]; exact j8
            · rw [f88, f 103 (by decide) (by decide) (by decide), f 104 (by decide) (by decide) (by decide), f 105 (by decide) (by decide) (by decide), f 107 (by decide) (by decide) (by decide)]; exact j9
          · intro _
            obtain ⟨q1, q2, q3, q4, q5⟩ := so
            rw [f39, f 87 (by decide) (by decide) (by decide), f 88 (by decide) (by decide) (by decide)]
            refine ⟨q1, q2, fun c hc => ?_, fun c p q => ?_, ?_⟩
            · rw [g109]; split
              · exact ⟨by decide, by decide⟩
              · exact q3 c hc
            · rw [g109]; split
              · rfl
              · exact q4 c p q
            · have := sumTo_one (f := fun c => if mI R' 109 c = 0 then (0 : Int) else 1) (g := fun c => if mI R 109 c = 0 then (0 : Int) else 1) (n := 60) a60 (fun j _ w => by
                show (if mI R' 109 j = 0 then (0 : Int) else 1) = if mI R 109 j = 0 then (0 : Int) else 1
                rw [g109, if_neg w])
              rw [this]
              show _ + (_ + ((if mI R' 109 (ix a) = 0 then (0 : Int) else 1) - (if mI R 109 (ix a) = 0 then (0 : Int) else 1))) ≤ _
              rw [g109, if_pos rfl, if_neg h4, if_pos rfl]
              omega
          · refine ⟨fun s' q => ?_, fun _ c hc => ?_⟩
            · rw [f39] at q ⊢
              rw [rC 10 s' (by decide) (by decide)]
              exact h.son.1 s' q
            · rw [f39, ← t1, g109]
              show mI _ (ad 12 s) c = _
              rw [row_d h.hA 12 s (by decide), mI_sI]
              by_cases w : c = ix a
              · rw [if_pos ⟨rfl, w⟩, if_pos w]
              · rw [if_neg (fun z => w z.2), if_neg w]; exact st c hc
          · exact h.den.cg (fun s j _ => congrFun (rC 15 s (by decide) (by decide)) j) (congrFun f39 70) (f 88 (by decide) (by decide) (by decide)) (f 105 (by decide) (by decide) (by decide)) (f 106 (by decide) (by decide) (by decide))
          · intro s' q
            rw [f39] at q
            have f87 := f 87 (by decide) (by decide) (by decide)
            have bs24 := s24 s' q
            have h60' := n60 h bs24
            obtain ⟨w1, w2, w3, w4, w5⟩ := h.evs s' q
            rw [f39, f87]
            by_cases c : s' = s
            · subst c
              rw [g90, if_pos rfl, ix_of _ (by omega)]
              have cg : ∀ n, n ≤ E → cc (mI R' 96) (120 * s') n = cc (mI R 96) (120 * s') n := fun n hn => cc_cg (fun j hj => g96 s' j bs24 (by omega) (fun z => by omega))
              have cE : cc (mI R' 96) (120 * s') (E + 1) = cc (mI R 96) (120 * s') E := by
                show cc (mI R' 96) (120 * s') E + (if mI R' 96 (120 * s' + E) < 100 then 1 else 0) = _
                rw [n96, cg E (Nat.le_refl _), if_neg (fun z => by have := (of_lt (100 + ix a) 100 (by omega) (by omega)).mp z; omega), Nat.add_zero]
              rw [hE] at w1 w2 w3 w4
              have m1 : (mI R 87 s') = Int32.ofNat (ix (mI R 87 s')) := (of_ix _ h60'.2.2.1).symm
              have nm1 : mI R 87 s' ≠ -1 := by have := h60'.2.2.1; grind
              refine ⟨by rw [cE]; exact w1, fun j hj => ?_, fun c' hc' hb => ?_, ?_, fun _ _ c' hc' hb => ?_⟩
              · by_cases cj : j = E
                · right
                  refine ⟨ix a, ?_, ?_, ?_⟩
                  · rw [cg j (by omega), cj, w1]; exact hc
                  · rw [cj]; exact n96
                  · rw [bC, if_pos rfl, cg j (by omega), cj, w1]; exact m1
                · rw [g96 s' j bs24 (by omega) (fun z => cj z.2), cg j (by omega)]
                  rcases w2 j (by omega) with z | ⟨c', z1, z2, z3⟩
                  · exact Or.inl z
                  · right
                    refine ⟨c', z1, z2, ?_⟩
                    rw [bC, if_neg (fun y => ?_)]
                    · exact z3
                    · have : c' = ix a := by omega
                      rw [this, bm] at z3
                      have := of_nn (cc (mI R 96) (120 * s') j) (by have := cc_le (f := mI R 96) (b := 120 * s') (n := j); omega)
                      rw [← z3] at this
                      exact absurd this (by decide)
              · by_cases y : c' = ix a
                · exact ⟨E, by omega, by rw [n96, y]⟩
                · rw [bC, if_neg (by omega)] at hb
                  obtain ⟨j, y1, y2⟩ := w3 c' hc' hb
                  exact ⟨j, by omega, by rw [g96 s' j bs24 (by omega) (fun z => by omega)]; exact y2⟩
              · have := sumTo_one (f := fun c => if mI (sI (sI C (ad 12 s') (ix a) 0) (ad 14 (60 * s' + ix a)) 5 (mI R 87 s')) (ad 14 (60 * s' + c)) 5 = -1 then (0 : Int) else 1) (g := fun c => if mI C (ad 14 (60 * s' + c)) 5 = -1 then (0 : Int) else 1) (n := ix (mI R 87 s')) hc (fun j _ w => by
                  show (if mI _ (ad 14 (60 * s' + j)) 5 = -1 then (0 : Int) else 1) = if mI C (ad 14 (60 * s' + j)) 5 = -1 then (0 : Int) else 1
                  rw [bC, if_neg (show ¬ 60 * s' + j = 60 * s' + ix a by omega)])
                rw [this]
                show _ = _ + (_ + ((if mI _ (ad 14 (60 * s' + ix a)) 5 = -1 then (0 : Int) else 1) - (if mI C (ad 14 (60 * s' + ix a)) 5 = -1 then (0 : Int) else 1)))
                rw [bC, if_pos rfl, if_neg nm1, if_pos bm]
                omega
              · rw [g109]
                by_cases y : c' = ix a
                · rw [if_pos y]
                · rw [if_neg y]
                  rw [bC, if_neg (by omega)] at hb
                  exact w5 o t1 c' hc' hb
            · rw [g90, if_neg c]
              have bb' := e120 s' bs24
              have cg : ∀ n, n ≤ 120 → cc (mI R' 96) (120 * s') n = cc (mI R 96) (120 * s') n := fun n hn => cc_cg (fun j hj => g96 s' j bs24 (by omega) (fun z => c z.1))
              have bC' : ∀ c', c' < 60 → mI (sI (sI C (ad 12 s) (ix a) 0) (ad 14 (60 * s + ix a)) 5 (mI R 87 s)) (ad 14 (60 * s' + c')) 5 = mI C (ad 14 (60 * s' + c')) 5 := fun c' hc' => by rw [bC, if_neg (by omega)]
              refine ⟨by rw [cg _ bb']; exact w1, fun j hj => ?_, fun c' hc' hb => ?_, ?_, fun _ y => absurd y (by omega)⟩
              · rw [g96 s' j bs24 (by omega) (fun z => c z.1), cg j (by omega)]
                rcases w2 j hj with z | ⟨c', z1, z2, z3⟩
                · exact Or.inl z
                · refine Or.inr ⟨c', z1, z2, ?_⟩
                  have cm := cc_mo (f := mI R 96) (b := 120 * s') (n := ix (mI R 90 s')) (j := j) (by omega)
                  rw [bC' c' (by omega)]
                  exact z3
              · rw [bC' c' (by omega)] at hb
                obtain ⟨j, y1, y2⟩ := w3 c' hc' hb
                exact ⟨j, y1, by rw [g96 s' j bs24 (by omega) (fun z => c z.1)]; exact y2⟩
              · rw [w4]
                congr 1
                apply sumTo_cg
                intro c' hc'
                show (if mI C (ad 14 (60 * s' + c')) 5 = -1 then (0 : Int) else 1) = (if mI _ (ad 14 (60 * s' + c')) 5 = -1 then (0 : Int) else 1)
                rw [bC' c' (by omega)]
end Q6
