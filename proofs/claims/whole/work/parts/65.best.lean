section Q5
variable {k : Nat} {ad : Nat → Nat → Nat} {C R : Mm}
def lotS (R : Mm) (s : Nat) (bz p : Int32) (n : Nat) : Int32 := smI (fun c => if mI R 97 (60 * s + c) = bz ∧ mI R 94 (60 * s + c) = p then mI R 109 c else 0) n
theorem smI_0 {f : Nat → Int32} : ∀ {n : Nat}, (∀ c, c < n → f c = 0) → smI f n = 0
  | 0, _ => rfl
  | n + 1, h => by
    show smI f n + f n = 0
    rw [smI_0 (fun c hc => h c (by omega)), h n (by omega)]
    decide
theorem ev_better (h : Rel k ad C R) {s c d : Nat} (hs : s < ix (mI R 39 70)) (hc : c < ix (mI R 87 s)) (hd : d < ix (mI R 87 s)) : Cry_isBetterThan C (ad 14 (60 * s + c)) (ad 14 (60 * s + d)) = some (if mI R 97 (60 * s + c) = 0 then (if mI R 94 (60 * s + d) ≤ mI R 94 (60 * s + c) then 0 else 1) else (if mI R 94 (60 * s + c) ≤ mI R 94 (60 * s + d) then 0 else 1), C) := by
  have k1 := ((h.shn.1 s hs).2.2.2.2.2.2.2.2.1 c hc).2
  have k2 := ((h.shn.1 s hs).2.2.2.2.2.2.2.2.1 d hd).2
  unfold Cry_isBetterThan
  simp only [kO_t k1, kO_t k2, ck_t, h.lc1 hs hc, h.lc3 hs hc, h.lc3 hs hd]
  repeat' split
  all_goals rfl
def bsO (R : Mm) (s j : Nat) (bz b pr : Int32) : Prop := ((b = -1 ∧ pr = -1) ∨ ∃ i, i < j ∧ b = Int32.ofNat i ∧ pr = mI R 94 (60 * s + i) ∧ 1 ≤ pr) ∧ ∀ c, c < j → mI R 109 c ≠ 0 → mI R 97 (60 * s + c) = bz → b ≠ -1 ∧ (if bz = 0 then pr ≤ mI R 94 (60 * s + c) else mI R 94 (60 * s + c) ≤ pr)
theorem lp_best (h : Rel k ad C R) {s : Nat} (o : mI R 39 73 = 1) (hs : s + 1 = ix (mI R 39 70)) (bz wh : Int32) : ∀ (d n m j : Nat) (b pr : Int32), j + d = ix (mI R 87 s) → d < n → d < m → bsO R s j bz b pr → ∃ pF, Session_bestPrice_L4 n (ad 10 s) bz b (Int32.ofNat j) C = some (pF, C) ∧ Mod_best_L45 m 39 wh bz (Int32.ofNat s) pr (lotS R s bz pr j) (Int32.ofNat j) R = some (if 0 ≤ pF then (if rm wh 2 = 0 then pF else lotS R s bz pF (ix (mI R 87 s))) else -1, R) ∧ (pF = -1 ∨ 1 ≤ pF) := by
  have hN := n24 h
  have hs' : s < ix (mI R 39 70) := by omega
  have sh := h.shn.1 s hs'
  have h60 := n60 h (show s < 24 by omega)
  have s0 : (0 : Int32) ≤ Int32.ofNat s := of_nn s (by omega)
  have s2 : ix (Int32.ofNat s) = s := ix_of s (by omega)
  have so := h.ison o
  have st := h.son.2 o
  rw [← hs] at st
  have st : ∀ c, c < 60 → mI C (ad 12 s) c = mI R 109 c := st
  intro d
  induction d with
  | zero =>
    intro n m j b pr hj hn hm hI
    obtain ⟨n, rfl⟩ : ∃ x, n = x + 1 := ⟨n - 1, by omega⟩
    obtain ⟨m, rfl⟩ : ∃ x, m = x + 1 := ⟨m - 1, by omega⟩
    have e : mI R 87 s ≤ Int32.ofNat j := by grind [ix_t, of_t]
    refine ⟨pr, ?_, ?_, ?_⟩
    · show Session_bestPrice_B4 _ _ _ _ _ _ = _
      unfold Session_bestPrice_B4
      simp only [kO_t sh.2.1, ck_t, h.ln4 hs', if_pos e]
      rcases hI.1 with ⟨e1, e2⟩ | ⟨i, i1, i2, i3, i4⟩
      · rw [if_pos e1, e2]
      · have b0 : (0 : Int32) ≤ Int32.ofNat i := of_nn i (by omega)
        have b1 : ix (Int32.ofNat i) = i := ix_of i (by omega)
        have sc := sh.2.2.2.2.2.2.2.2.1 i (by omega)
        rw [i2, if_neg (show ¬ Int32.ofNat i = -1 by grind), sh.2.2.1, nn_s, kA_t sh.2.2.2.2.2.1 b0 (by omega), ck_t, b1, sc.1, nn_s, kO_t sc.2, ck_t, h.lc3 hs' (by omega), i3]
    · show Mod_best_B45 _ _ _ _ _ _ _ _ _ = _
      unfold Mod_best_B45
      simp only [h.o39, ck_t, h.sr.r39_78, nn_s, kA_t h.sr.k87 s0 (show ix (Int32.ofNat s) < 24 by omega), s2, if_pos e]
      rw [show j = ix (mI R 87 s) by omega]
      repeat' split
      all_goals rfl
    · rcases hI.1 with ⟨e1, e2⟩ | ⟨i, i1, i2, i3, i4⟩
      · exact Or.inl e2
      · exact Or.inr i4
  | succ d ih =>
    intro n m j b pr hj hn hm hI
    obtain ⟨n, rfl⟩ : ∃ x, n = x + 1 := ⟨n - 1, by omega⟩
    obtain ⟨m, rfl⟩ : ∃ x, m = x + 1 := ⟨m - 1, by omega⟩
    have e : ¬ mI R 87 s ≤ Int32.ofNat j := by grind [ix_t, of_t]
    have e0 : (0 : Int32) ≤ Int32.ofNat j := of_nn j (by omega)
    have e1 : ix (Int32.ofNat j) = j := ix_of j (by omega)
    have lt : j < ix (mI R 87 s) := by omega
    have sc := sh.2.2.2.2.2.2.2.2.1 j lt
    have x1 : 60 * Int32.ofNat s + Int32.ofNat j = Int32.ofNat (60 * s + j) := by rw [show (60 : Int32) = Int32.ofNat 60 from rfl, of_mul, of_add]
    have x0 : (0 : Int32) ≤ Int32.ofNat (60 * s + j) := of_nn _ (by omega)
    have x2 : ix (Int32.ofNat (60 * s + j)) = 60 * s + j := ix_of _ (by omega)
    have sj := so.2.2.1 j (by omega)
    have cr := h.ise.2.2.2.2.1 s j (by omega) lt
    have els : ∀ p, lotS R s bz p (j + 1) = lotS R s bz p j + (if mI R 97 (60 * s + j) = bz ∧ mI R 94 (60 * s + j) = p then mI R 109 j else 0) := fun p => rfl
    show ∃ pF, Session_bestPrice_B4 (Session_bestPrice_L4 n) (ad 10 s) bz b (Int32.ofNat j) C = some (pF, C) ∧ Mod_best_B45 (Mod_best_L45 m) 39 wh bz (Int32.ofNat s) pr (lotS R s bz pr j) (Int32.ofNat j) R = _ ∧ _
    unfold Session_bestPrice_B4 Mod_best_B45 Session_bestPrice_J57 Session_bestPrice_J59 Mod_best_J125 Mod_best_J137 Mod_best_J161
    simp only [kO_t sh.2.1, h.o39, ck_t, h.ln4 hs', if_neg e, sh.2.2.1, sh.2.2.2.1, nn_s, kA_t sh.2.2.2.2.2.2.1 e0 (show ix (Int32.ofNat j) < 60 by omega), kA_t sh.2.2.2.2.2.1 e0 (show ix (Int32.ofNat j) < 60 by omega), e1, st j (by omega), sc.1, kO_t sc.2, h.lc1 hs' lt, h.sr.r39_78, h.sr.r39_85, h.sr.r39_88, h.sr.r39_100, kA_t h.sr.k87 s0 (show ix (Int32.ofNat s) < 24 by omega), s2, kA_t h.sr.k109 e0 (show ix (Int32.ofNat j) < 60 by omega), x1, kA_t h.sr.k97 x0 (show ix (Int32.ofNat (60 * s + j)) < 1440 by omega), kA_t h.sr.k94 x0 (show ix (Int32.ofNat (60 * s + j)) < 1440 by omega), x2, of_s1 j (by omega)]
    by_cases c1 : mI R 109 j = 0
    · simp only [if_pos (show mI R 109 j ≤ 0 by grind), if_pos c1]
      have z := ih n m (j + 1) b pr (by omega) (by omega) (by omega) ⟨by
        rcases hI.1 with q | ⟨i, i1, i2⟩
        · exact Or.inl q
        · exact Or.inr ⟨i, by omega, i2⟩, fun c hc hz hb => by
        by_cases cj : c = j
        · rw [cj] at hz; exact absurd c1 hz
        · exact hI.2 c (by omega) hz hb⟩
      have e3 : lotS R s bz pr (j + 1) = lotS R s bz pr j := by
        rw [els, c1]
        split <;> grind
      rw [e3] at z
      exact z
    · simp only [if_neg (show ¬ mI R 109 j ≤ 0 by grind), if_neg c1]
      by_cases c2 : mI R 97 (60 * s + j) = bz
      · simp only [if_pos c2, if_true]
        -- the new one becomes the best
        have new : (∀ c, c < j → mI R 109 c ≠ 0 → mI R 97 (60 * s + c) = bz → (if bz = 0 then mI R 94 (60 * s + j) < mI R 94 (60 * s + c) else mI R 94 (60 * s + c) < mI R 94 (60 * s + j))) → ∃ pF, Session_bestPrice_L4 n (ad 10 s) bz (Int32.ofNat j) (Int32.ofNat (j + 1)) C = some (pF, C) ∧ Mod_best_L45 m 39 wh bz (Int32.ofNat s) (mI R 94 (60 * s + j)) (0 + mI R 109 j) (Int32.ofNat (j + 1)) R = some (if 0 ≤ pF then (if rm wh 2 = 0 then pF else lotS R s bz pF (ix (mI R 87 s))) else -1, R) ∧ (pF = -1 ∨ 1 ≤ pF) := by
          intro hh
          have z := ih n m (j + 1) (Int32.ofNat j) (mI R 94 (60 * s + j)) (by omega) (by omega) (by omega) ⟨Or.inr ⟨j, by omega, rfl, rfl, cr.2.2.2.1.1⟩, fun c hc hz hb => by
            refine ⟨by grind, ?_⟩
            by_cases cj : c = j
            · rw [cj]; split <;> grind
            · have := hh c (by omega) hz hb
              split
              · rename_i q; rw [if_pos q] at this; grind
              · rename_i q; rw [if_neg q] at this; grind⟩
          have e3 : lotS R s bz (mI R 94 (60 * s + j)) (j + 1) = 0 + mI R 109 j := by
            rw [els, if_pos ⟨c2, rfl⟩]
            congr 1
            apply smI_0
            intro c hc
            by_cases q : mI R 97 (60 * s + c) = bz ∧ mI R 94 (60 * s + c) = mI R 94 (60 * s + j)
            · rw [if_pos q]
              apply Classical.byContradiction
              intro w
              have := hh c hc w q.1
              rw [q.2] at this
              split at this <;> grind
            · rw [if_neg q]
          rw [e3] at z
          exact z
        -- the old one stays
        have old : ∀ i, b = Int32.ofNat i → i < j → pr = mI R 94 (60 * s + i) → 1 ≤ pr → (if bz = 0 then pr ≤ mI R 94 (60 * s + j) else mI R 94 (60 * s + j) ≤ pr) → ∃ pF, Session_bestPrice_L4 n (ad 10 s) bz b (Int32.ofNat (j + 1)) C = some (pF, C) ∧ Mod_best_L45 m 39 wh bz (Int32.ofNat s) pr (lotS R s bz pr (j + 1)) (Int32.ofNat (j + 1)) R = some (if 0 ≤ pF then (if rm wh 2 = 0 then pF else lotS R s bz pF (ix (mI R 87 s))) else -1, R) ∧ (pF = -1 ∨ 1 ≤ pF) := by
          intro i i1 i2 i3 i4 hle
          exact ih n m (j + 1) b pr (by omega) (by omega) (by omega) ⟨Or.inr ⟨i, by omega, i1, i3, i4⟩, fun c hc hz hb => by
            by_cases cj : c = j
            · rw [cj]; exact ⟨by rw [i1]; have := of_nn i (by omega); grind, hle⟩
            · exact hI.2 c (by omega) hz hb⟩
        rcases hI.1 with ⟨q1, q2⟩ | ⟨i, i1, i2, i3, i4⟩
        · subst q1 q2
          simp only [if_true, if_pos (show (-1 : Int32) < 0 by decide)]
          exact new (fun c hc hz hb => absurd rfl (hI.2 c hc hz hb).1)
        · have b0 : (0 : Int32) ≤ Int32.ofNat i := of_nn i (by omega)
          have b1 : ix (Int32.ofNat i) = i := ix_of i (by omega)
          have si := sh.2.2.2.2.2.2.2.2.1 i (by omega)
          have nb : ¬ Int32.ofNat i = -1 := by grind
          have np : ¬ pr < 0 := by grind
          subst i2
          simp only [if_neg nb, if_neg np, kA_t sh.2.2.2.2.2.1 b0 (show ix (Int32.ofNat i) < 60 by omega), ck_t, b1, si.1, nn_s, ev_better h hs' lt (show i < ix (mI R 87 s) by omega), bd_s, c2]
          by_cases c3 : bz = 0
          · simp only [if_pos c3]
            by_cases c4 : pr ≤ mI R 94 (60 * s + j)
            · have z := old i rfl i1 i3 i4 (by rw [if_pos c3]; exact c4)
              rw [els] at z
              rw [← i3, if_pos c4, if_pos c4]
              simp only [if_true]
              by_cases c5 : mI R 94 (60 * s + j) = pr
              · rw [if_pos c5]
                rw [if_pos ⟨c2, c5⟩] at z
                exact z
              · rw [if_neg c5]
                rw [if_neg (fun w => c5 w.2)] at z
                rw [show lotS R s bz pr j + 0 = lotS R s bz pr j by grind] at z
                exact z
            · rw [← i3, if_neg c4, if_neg c4]
              simp only [i10, if_false]
              exact new (fun c hc hz hb => by
                have := (hI.2 c hc hz hb).2
                rw [if_pos c3] at this ⊢
                grind)
          · simp only [if_neg c3]
            by_cases c4 : mI R 94 (60 * s + j) ≤ pr
            · have z := old i rfl i1 i3 i4 (by rw [if_neg c3]; exact c4)
              rw [els] at z
              rw [← i3, if_pos c4, if_pos c4]
              simp only [if_true]
              by_cases c5 : mI R 94 (60 * s + j) = pr
              · rw [if_pos c5]
                rw [if_pos ⟨c2, c5⟩] at z
                exact z
              · rw [if_neg c5]
                rw [if_neg (fun w => c5 w.2)] at z
                rw [show lotS R s bz pr j + 0 = lotS R s bz pr j by grind] at z
                exact z
            · rw [← i3, if_neg c4, if_neg c4]
              simp only [i10, if_false]
              exact new (fun c hc hz hb => by
                have := (hI.2 c hc hz hb).2
                rw [if_neg c3] at this ⊢
                grind)
      · simp only [if_neg c2]
        have z := ih n m (j + 1) b pr (by omega) (by omega) (by omega) ⟨by
          rcases hI.1 with q | ⟨i, i1, i2⟩
          · exact Or.inl q
          · exact Or.inr ⟨i, by omega, i2⟩, fun c hc hz hb => by
          by_cases cj : c = j
          · rw [cj] at hb; exact absurd hb c2
          · exact hI.2 c (by omega) hz hb⟩
        have e3 : lotS R s bz pr (j + 1) = lotS R s bz pr j := by
          rw [els, if_neg (fun w => c2 w.1)]
          grind
        rw [e3] at z
        exact z
theorem lp_lots (h : Rel k ad C R) {s : Nat} (o : mI R 39 73 = 1) (hs : s + 1 = ix (mI R 39 70)) (bz p : Int32) : ∀ (d n j : Nat), j + d = ix (mI R 87 s) → d < n → Session_lotsAt_L5 n (ad 10 s) bz p (lotS R s bz p j) (Int32.ofNat j) C = some (lotS R s bz p (ix (mI R 87 s)), C) := by
  have hN := n24 h
  have hs' : s < ix (mI R 39 70) := by omega
  have sh := h.shn.1 s hs'
  have h60 := n60 h (show s < 24 by omega)
  have st := h.son.2 o
  rw [← hs] at st
  have st : ∀ c, c < 60 → mI C (ad 12 s) c = mI R 109 c := st
  intro d
  induction d with
  | zero =>
    intro n j hj hn
    obtain ⟨n, rfl⟩ : ∃ x, n = x + 1 := ⟨n - 1, by omega⟩
    have e : mI R 87 s ≤ Int32.ofNat j := by grind [ix_t, of_t]
    show Session_lotsAt_B5 _ _ _ _ _ _ _ = _
    unfold Session_lotsAt_B5
    rw [kO_t sh.2.1, ck_t, h.ln4 hs', if_pos e, show j = ix (mI R 87 s) by omega]
  | succ d ih =>
    intro n j hj hn
    obtain ⟨n, rfl⟩ : ∃ x, n = x + 1 := ⟨n - 1, by omega⟩
    have e : ¬ mI R 87 s ≤ Int32.ofNat j := by grind [ix_t, of_t]
    have e0 : (0 : Int32) ≤ Int32.ofNat j := of_nn j (by omega)
    have e1 : ix (Int32.ofNat j) = j := ix_of j (by omega)
    have lt : j < ix (mI R 87 s) := by omega
    have sc := sh.2.2.2.2.2.2.2.2.1 j lt
    have els : lotS R s bz p (j + 1) = lotS R s bz p j + (if mI R 97 (60 * s + j) = bz ∧ mI R 94 (60 * s + j) = p then mI R 109 j else 0) := rfl
    have z := ih n (j + 1) (by omega) (by omega)
    rw [els] at z
    show Session_lotsAt_B5 _ _ _ _ _ _ _ = _
    unfold Session_lotsAt_B5 Session_lotsAt_J52
    simp only [kO_t sh.2.1, ck_t, h.ln4 hs', if_neg e, sh.2.2.1, sh.2.2.2.1, nn_s, kA_t sh.2.2.2.2.2.2.1 e0 (show ix (Int32.ofNat j) < 60 by omega), kA_t sh.2.2.2.2.2.1 e0 (show ix (Int32.ofNat j) < 60 by omega), e1, st j (by omega), sc.1, kO_t sc.2, h.lc1 hs' lt, h.lc3 hs' lt, of_s1 j (by omega)]
    by_cases c1 : mI R 97 (60 * s + j) = bz
    · rw [if_pos c1]
      by_cases c2 : mI R 94 (60 * s + j) = p
      · rw [if_pos c2]
        rw [if_pos ⟨c1, c2⟩] at z
        exact z
      · rw [if_neg c2]
        rw [if_neg (fun w => c2 w.2), show lotS R s bz p j + 0 = lotS R s bz p j by grind] at z
        exact z
    · rw [if_neg c1]
      rw [if_neg (fun w => c1 w.1), show lotS R s bz p j + 0 = lotS R s bz p j by grind] at z
      exact z
theorem sim_best (h : Rel k ad C R) (hk : k < 512) (a : Int32) : Sim k (Hall_best C 8 a) (Mod_best R 39 a) := by
  unfold Hall_best Mod_best Hall_best_J28 Mod_best_J28
  have s1 : ∀ r : Int32, Sim k (some (r, C)) (some (r, R)) := fun r => ⟨_, _, _, ad, rfl, rfl, h.up hk⟩
  have hN := n24 h
  rcases h.isc.on with o | o
  · have e14 : mR C 8 14 = none := by rw [h.shn.2.1, o]; rfl
    simp only [h.o8, h.o39, ck_t, e14, nl_n, o, if_true]
    exact s1 _
  · obtain ⟨s, t1, t2, t3, t4⟩ := on_s h o
    have hs : s < ix (mI R 39 70) := by omega
    have sh := h.shn.1 s hs
    have h60 := n60 h t2
    simp only [h.o8, h.o39, ck_t, t4, nl_s, nn_s, kO_t sh.2.1, bd_s, o, i10, if_false, t3, ev_within, ev_in]
    by_cases h1 : 0 ≤ a ∧ a ≤ 3
    · simp only [if_pos h1, i10, if_false]
      have fin : ∀ bz : Int32, Sim k (bd (Session_bestPrice C (ad 10 s) bz) fun r8 M9 => if r8 = -1 then some (r8, M9) else if a = 0 then some (r8, M9) else if a = 2 then some (r8, M9) else ck (kO M9 8 11 18) (nn (mR M9 8 14) fun b11 => ck (kO M9 b11 9 11) (bd (Session_lotsAt M9 b11 bz r8) fun r13 M14 => some (r13, M14)))) (Mod_best_L45 fu 39 a bz (Int32.ofNat s) (-1) 0 0 R) := by
        intro bz
        obtain ⟨pF, y1, y2, y3⟩ := lp_best h o t1 bz a (ix (mI R 87 s)) fu fu 0 (-1) (-1) (by omega) (fu_g (by omega)) (fu_g (by omega)) ⟨Or.inl ⟨rfl, rfl⟩, fun c hc => absurd hc (by omega)⟩
        have y1' : Session_bestPrice C (ad 10 s) bz = some (pF, C) := y1
        have y2' : Mod_best_L45 fu 39 a bz (Int32.ofNat s) (-1) 0 0 R = some (if 0 ≤ pF then (if rm a 2 = 0 then pF else lotS R s bz pF (ix (mI R 87 s))) else -1, R) := y2
        have y4 : Session_lotsAt C (ad 10 s) bz pF = some (lotS R s bz pF (ix (mI R 87 s)), C) := lp_lots h o t1 bz pF (ix (mI R 87 s)) fu 0 (by omega) (fu_g (by omega))
        rw [y1', y2']
        simp only [bd_s, h.o8, ck_t, t4, nn_s, kO_t sh.2.1, y4]
        rcases y3 with y3 | y3
        · subst y3
          simp only [if_true, if_neg (show ¬ (0 : Int32) ≤ -1 by decide)]
          exact s1 _
        · rw [if_neg (show ¬ pF = -1 by grind), if_pos (show 0 ≤ pF by grind)]
          have ea : a = 0 ∨ a = 1 ∨ a = 2 ∨ a = 3 := by grind
          rcases ea with e | e | e | e <;> subst e <;> exact s1 _
      by_cases h2 : 2 ≤ a
      · simp only [if_pos h2]
        exact fin 0
      · simp only [if_neg h2]
        exact fin 1
    · simp only [if_neg h1, if_true]
      exact s1 _
end Q5
