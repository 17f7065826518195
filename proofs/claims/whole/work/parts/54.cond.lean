section L3
variable {k : Nat} {ad : Nat → Nat → Nat} {C R R1 : Mm}
/-! one step of the reference's look at a condition -/
theorem mh_0 (h : Rel k ad C R1) {g i m : Nat} {a c n sg : Int32} (hg : g < 200) (hi : i < 2000) (hto : ¬ mI R1 73 g ≤ Int32.ofNat i) (hk : mI R1 74 i = 0) (ha : mI R1 75 i = a) (hc : mI R1 76 i = c) (hn : mI R1 77 i = n) (a0 : 0 ≤ a) (a6 : a ≤ 6) (hs : sg = 0 ∧ c = 60 ∨ sg = 1 ∧ c = 62 ∨ sg = 2 ∧ c = 61) : Mod_holds_L18 (m + 1) 39 (Int32.ofNat g) (Int32.ofNat i) R1 = Mod_holds_L18 m 39 (Int32.ofNat g) (Int32.ofNat (i + 1)) (sI R1 78 i (cmB sg (kn R1 (ix a)) n)) := by
  have g0 : (0 : Int32) ≤ Int32.ofNat g := of_nn g (by omega)
  have g1 : ix (Int32.ofNat g) = g := ix_of g (by omega)
  have i0 : (0 : Int32) ≤ Int32.ofNat i := of_nn i (by omega)
  have i1 : ix (Int32.ofNat i) = i := ix_of i (by omega)
  show Mod_holds_B18 _ _ _ _ _ = _
  unfold Mod_holds_B18 Mod_holds_J132 Mod_holds_J249
  simp only [h.o39, ck_t, h.sr.r39_45, h.sr.r39_47, h.sr.r39_48, h.sr.r39_49, h.sr.r39_50, h.sr.r39_51, nn_s, kA_t h.sr.k73 g0 (show ix (Int32.ofNat g) < 200 by omega), kA_t h.sr.k74 i0 (show ix (Int32.ofNat i) < 2100 by omega), kA_t h.sr.k75 i0 (show ix (Int32.ofNat i) < 2100 by omega), kA_t h.sr.k76 i0 (show ix (Int32.ofNat i) < 2100 by omega), kA_t h.sr.k77 i0 (show ix (Int32.ofNat i) < 2100 by omega), kA_t h.sr.k78 i0 (show ix (Int32.ofNat i) < 2100 by omega), g1, i1, if_neg hto, hk, if_true, ha, ev_kn h a a0 a6, bd_s, hc, hn, of_s1 i (by omega), kZ0, kZ1]
  unfold cmB
  rcases hs with ⟨e1, e2⟩ | ⟨e1, e2⟩ | ⟨e1, e2⟩
  · subst e1 e2
    simp only [if_true]
    split <;> rfl
  · subst e1 e2
    simp only [show ((62 : Int32) = 60) = False from eq_false (by decide), if_false, if_true, i10]
    split <;> rfl
  · subst e1 e2
    simp only [show ((61 : Int32) = 60) = False from eq_false (by decide), show ((61 : Int32) = 62) = False from eq_false (by decide), show ((2 : Int32) = 0) = False from eq_false (by decide), show ((2 : Int32) = 1) = False from eq_false (by decide), if_false]
    split <;> rfl
theorem mh_1 (h : Rel k ad C R1) {g i m x : Nat} (hg : g < 200) (hi : i < 2000) (hx : x < 2000) (hto : ¬ mI R1 73 g ≤ Int32.ofNat i) (hk : mI R1 74 i = 1) (ha : mI R1 75 i = Int32.ofNat x) : Mod_holds_L18 (m + 1) 39 (Int32.ofNat g) (Int32.ofNat i) R1 = Mod_holds_L18 m 39 (Int32.ofNat g) (Int32.ofNat (i + 1)) (sI R1 78 i (if mI R1 78 x = 0 then 1 else 0)) := by
  have g0 : (0 : Int32) ≤ Int32.ofNat g := of_nn g (by omega)
  have g1 : ix (Int32.ofNat g) = g := ix_of g (by omega)
  have i0 : (0 : Int32) ≤ Int32.ofNat i := of_nn i (by omega)
  have i1 : ix (Int32.ofNat i) = i := ix_of i (by omega)
  have x0 : (0 : Int32) ≤ Int32.ofNat x := of_nn x (by omega)
  have x1 : ix (Int32.ofNat x) = x := ix_of x (by omega)
  show Mod_holds_B18 _ _ _ _ _ = _
  unfold Mod_holds_B18 Mod_holds_J165 Mod_holds_J249
  simp only [h.o39, ck_t, h.sr.r39_45, h.sr.r39_47, h.sr.r39_48, h.sr.r39_49, h.sr.r39_50, h.sr.r39_51, nn_s, kA_t h.sr.k73 g0 (show ix (Int32.ofNat g) < 200 by omega), kA_t h.sr.k74 i0 (show ix (Int32.ofNat i) < 2100 by omega), kA_t h.sr.k75 i0 (show ix (Int32.ofNat i) < 2100 by omega), kA_t h.sr.k78 x0 (show ix (Int32.ofNat x) < 2100 by omega), kA_t h.sr.k78 i0 (show ix (Int32.ofNat i) < 2100 by omega), g1, i1, x1, if_neg hto, hk, if_true, ha, i10, if_false, of_s1 i (by omega), kZ0, kZ1]
  split <;> rfl
theorem mh_2 (h : Rel k ad C R1) {g i m x y : Nat} {kd : Int32} (hg : g < 200) (hi : i < 2000) (hx : x < 2000) (hy : y < 2000) (hto : ¬ mI R1 73 g ≤ Int32.ofNat i) (hkd : kd = 2 ∨ kd = 3) (hk : mI R1 74 i = kd) (ha : mI R1 75 i = Int32.ofNat x) (hb : mI R1 76 i = Int32.ofNat y) : Mod_holds_L18 (m + 1) 39 (Int32.ofNat g) (Int32.ofNat i) R1 = Mod_holds_L18 m 39 (Int32.ofNat g) (Int32.ofNat (i + 1)) (sI R1 78 i (if kd = 2 then (if mI R1 78 x = 0 then 0 else if mI R1 78 y = 0 then 0 else 1) else (if mI R1 78 x = 0 then (if mI R1 78 y = 0 then 0 else 1) else 1))) := by
  have g0 : (0 : Int32) ≤ Int32.ofNat g := of_nn g (by omega)
  have g1 : ix (Int32.ofNat g) = g := ix_of g (by omega)
  have i0 : (0 : Int32) ≤ Int32.ofNat i := of_nn i (by omega)
  have i1 : ix (Int32.ofNat i) = i := ix_of i (by omega)
  have x0 : (0 : Int32) ≤ Int32.ofNat x := of_nn x (by omega)
  have x1 : ix (Int32.ofNat x) = x := ix_of x (by omega)
  have y0 : (0 : Int32) ≤ Int32.ofNat y := of_nn y (by omega)
  have y1 : ix (Int32.ofNat y) = y := ix_of y (by omega)
  have n0 : ¬ kd = 0 := by grind
  have n1 : ¬ kd = 1 := by grind
  show Mod_holds_B18 _ _ _ _ _ = _
  unfold Mod_holds_B18 Mod_holds_J248 Mod_holds_J243 Mod_holds_J211 Mod_holds_J248 Mod_holds_J249
  simp only [h.o39, ck_t, h.sr.r39_45, h.sr.r39_47, h.sr.r39_48, h.sr.r39_49, h.sr.r39_50, h.sr.r39_51, nn_s, kA_t h.sr.k73 g0 (show ix (Int32.ofNat g) < 200 by omega), kA_t h.sr.k74 i0 (show ix (Int32.ofNat i) < 2100 by omega), kA_t h.sr.k75 i0 (show ix (Int32.ofNat i) < 2100 by omega), kA_t h.sr.k76 i0 (show ix (Int32.ofNat i) < 2100 by omega), kA_t h.sr.k78 x0 (show ix (Int32.ofNat x) < 2100 by omega), kA_t h.sr.k78 y0 (show ix (Int32.ofNat y) < 2100 by omega), kA_t h.sr.k78 i0 (show ix (Int32.ofNat i) < 2100 by omega), g1, i1, x1, y1, if_neg hto, hk, ha, hb, if_neg n0, if_neg n1, of_s1 i (by omega), kZ0, kZ1]
  repeat' split
  all_goals rfl
/-! one step of the class's look at a condition -/
theorem ch_0 (h : Rel k ad C R) {t j hi n : Nat} {e b : Int32} {v : Int64} (ht : t < ix (mI R 39 37)) (hj : j < hi) (hh : hi ≤ (mK C (ad 20 t)).2) (he : mI C (ad 20 t) j = e) (e0 : 0 ≤ e) (hb : b = 0 ∨ b = 1) (hf : Edict_isFact C e 29 = some (b, C)) : Edict_holds_L15 (n + 1) (ad 16 t) (Int32.ofNat hi) 29 v (Int32.ofNat j) C = Edict_holds_L15 n (ad 16 t) (Int32.ofNat hi) 29 ((v <<< (Int32.toInt64 1 &&& 63)) ||| Int32.toInt64 b) (Int32.ofNat (j + 1)) C := by
  obtain ⟨s1, s2, s3, s4, s5, s6, s7, s8, s9, s10, s11⟩ := h.she t ht
  have j0 : (0 : Int32) ≤ Int32.ofNat j := of_nn j (by omega)
  have j1 : ix (Int32.ofNat j) = j := ix_of j (by omega)
  have sk : mK C (ad 20 t) = (20, (mK C (ad 20 t)).2) := Prod.ext s10 rfl
  show Edict_holds_B15 _ _ _ _ _ _ _ = _
  unfold Edict_holds_B15 Edict_holds_J63 Edict_holds_J132
  have c1 : ¬ Int32.ofNat hi ≤ Int32.ofNat j := by rw [of_le _ _ (by omega) (by omega)]; omega
  have c2 : ¬ ln C (ad 20 t) ≤ Int32.ofNat j := by unfold ln; rw [of_le _ _ (by omega) (by omega)]; omega
  simp only [if_neg c1, kO_t s2, ck_t, s6, nn_s, kT_t sk, if_neg c2, kA_t sk j0 (show ix (Int32.ofNat j) < _ by omega), j1, he, if_neg (show ¬ e < 0 by grind), hf, bd_s, of_s1 j (by omega)]
  rcases hb with e | e
  · subst e; rfl
  · subst e; rfl
theorem ch_1 (h : Rel k ad C R) {t j hi n : Nat} {v : Int64} (ht : t < ix (mI R 39 37)) (hj : j < hi) (hh : hi ≤ (mK C (ad 20 t)).2) (he : mI C (ad 20 t) j = -3) : Edict_holds_L15 (n + 1) (ad 16 t) (Int32.ofNat hi) 29 v (Int32.ofNat j) C = Edict_holds_L15 n (ad 16 t) (Int32.ofNat hi) 29 (v ^^^ 1) (Int32.ofNat (j + 1)) C := by
  obtain ⟨s1, s2, s3, s4, s5, s6, s7, s8, s9, s10, s11⟩ := h.she t ht
  have j0 : (0 : Int32) ≤ Int32.ofNat j := of_nn j (by omega)
  have j1 : ix (Int32.ofNat j) = j := ix_of j (by omega)
  have sk : mK C (ad 20 t) = (20, (mK C (ad 20 t)).2) := Prod.ext s10 rfl
  show Edict_holds_B15 _ _ _ _ _ _ _ = _
  unfold Edict_holds_B15 Edict_holds_J132
  have c1 : ¬ Int32.ofNat hi ≤ Int32.ofNat j := by rw [of_le _ _ (by omega) (by omega)]; omega
  have c2 : ¬ ln C (ad 20 t) ≤ Int32.ofNat j := by unfold ln; rw [of_le _ _ (by omega) (by omega)]; omega
  simp only [if_neg c1, kO_t s2, ck_t, s6, nn_s, kT_t sk, if_neg c2, kA_t sk j0 (show ix (Int32.ofNat j) < _ by omega), j1, he, if_pos (show (-3 : Int32) < 0 by decide), if_true, of_s1 j (by omega)]
theorem ch_2 (h : Rel k ad C R) {t j hi n : Nat} {e : Int32} {v : Int64} (ht : t < ix (mI R 39 37)) (hj : j < hi) (hh : hi ≤ (mK C (ad 20 t)).2) (he : mI C (ad 20 t) j = e) (h2 : e = -1 ∨ e = -2) : Edict_holds_L15 (n + 1) (ad 16 t) (Int32.ofNat hi) 29 v (Int32.ofNat j) C = Edict_holds_L15 n (ad 16 t) (Int32.ofNat hi) 29 (((us v 2) <<< (Int32.toInt64 1 &&& 63)) ||| (if e = -1 then ((us v 1) &&& 1) &&& (v &&& 1) else ((us v 1) &&& 1) ||| (v &&& 1))) (Int32.ofNat (j + 1)) C := by
  obtain ⟨s1, s2, s3, s4, s5, s6, s7, s8, s9, s10, s11⟩ := h.she t ht
  have j0 : (0 : Int32) ≤ Int32.ofNat j := of_nn j (by omega)
  have j1 : ix (Int32.ofNat j) = j := ix_of j (by omega)
  have sk : mK C (ad 20 t) = (20, (mK C (ad 20 t)).2) := Prod.ext s10 rfl
  show Edict_holds_B15 _ _ _ _ _ _ _ = _
  unfold Edict_holds_B15 Edict_holds_J119 Edict_holds_J132
  have c1 : ¬ Int32.ofNat hi ≤ Int32.ofNat j := by rw [of_le _ _ (by omega) (by omega)]; omega
  have c2 : ¬ ln C (ad 20 t) ≤ Int32.ofNat j := by unfold ln; rw [of_le _ _ (by omega) (by omega)]; omega
  simp only [if_neg c1, kO_t s2, ck_t, s6, nn_s, kT_t sk, if_neg c2, kA_t sk j0 (show ix (Int32.ofNat j) < _ by omega), j1, he, if_pos (show e < 0 by grind), if_neg (show ¬ e = -3 by grind), of_s1 j (by omega)]
  split <;> rfl
end L3
