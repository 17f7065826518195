section N2
variable {k : Nat} {ad : Nat → Nat → Nat} {C R : Mm}
theorem fc_skip (R : Mm) (a b : Nat) : ∀ (e u d : Nat), (∀ v, u ≤ v → v < u + e → ¬ clR R a b v) → fcR R a b u (e + d) = fcR R a b (u + e) d
  | 0, u, d, _ => by rw [Nat.zero_add, Nat.add_zero]
  | e + 1, u, d, h => by
    have h1 := fc_skip R a b e (u + 1) d (fun v p q => h v (by omega) (by omega))
    rw [show e + 1 + d = (e + d) + 1 by omega]
    show @ite _ (clR R a b u) (Classical.propDecidable _) (some u) (fcR R a b (u + 1) (e + d)) = _
    rw [if_neg (h u (Nat.le_refl u) (by omega)), h1, show u + 1 + e = u + (e + 1) by omega]
theorem fc_none (R : Mm) (a b : Nat) (d u : Nat) (h : ∀ v, u ≤ v → v < u + d → ¬ clR R a b v) : fcR R a b u d = none := by
  have := fc_skip R a b d u 0 h
  rw [Nat.add_zero] at this
  rw [this]
  rfl
theorem fc_b (R : Mm) (a b : Nat) : ∀ (d u v : Nat), fcR R a b u d = some v → u ≤ v ∧ v < u + d
  | 0, u, v, h => by cases h
  | d + 1, u, v, h => by
    have h : @ite _ (clR R a b u) (Classical.propDecidable _) (some u) (fcR R a b (u + 1) d) = some v := h
    by_cases c : clR R a b u
    · rw [if_pos c] at h; cases h; omega
    · rw [if_neg c] at h
      have := fc_b R a b d (u + 1) v h
      omega
theorem ev_night (M : Mm) (u : Nat) (hu : u < 1000000) : Land_pastNight M (Int32.ofNat u) = some (Int32.ofNat (pnN u), M) := by
  unfold Land_pastNight pnN
  simp only [rm_of u (by omega)]
  have a1 : (360 ≤ Int32.ofNat (u % 1440)) ↔ 360 ≤ u % 1440 := of_le 360 _ (by omega) (by omega)
  have a2 : (Int32.ofNat (u % 1440) ≤ 1079) ↔ u % 1440 ≤ 1079 := of_le _ 1079 (by omega) (by omega)
  by_cases c1 : u % 1440 < 360
  · rw [if_neg (by rw [a1]; omega), if_pos c1]
    have : Int32.ofNat u + 360 - Int32.ofNat (u % 1440) = Int32.ofNat (u + 360 - u % 1440) := by
      rw [show (360 : Int32) = Int32.ofNat 360 from rfl, of_add, of_sub _ _ (by omega)]
    rw [this]
  · rw [if_pos (by rw [a1]; omega), if_neg c1]
    by_cases c2 : 1079 < u % 1440
    · rw [if_neg (by rw [a2]; omega), if_pos c2]
      have : Int32.ofNat u + 1440 + 360 - Int32.ofNat (u % 1440) = Int32.ofNat (u + 1440 + 360 - u % 1440) := by
        rw [show (360 : Int32) = Int32.ofNat 360 from rfl, show (1440 : Int32) = Int32.ofNat 1440 from rfl, of_add, of_add, of_sub _ _ (by omega)]
      rw [this]
    · rw [if_pos (by rw [a2]; omega), if_neg c2]
theorem ev_pfog (h : Rel k ad C R) {t u : Nat} (ht : t < 10) (hu : u < 1000000) : Land_pastFog C 9 (Int32.ofNat t) (Int32.ofNat u) = some (Int32.ofNat (pfR R t u), C) := by
  have t0 : (0 : Int32) ≤ Int32.ofNat t := of_nn t (by omega)
  have t1 : ix (Int32.ofNat t) = t := ix_of t (by omega)
  unfold Land_pastFog pfR
  simp only [h.o9, ck_t, h.sc.r9_0, h.sc.r9_1, nn_s, kA_t h.sc.k10 t0 (show ix (Int32.ofNat t) < 10 by omega), kA_t h.sc.k11 t0 (show ix (Int32.ofNat t) < 10 by omega), t1, h.la10, h.la11]
  by_cases c : mI R 40 t = -1
  · rw [if_pos c, if_pos c]
  · rw [if_neg c, if_neg c]
    rcases ila_b h ht with e | ⟨e1, e2, e3, e4⟩
    · contradiction
    · have f1 : mI R 40 t = Int32.ofNat (ix (mI R 40 t)) := (of_ix _ e1).symm
      have f2 : mI R 41 t = Int32.ofNat (ix (mI R 41 t)) := (of_ix _ e3).symm
      generalize ix (mI R 40 t) = F at *
      generalize ix (mI R 41 t) = G at *
      have g1 : mI R 41 t - mI R 40 t + 1440 = Int32.ofNat (G + 1440 - F) := by
        rw [f1, f2, show (1440 : Int32) = Int32.ofNat 1440 from rfl, ← of_sub _ _ (by omega), ← of_add]
        grind
      have g2 : rm (Int32.ofNat u) 1440 - mI R 40 t + 1440 = Int32.ofNat (u % 1440 + 1440 - F) := by
        rw [rm_of u (by omega), f1, show (1440 : Int32) = Int32.ofNat 1440 from rfl, ← of_sub _ _ (by omega), ← of_add]
        grind
      rw [g1, g2, rm_of _ (by omega), rm_of _ (by omega)]
      unfold pfN
      have a1 : (Int32.ofNat ((G + 1440 - F) % 1440) < Int32.ofNat ((u % 1440 + 1440 - F) % 1440)) ↔ (G + 1440 - F) % 1440 < (u % 1440 + 1440 - F) % 1440 := of_lt _ _ (by omega) (by omega)
      by_cases c1 : (G + 1440 - F) % 1440 < (u % 1440 + 1440 - F) % 1440
      · rw [if_pos (a1.mpr c1), if_pos c1]
      · rw [if_neg (fun q => c1 (a1.mp q)), if_neg c1, of_add, of_sub _ _ (by omega), of_s1 _ (by omega)]
theorem lp_flags (h : Rel k ad C R) {a b s : Nat} (ha : a < 10) (hb : b < 10) (hs : s ≤ 100000) : ∀ (d n u i : Nat), u + d = s + 2880 ∨ (d = 0 ∧ s + 2880 ≤ u ∧ u ≤ s + 10000) → s ≤ u → i ≤ u - s → i ≤ 2880 → d + 1 < n → Land_flagsSeen_L6 n 9 (Int32.ofNat a) (Int32.ofNat b) (Int32.ofNat s) (Int32.ofNat u) (Int32.ofNat i) C = some (match fcR R a b u d with | none => 2147483647 | some v => Int32.ofNat v, C) := by
  intro d
  induction d using Nat.strongRecOn with
  | _ d ih =>
    intro n u i hu hsu hi hi2 hn
    obtain ⟨n, rfl⟩ : ∃ x, n = x + 1 := ⟨n - 1, by omega⟩
    show Land_flagsSeen_B6 _ _ _ _ _ _ _ _ = _
    unfold Land_flagsSeen_B6
    have a1 : (2880 ≤ Int32.ofNat i) ↔ 2880 ≤ i := of_le 2880 _ (by omega) (by omega)
    have a2 : (Int32.ofNat s + 2880 ≤ Int32.ofNat u) ↔ s + 2880 ≤ u := by
      rw [show (2880 : Int32) = Int32.ofNat 2880 from rfl, of_add]
      exact of_le _ _ (by omega) (by omega)
    by_cases c0 : d = 0
    · subst c0
      have e : Int32.ofNat s + 2880 ≤ Int32.ofNat u := a2.mpr (by omega)
      by_cases c1 : (2880 : Int32) ≤ Int32.ofNat i
      · rw [if_pos c1]; rfl
      · rw [if_neg c1, if_pos e]; rfl
    · have hud : u + d = s + 2880 := by omega
      rw [if_neg (by rw [a1]; omega), if_neg (by rw [a2]; omega)]
      have g1 := pn_ge u
      have g2 := pfR_ge h ha (pnN u)
      have gx := nx_ge h ha hb u
      rw [ev_night _ u (by omega), bd_s, h.o9, ck_t, ev_pfog h ha (by omega), bd_s, h.o9, ck_t, ev_pfog h hb (by omega), bd_s]
      have ex : pfR R b (pfR R a (pnN u)) = nxR R a b u := rfl
      rw [ex]
      have a3 : (Int32.ofNat (nxR R a b u) = Int32.ofNat u) ↔ nxR R a b u = u := of_eq _ _ (by omega) (by omega)
      by_cases c2 : nxR R a b u = u
      · rw [if_pos (a3.mpr c2)]
        obtain ⟨d', rfl⟩ : ∃ x, d = x + 1 := ⟨d - 1, by omega⟩
        have : fcR R a b u (d' + 1) = some u := by
          show @ite _ (clR R a b u) (Classical.propDecidable _) (some u) (fcR R a b (u + 1) d') = _
          rw [if_pos (nx_eq h ha hb c2)]
        rw [this]
      · rw [if_neg (fun q => c2 (a3.mp q)), of_s1 i (by omega)]
        by_cases c3 : nxR R a b u - u ≤ d
        · have fs := fc_skip R a b (nxR R a b u - u) u (d - (nxR R a b u - u)) (fun v p q => nx_in h ha hb p (by omega))
          rw [show nxR R a b u - u + (d - (nxR R a b u - u)) = d by omega, show u + (nxR R a b u - u) = nxR R a b u by omega] at fs
          rw [fs]
          exact ih (d - (nxR R a b u - u)) (by omega) n (nxR R a b u) (i + 1) (by omega) (by omega) (by omega) (by omega) (by omega)
        · rw [fc_none R a b d u (fun v p q => nx_in h ha hb p (by omega))]
          exact ih 0 (by omega) n (nxR R a b u) (i + 1) (by omega) (by omega) (by omega) (by omega) (by omega)
theorem ev_fog (h : Rel k ad C R) {t x : Nat} (ht : t < 10) (hx : x < 1440) : ∃ z : Int32, Mod_hasFog R 39 (Int32.ofNat t) (Int32.ofNat x) = some (z, R) ∧ (z = 0 ↔ ¬ fgR R t x) := by
  have t0 : (0 : Int32) ≤ Int32.ofNat t := of_nn t (by omega)
  have t1 : ix (Int32.ofNat t) = t := ix_of t (by omega)
  unfold Mod_hasFog fgR fogN
  simp only [h.o39, ck_t, h.sr.r39_3, h.sr.r39_4, nn_s, kA_t h.sr.k40 t0 (show ix (Int32.ofNat t) < 10 by omega), kA_t h.sr.k41 t0 (show ix (Int32.ofNat t) < 10 by omega), t1]
  rcases ila_b h ht with e | ⟨e1, e2, e3, e4⟩
  · rw [if_neg (by rw [e]; decide)]
    exact ⟨0, rfl, fun _ q => q.1 e, fun _ => rfl⟩
  · have ne : mI R 40 t ≠ -1 := by grind
    have f1 : mI R 40 t = Int32.ofNat (ix (mI R 40 t)) := (of_ix _ e1).symm
    have f2 : mI R 41 t = Int32.ofNat (ix (mI R 41 t)) := (of_ix _ e3).symm
    rw [if_pos e1]
    have b1 : (mI R 41 t < mI R 40 t) ↔ ix (mI R 41 t) < ix (mI R 40 t) := by rw [f1, f2, of_lt _ _ (by omega) (by omega), ix_of _ (by omega), ix_of _ (by omega)]
    have b2 : (mI R 40 t ≤ Int32.ofNat x) ↔ ix (mI R 40 t) ≤ x := by rw [f1, of_le _ _ (by omega) (by omega), ix_of _ (by omega)]
    have b3 : (mI R 41 t < Int32.ofNat x) ↔ ix (mI R 41 t) < x := by rw [f2, of_lt _ _ (by omega) (by omega), ix_of _ (by omega)]
    have b4 : (Int32.ofNat x < mI R 40 t) ↔ x < ix (mI R 40 t) := by rw [f1, of_lt _ _ (by omega) (by omega), ix_of _ (by omega)]
    simp only [b1, b2, b3, b4]
    generalize ix (mI R 40 t) = F at *
    generalize ix (mI R 41 t) = G at *
    by_cases c1 : G < F
    · simp only [if_pos c1]
      by_cases c2 : F ≤ x
      · rw [if_pos c2]
        exact ⟨1, rfl, fun q => absurd q (by decide), fun q => absurd ⟨ne, Or.inl c2⟩ q⟩
      · rw [if_neg c2]
        by_cases c3 : G < x
        · rw [if_pos c3]
          exact ⟨0, rfl, fun _ q => by omega, fun _ => rfl⟩
        · rw [if_neg c3]
          exact ⟨1, rfl, fun q => absurd q (by decide), fun q => absurd ⟨ne, Or.inr (by omega)⟩ q⟩
    · simp only [if_neg c1]
      by_cases c2 : x < F
      · rw [if_pos c2]
        exact ⟨0, rfl, fun _ q => by omega, fun _ => rfl⟩
      · rw [if_neg c2]
        by_cases c3 : G < x
        · rw [if_pos c3]
          exact ⟨0, rfl, fun _ q => by omega, fun _ => rfl⟩
        · rw [if_neg c3]
          exact ⟨1, rfl, fun q => absurd q (by decide), fun q => absurd ⟨ne, by omega⟩ q⟩
theorem lp_goes (h : Rel k ad C R) {a b s w f : Nat} (ha : a < 10) (hb : b < 10) (hs : s ≤ 100000) (hw : w ≤ 200000) (hf : f ≤ 200) : ∀ (d n u : Nat), u + d = s + 2880 → s ≤ u → d < n → Mod_goes_L39 n 39 (Int32.ofNat a) (Int32.ofNat b) (Int32.ofNat s) (Int32.ofNat w) (Int32.ofNat f) (Int32.ofNat u) R = some (match fcR R a b u d with | none => Int32.ofNat w | some v => if v + f < w then Int32.ofNat (v + f) else Int32.ofNat w, R) := by
  intro d
  induction d with
  | zero =>
    intro n u hu hsu hn
    obtain ⟨n, rfl⟩ : ∃ x, n = x + 1 := ⟨n - 1, by omega⟩
    show Mod_goes_B39 _ _ _ _ _ _ _ _ _ = _
    unfold Mod_goes_B39
    have a2 : (Int32.ofNat s + 2880 ≤ Int32.ofNat u) ↔ s + 2880 ≤ u := by
      rw [show (2880 : Int32) = Int32.ofNat 2880 from rfl, of_add]
      exact of_le _ _ (by omega) (by omega)
    rw [if_pos (a2.mpr (by omega))]
    rfl
  | succ d ih =>
    intro n u hu hsu hn
    obtain ⟨n, rfl⟩ : ∃ x, n = x + 1 := ⟨n - 1, by omega⟩
    have x := ih n (u + 1) (by omega) (by omega) (by omega)
    show Mod_goes_B39 _ _ _ _ _ _ _ _ _ = _
    unfold Mod_goes_B39 Mod_goes_J109
    have a2 : (Int32.ofNat s + 2880 ≤ Int32.ofNat u) ↔ s + 2880 ≤ u := by
      rw [show (2880 : Int32) = Int32.ofNat 2880 from rfl, of_add]
      exact of_le _ _ (by omega) (by omega)
    have a3 : (Int32.ofNat w ≤ Int32.ofNat u + Int32.ofNat f) ↔ w ≤ u + f := by
      rw [of_add]
      exact of_le _ _ (by omega) (by omega)
    rw [if_neg (fun q => by have := a2.mp q; omega)]
    by_cases c1 : w ≤ u + f
    · rw [if_pos (a3.mpr c1)]
      cases e : fcR R a b u (d + 1) with
      | none => rfl
      | some v =>
        have := fc_b R a b _ _ _ e
        show some (Int32.ofNat w, R) = some ((if v + f < w then Int32.ofNat (v + f) else Int32.ofNat w), R)
        rw [if_neg (by omega)]
    · rw [if_neg (fun q => c1 (a3.mp q))]
      have ef : fcR R a b u (d + 1) = @ite _ (clR R a b u) (Classical.propDecidable _) (some u) (fcR R a b (u + 1) d) := rfl
      rw [ef]
      simp only [rm_of u (by omega), of_s1 u (by omega), h.o39, ck_t]
      have a4 : (Int32.ofNat (u % 1440) < 360) ↔ u % 1440 < 360 := of_lt _ 360 (by omega) (by omega)
      have a5 : (1080 ≤ Int32.ofNat (u % 1440)) ↔ 1080 ≤ u % 1440 := of_le 1080 _ (by omega) (by omega)
      obtain ⟨z1, p1, p2⟩ := ev_fog h ha (show u % 1440 < 1440 by omega)
      obtain ⟨z2, p3, p4⟩ := ev_fog h hb (show u % 1440 < 1440 by omega)
      by_cases c2 : u % 1440 < 360
      · rw [if_pos (a4.mpr c2), if_neg (show ¬ clR R a b u from fun q => by have := q.1; omega)]
        exact x
      · rw [if_neg (fun q => c2 (a4.mp q))]
        by_cases c3 : 1080 ≤ u % 1440
        · rw [if_pos (a5.mpr c3), if_neg (show ¬ clR R a b u from fun q => by have := q.1; omega)]
          exact x
        · rw [if_neg (fun q => c3 (a5.mp q)), p1, bd_s]
          by_cases c4 : z1 = 0
          · rw [if_pos c4, h.o39, ck_t, p3, bd_s]
            by_cases c5 : z2 = 0
            · rw [if_pos c5, if_pos (show clR R a b u from ⟨by omega, p2.mp c4, p4.mp c5⟩)]
              show _ = some ((if u + f < w then Int32.ofNat (u + f) else Int32.ofNat w), R)
              rw [if_pos (by omega), of_add]
            · rw [if_neg c5, if_neg (show ¬ clR R a b u from fun q => c5 (p4.mpr q.2.2))]
              exact x
          · rw [if_neg c4, if_neg (show ¬ clR R a b u from fun q => c4 (p2.mpr q.2.1))]
            exact x
end N2
