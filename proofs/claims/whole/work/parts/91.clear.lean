section X6
theorem lp_clear : ∀ (d n j : Nat) (M : Mm), SR M → j + d = 60 → d < n → ∃ M', Mod_light_L77 n 39 (Int32.ofNat j) M = some (mI M 39 70 - 1, M') ∧ (∀ a i, mI M' a i = if a = 109 ∧ j ≤ i ∧ i < 60 then 0 else mI M a i) ∧ mL M' = mL M ∧ mR M' = mR M ∧ mK M' = mK M := by
  intro d
  induction d with
  | zero =>
    intro n j M hs hj hn
    obtain ⟨n, rfl⟩ : ∃ x, n = x + 1 := ⟨n - 1, by omega⟩
    refine ⟨M, ?_, fun a i => by rw [if_neg (by omega)], rfl, rfl, rfl⟩
    show Mod_light_B77 _ _ _ _ = _
    unfold Mod_light_B77
    have e : j = 60 := by omega
    subst e
    rw [if_pos (by decide), kO_t hs.k39, ck_t]
  | succ d ih =>
    intro n j M hs hj hn
    obtain ⟨n, rfl⟩ : ∃ x, n = x + 1 := ⟨n - 1, by omega⟩
    have J0 : (0 : Int32) ≤ Int32.ofNat j := of_nn _ (by omega)
    have J1 : ix (Int32.ofNat j) = j := ix_of _ (by omega)
    obtain ⟨M', z1, z2, z3, z4, z5⟩ := ih n (j + 1) (sI M 109 j 0) hs (by omega) (by omega)
    refine ⟨M', ?_, fun a i => ?_, z3, z4, z5⟩
    · show Mod_light_B77 _ _ _ _ = _
      unfold Mod_light_B77
      have : ¬ (60 : Int32) ≤ Int32.ofNat j := by
        have := of_le 60 j (by omega) (by omega)
        intro w
        have := this.mp w
        omega
      simp only [if_neg this, kO_t hs.k39, ck_t, hs.r39_100, nn_s, kA_t hs.k109 J0 (show ix (Int32.ofNat j) < 60 by omega), J1, of_s1 j (by omega)]
      exact z1
    · rw [z2 a i, mI_sI]
      by_cases c : a = 109 ∧ j + 1 ≤ i ∧ i < 60
      · rw [if_pos c, if_pos (by omega)]
      · rw [if_neg c]
        by_cases c2 : a = 109 ∧ i = j
        · rw [if_pos c2, if_pos (by omega)]
        · rw [if_neg c2, if_neg (by omega)]
end X6
