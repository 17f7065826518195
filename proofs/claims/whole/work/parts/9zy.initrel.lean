/-! behind both constructors the two are alike -/
section ZI
variable {M : Mm}
def adI (c i : Nat) : Nat := 116 + ((c + i) * (c + i) + i)
theorem adI_ok : Ad adI := by
  refine ⟨fun c i => by unfold adI; omega, fun c i c' i' e => ?_⟩
  unfold adI at e
  have lm : ∀ s s' x x' : Nat, s < s' → x ≤ s → s * s + x < s' * s' + x' := fun s s' x x' h1 h2 => by
    have a1 : (s + 1) * (s + 1) ≤ s' * s' := Nat.mul_le_mul h1 h1
    have a2 : (s + 1) * (s + 1) = s * s + s + s + 1 := by rw [Nat.add_mul, Nat.mul_add, Nat.one_mul, Nat.mul_one]; omega
    omega
  have es : c + i = c' + i' := by
    rcases Nat.lt_trichotomy (c + i) (c' + i') with q | q | q
    · have := lm (c + i) (c' + i') i i' q (by omega); omega
    · exact q
    · have := lm (c' + i') (c + i) i' i q (by omega); omega
  rw [es] at e
  omega
theorem rs_39 : ∀ x ∈ RSi, x.1 ≤ 39 ∧ x.2.1 < 107 ∧ (x.1 = 39 ∨ x.2.2 < 39) := by decide
theorem init_rel (t : Tab 116 45818 RSi ISi M) : Rel 0 adI M M ∧ Cl Dc M := by
  obtain ⟨hZ, hS, hK, hR, hI, hL⟩ := t
  have z : ∀ a, noI a ISi = true → ∀ j, mI M a j = 0 := fun a q j => by rw [hI]; exact lkI_no q j
  have c39 : ∀ j, j ≠ 55 → j ≠ 2 → mI M 39 j = 0 := fun j q1 q2 => by
    rw [hI]
    simp [ISi, lkI, q1, q2]
  have c2 : mI M 39 2 = 1 := by rw [hI]; rfl
  have c40 : ∀ j, j < 10 → mI M 40 j = -1 := fun j q => by
    rw [hI]
    have : ∀ j, j < 10 → lkI ISi 40 j = -1 := by decide
    exact this j q
  have L0 : ∀ a j, mL M a j = 0 := hL
  have ge : ∀ c i, 116 ≤ adI c i := adI_ok.1
  have rn : ∀ a k, 40 ≤ a → mR M a k = none := fun a k q => by
    rw [hR]
    cases e : lkR RSi a k with
    | none => rfl
    | some b => exact absurd (rs_39 _ (lkR_mem e)).1 (by show ¬ a ≤ 39; omega)
  have x0 : ix 0 = 0 := rfl
  constructor
  · refine Rel.mk ⟨fun a x y => ?_, fun a k b x y => ?_⟩ ⟨fun a x y => ?_, fun k => ?_, fun a k x _ => rn a k x⟩ adI_ok ⟨by omega, fun a x => ?_, fun a j x => rn a j (by omega), by omega, by omega⟩ ?_ ?_ ?_ ?_ ?_ ?_ ?_ ?_ ?_ ?_ ?_ ?_ ?_ ?_ ?_ ?_ ?_ ?_
    · rw [hK, if_pos (by omega)]
    · rw [hR]
      revert y
      unfold RT
      repeat' split
      all_goals first
        | (intro y; cases y; rfl)
        | (intro y; cases y)
    · rw [hK, if_pos (by omega)]
    · rw [hR]
      by_cases q : k < 107
      · have : ∀ k, k < 107 → lkR RSi 39 k = RT 39 k := by decide +kernel
        exact this k q
      · have e1 : RT 39 k = none := by
          simp only [RT]
          split <;> first | omega | rfl
        rw [e1]
        cases e : lkR RSi 39 k with
        | none => rfl
        | some b => exact absurd (rs_39 _ (lkR_mem e)).2.1 q
    · rw [hK, if_neg (by omega)]
    · have dyn : ∀ c i k a b, c < 100 → noI a ISi = true → rI M (pl adI c i) k = mI M a b := fun c i k a b p q => by
        have e0 : pl adI c i = adI c i := by unfold pl; rw [if_pos p]
        rw [e0]
        unfold rI
        rw [hZ, if_neg (by have := ge c i; omega), z a q b]
      have st1 : ∀ c i k a b, 100 ≤ c → c < 139 → lkI ISi (c - 100) k = lkI ISi a b → rI M (pl adI c i) k = mI M a b := fun c i k a b p q e => by
        have e0 : pl adI c i = c - 100 := by unfold pl; rw [if_neg (by omega)]
        rw [e0]
        unfold rI
        rw [hZ, if_pos (by omega), hI, hI, e]
      have st0 : ∀ c i k a b, 100 ≤ c → c < 139 → noI (c - 100) ISi = true → noI a ISi = true → rI M (pl adI c i) k = mI M a b := fun c i k a b p q e1 e2 => st1 c i k a b p q (by rw [lkI_no e1, lkI_no e2])
      have st2 : ∀ k, lkI ISi 10 k = lkI ISi 40 k := fun k => by simp [ISi, lkI]
      intro c i j
      unfold cm
      repeat' split
      all_goals first
        | (intro q; exact absurd rfl q)
        | (intro _; dsimp only; exact dyn _ _ _ _ _ (by decide) (by decide))
        | (intro _; dsimp only; exact st0 _ _ _ _ _ (by decide) (by decide) (by decide) (by decide))
        | (intro _; dsimp only; exact st1 _ _ _ _ _ (by decide) (by decide) rfl)
        | (intro _; dsimp only; exact st1 _ _ _ _ _ (by decide) (by decide) (st2 _))
    · intro c i j q
      unfold rL
      rw [L0, L0]
      split <;> rfl
    · unfold Isc
      rw [c39 0 (by decide) (by decide), c39 1 (by decide) (by decide), c2, c39 9 (by decide) (by decide), c39 22 (by decide) (by decide), c39 23 (by decide) (by decide), c39 24 (by decide) (by decide), c39 54 (by decide) (by decide), c39 71 (by decide) (by decide), c39 37 (by decide) (by decide), c39 70 (by decide) (by decide), c39 73 (by decide) (by decide)]
      decide
    · refine ⟨fun t ht => ⟨Or.inl (c40 t ht), ?_⟩, fun j _ => ?_, fun j _ => ?_⟩
      · rw [z 41 (by decide)]; decide
      · rw [z 42 (by decide), z 43 (by decide)]; decide
      · rw [z 79 (by decide)]; decide
    · unfold Ipe
      rw [c39 71 (by decide) (by decide), c39 21 (by decide) (by decide), c39 0 (by decide) (by decide), c2, L0]
      refine ⟨fun i _ => ?_, fun j _ => ?_, by decide, by decide, fun i _ => ?_, by decide⟩
      · rw [z 46 (by decide), z 47 (by decide), z 49 (by decide), L0]; decide
      · rw [z 112 (by decide)]; decide
      · rw [z 91 (by decide)]; decide
    · intro i hi
      rw [c39 9 (by decide) (by decide), x0] at hi
      omega
    · intro i hi
      rw [c39 22 (by decide) (by decide), x0] at hi
      omega
    · have sp : ∀ s, sumP M s = 0 := fun s => sumTo_n (fun j _ => by rw [z 53 (by decide)]; rfl)
      have sw : ∀ s, sumW M s = 0 := fun s => by unfold sumW; rw [c39 24 (by decide) (by decide), x0]; rfl
      refine ⟨fun s _ => ?_, fun j _ => ?_, fun w hw => ?_, fun u hu => ?_, fun s _ _ => z 55 (by decide) s⟩
      · rw [z 54 (by decide), z 55 (by decide), z 56 (by decide), z 57 (by decide), sp, sw, c39 23 (by decide) (by decide)]; decide
      · rw [z 53 (by decide)]; decide
      · rw [c39 24 (by decide) (by decide), x0] at hw; omega
      · rw [c39 23 (by decide) (by decide), x0] at hu; omega
    · intro i hi
      rw [c39 22 (by decide) (by decide), x0] at hi
      omega
    · intro i hi
      rw [c39 37 (by decide) (by decide), x0] at hi
      omega
    · unfold Ied
      rw [c39 46 (by decide) (by decide), c39 52 (by decide) (by decide), c39 37 (by decide) (by decide), x0]
      exact ⟨by decide, by decide, fun t ht => absurd ht (by omega), fun t ht => absurd ht (by omega)⟩
    · intro i hi
      rw [c39 37 (by decide) (by decide), x0] at hi
      omega
    · refine ⟨fun s hs => ?_, ?_, fun c i => Or.inr (by rw [hZ]; exact ge c i)⟩
      · rw [c39 70 (by decide) (by decide), x0] at hs
        omega
      · rw [c39 73 (by decide) (by decide), if_pos rfl, hR]
        rfl
    · have z84 := z 84 (by decide)
      have z86 := z 86 (by decide)
      have z87 := z 87 (by decide)
      have z88 := z 88 (by decide)
      have z89 := z 89 (by decide)
      have z90 := z 90 (by decide)
      have z103 := z 103 (by decide)
      have z104 := z 104 (by decide)
      have z105 := z 105 (by decide)
      have z107 := z 107 (by decide)
      have z108 := z 108 (by decide)
      unfold Ise
      rw [c39 70 (by decide) (by decide), c39 73 (by decide) (by decide), c39 0 (by decide) (by decide), x0]
      refine ⟨fun s _ => ?_, fun s _ _ => ⟨z87 s, z88 s, z90 s, z89 s, z86 s⟩, fun q => absurd q (by decide), fun s hs => absurd hs (by omega), fun s c _ hc => ?_, fun s c _ hc => ?_, fun x _ => ?_, fun x _ => ?_, fun s b _ _ _ => ⟨z103 _, z104 _, z105 _, z107 _, z107 _⟩⟩
      · rw [z87, z88, z90, z84, z86]; decide
      · rw [z87, x0] at hc; omega
      · rw [z88, x0] at hc; omega
      · rw [z103, z104]; decide
      · rw [z107, z108]; decide
    · intro q
      rw [c39 73 (by decide) (by decide)] at q
      exact absurd q (by decide)
    · refine ⟨fun s hs => ?_, fun q => ?_⟩
      · rw [c39 70 (by decide) (by decide), x0] at hs
        omega
      · rw [c39 73 (by decide) (by decide)] at q
        exact absurd q (by decide)
    · intro s b hs _
      rw [c39 70 (by decide) (by decide), x0] at hs
      omega
    · intro s hs
      rw [c39 70 (by decide) (by decide), x0] at hs
      omega
  · intro a k b da e
    rw [hR] at e
    have m := (rs_39 _ (lkR_mem e)).2.2
    have m1 := (rs_39 _ (lkR_mem e)).1
    unfold Dc at da ⊢
    intro w
    rcases m with m | m
    · exact da ⟨by show 39 ≤ a; have : a = 39 := m; omega, by have : a = 39 := m; omega⟩
    · have : b < 39 := m
      omega
end ZI
