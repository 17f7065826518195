section X8
variable {k : Nat} {ad : Nat → Nat → Nat} {C R : Mm}
/-- what both sides ask when the rope is lit -/
theorem light_ask (h : Rel k ad C R) (hk : k < 512) : ∃ r, Hall_askLaw (nw C 9 11) 8 3 = some (r, nw (fct C R) 9 11) ∧ (1 ≤ r ∧ r ≤ 99999) ∧ ∃ R2, ExR R R2 ∧ Mod_asked (w3 R) 39 3 = some (r, w3 R2) := by
  have hz := h.lv.1
  obtain ⟨ad', y1, -, -, y4⟩ := h.re (fun _ _ => 0) (fun c i q => absurd rfl q) (fun c i c' i' q _ => absurd rfl q)
  have y5 : ∀ c i, ad' c i ≠ mZ C := fun c i => by
    by_cases a : Al R c i
    · have := al_lt y1 a
      omega
    · have := y4 c i a rfl
      omega
  obtain ⟨r, r1, r2, r3⟩ := ask_hall (y1.nwC hk y5 9 11 (by decide)) 3 (by decide) (by decide)
  obtain ⟨R2, x1, x2⟩ := r3 R ExR.rf
  refine ⟨r, ?_, ⟨r2.2.2 (Or.inl rfl), r2.2.1⟩, R2, x1, ?_⟩
  · rw [r1, fct_nw hz]
  · have e := cm_asked (M := R) h.sr.k39 3
    unfold CM at e
    rw [x2] at e
    exact e
end X8
