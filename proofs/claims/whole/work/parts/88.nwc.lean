section X3
variable {k : Nat} {ad : Nat → Nat → Nat} {C R : Mm}
/-- a new cell of the class that no role names -/
theorem Rel.nwC (h : Rel k ad C R) (hk : k < 512) (hf : ∀ c i, ad c i ≠ mZ C) (c0 n0 : Nat) (hn : n0 ≤ 2000) : Rel (k + 1) ad (nw C c0 n0) R := by
  have hz := h.lv.1
  have rI : ∀ a, a ≠ mZ C → mI (nw C c0 n0) a = mI C a := fun a p => by
    funext j
    rw [mI_nw, if_neg p]
  have rK : ∀ a, a ≠ mZ C → mK (nw C c0 n0) a = mK C a := fun a p => by rw [mK_nw, if_neg p]
  have rR : ∀ a, a ≠ mZ C → mR (nw C c0 n0) a = mR C a := fun a p => by
    funext j
    rw [mR_nw, if_neg p]
  have fI : ∀ c i, mI (nw C c0 n0) (ad c i) = mI C (ad c i) := fun c i => rI _ (hf c i)
  have fK : ∀ c i, mK (nw C c0 n0) (ad c i) = mK C (ad c i) := fun c i => rK _ (hf c i)
  have fR : ∀ c i, mR (nw C c0 n0) (ad c i) = mR C (ad c i) := fun c i => rR _ (hf c i)
  obtain ⟨l1, l2, l3, l4, l5⟩ := h.lv
  refine Rel.mk ⟨fun a x y => ?_, fun a j b x y => ?_⟩ h.sr h.hA ⟨by show 116 ≤ mZ C + 1; omega, fun a x => ?_, fun a j x => ?_, by show mZ C + 1 ≤ _; omega, by show mS C + n0 ≤ _; omega⟩ h.dt.nw h.dl.nw h.isc h.ila (h.ipe.up hk) (fun i hi => ?_) (fun s hs => ?_) h.ist (fun s hs => ?_) (fun t ht => ?_) h.ied ?_ ⟨fun s hs => ?_, ?_, fun c i => ?_⟩ h.ise h.ison ?_ ?_ ?_
  · rw [rK a (by omega)]; exact h.sc.1 a x y
  · rw [rR a (by omega)]; exact h.sc.2 a j b x y
  · have x : mZ C + 1 ≤ a := x
    rw [rK a (by omega)]; exact l2 a (by omega)
  · have x : mZ C + 1 ≤ a := x
    rw [rR a (by omega)]; exact l3 a j (by omega)
  · rw [rR 16 (by omega), fR 1 i, fK 1 i, fK 2 i, fK 3 i]
    exact h.shp i hi
  · rw [rR 17 (by omega), fR 4 s, fK 4 s, fK 5 s, fK 6 s, fK 7 s, fK 8 s, fK 9 s]
    exact h.shs s hs
  · rw [fI 4 s, fI 5 s, fI 6 s, fI 7 s, fI 8 s, fI 9 s]
    exact h.qs s hs
  · rw [rR 28 (by omega), fR 16 t, fK 16 t, fK 17 t, fK 18 t, fK 19 t, fK 20 t]
    exact h.she t ht
  · exact h.eds.cg2 (fun t => fK 20 t) (fun c s _ _ => fI c s) rfl rfl rfl rfl rfl rfl rfl rfl rfl rfl rfl rfl
  · obtain ⟨a1, a2, a3, a4, a5, a6, a7, a8, a9, a10⟩ := h.shn.1 s hs
    rw [rR 37 (by omega), fR 10 s, fR 11 s, fR 13 s, fK 10 s, fK 11 s, fK 12 s, fK 13 s]
    refine ⟨a1, a2, a3, a4, a5, a6, a7, a8, fun c hc => ?_, fun b hb => ?_⟩
    · rw [fK 14 _]; exact a9 c hc
    · rw [fK 15 _]; exact a10 b hb
  · rw [rR 8 (by omega)]; exact h.shn.2.1
  · show Al R c i ∨ mZ C + 1 ≤ ad c i
    have old := h.shn.2.2 c i
    have := hf c i
    rcases old with q | q
    · exact Or.inl q
    · right; omega
  · exact h.son.cg (fun s => congrFun (fI 10 s) 7) (fun s => fI 12 s) rfl rfl rfl rfl
  · exact h.den.cg (fun s j _ => congrFun (fI 15 s) j) rfl rfl rfl rfl
  · exact h.evs.cg (fun s => congrFun (fI 14 s) 5) rfl rfl rfl rfl rfl rfl
end X3
