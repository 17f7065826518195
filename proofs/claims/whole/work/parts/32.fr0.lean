/-! frames: what a function leaves as it was. FJ: outside of a set D that holds its objects and all that is new nothing changes. NJ: references, kinds and sizes stay. -/
def Cl (D : Nat → Prop) (M : Mm) : Prop := ∀ a k b, D a → mR M a k = some b → D b
def Tp (D : Nat → Prop) (M : Mm) : Prop := ∀ a, mZ M ≤ a → D a
def Fr (D : Nat → Prop) (M M' : Mm) : Prop := (∀ a, ¬ D a → mI M' a = mI M a ∧ mL M' a = mL M a ∧ mR M' a = mR M a) ∧ (∀ a, a < mZ M → mK M' a = mK M a) ∧ mZ M ≤ mZ M' ∧ Cl D M'
def FJ (D : Nat → Prop) (M0 : Mm) {ρ : Type} (o : Option (ρ × Mm)) : Prop := ∀ r M', o = some (r, M') → Fr D M0 M'
def Sm (M M' : Mm) : Prop := mR M' = mR M ∧ mK M' = mK M ∧ mZ M' = mZ M ∧ mS M' = mS M
def NJ (M0 : Mm) {ρ : Type} (o : Option (ρ × Mm)) : Prop := ∀ r M', o = some (r, M') → Sm M0 M'
section FJ1
variable {D : Nat → Prop} {M0 M : Mm} {ρ σ : Type} {o o1 o2 : Option (ρ × Mm)}
theorem Sm.rf : Sm M M := ⟨rfl, rfl, rfl, rfl⟩
theorem Sm.tr {M1 M2 M3 : Mm} (h : Sm M1 M2) (h2 : Sm M2 M3) : Sm M1 M3 := ⟨h2.1.trans h.1, h2.2.1.trans h.2.1, h2.2.2.1.trans h.2.2.1, h2.2.2.2.trans h.2.2.2⟩
theorem Sm_sI {a k : Nat} {v : Int32} (h : Sm M0 M) : Sm M0 (sI M a k v) := h
theorem Sm_sL {a k : Nat} {v : Int64} (h : Sm M0 M) : Sm M0 (sL M a k v) := h
theorem NJ_leaf {r : ρ} (h : Sm M0 M) : NJ M0 (some (r, M)) := fun _ _ e => by cases e; exact h
theorem NJ_none : NJ M0 (none : Option (ρ × Mm)) := fun _ _ e => by cases e
theorem NJ_ck {b : Bool} (h : NJ M0 o) : NJ M0 (ck b o) := by
  cases b with
  | true => exact h
  | false => exact NJ_none
theorem NJ_if {c : Prop} [inst : Decidable c] (h1 : NJ M0 o1) (h2 : NJ M0 o2) : NJ M0 (if c then o1 else o2) := by
  split
  · exact h1
  · exact h2
theorem NJ_nn {q : Option Nat} {k : Nat → Option (ρ × Mm)} (h : ∀ b, NJ M0 (k b)) : NJ M0 (nn q k) := by
  cases q with
  | none => exact NJ_none
  | some a => exact h a
theorem NJ_nl {q : Option Nat} {k0 : Option (ρ × Mm)} {k : Nat → Option (ρ × Mm)} (h0 : NJ M0 k0) (h : ∀ b, NJ M0 (k b)) : NJ M0 (nl q k0 k) := by
  cases q with
  | none => exact h0
  | some a => exact h a
theorem NJ_bd {Mc : Mm} {q : Option (σ × Mm)} {k : σ → Mm → Option (ρ × Mm)} (hs : Sm M0 Mc) (hq : NJ Mc q) (h : ∀ r M1, Sm M0 M1 → NJ M0 (k r M1)) : NJ M0 (bd q k) := by
  cases q with
  | none => exact NJ_none
  | some x => exact h x.1 x.2 (hs.tr (hq _ _ rfl))
theorem Fr.rf (hC : Cl D M) : Fr D M M := ⟨fun _ _ => ⟨rfl, rfl, rfl⟩, fun _ _ => rfl, Nat.le_refl _, hC⟩
theorem Fr.tr {M1 M2 M3 : Mm} (h : Fr D M1 M2) (h2 : Fr D M2 M3) : Fr D M1 M3 :=
  ⟨fun a ha => ⟨(h2.1 a ha).1.trans (h.1 a ha).1, (h2.1 a ha).2.1.trans (h.1 a ha).2.1, (h2.1 a ha).2.2.trans (h.1 a ha).2.2⟩, fun a ha => (h2.2.1 a (Nat.lt_of_lt_of_le ha h.2.2.1)).trans (h.2.1 a ha), Nat.le_trans h.2.2.1 h2.2.2.1, h2.2.2.2⟩
theorem Fr.z (h : Fr D M0 M) : mZ M0 ≤ mZ M := h.2.2.1
theorem Fr_sI {a k : Nat} {v : Int32} (h : Fr D M0 M) (ha : D a) : Fr D M0 (sI M a k v) := by
  refine ⟨fun b hb => ?_, h.2.1, h.2.2.1, h.2.2.2⟩
  refine ⟨?_, (h.1 b hb).2.1, (h.1 b hb).2.2⟩
  rw [← (h.1 b hb).1]
  funext j
  rw [mI_sI, if_neg (fun q => hb (by rw [q.1]; exact ha))]
theorem Fr_sL {a k : Nat} {v : Int64} (h : Fr D M0 M) (ha : D a) : Fr D M0 (sL M a k v) := by
  refine ⟨fun b hb => ?_, h.2.1, h.2.2.1, h.2.2.2⟩
  refine ⟨(h.1 b hb).1, ?_, (h.1 b hb).2.2⟩
  rw [← (h.1 b hb).2.1]
  funext j
  rw [mL_sL, if_neg (fun q => hb (by rw [q.1]; exact ha))]
theorem Fr_sR {a k : Nat} {v : Option Nat} (h : Fr D M0 M) (ha : D a) (hv : ∀ b, v = some b → D b) : Fr D M0 (sR M a k v) := by
  refine ⟨fun b hb => ?_, h.2.1, h.2.2.1, fun b j x hb hx => ?_⟩
  · refine ⟨(h.1 b hb).1, (h.1 b hb).2.1, ?_⟩
    rw [← (h.1 b hb).2.2]
    funext j
    rw [mR_sR, if_neg (fun q => hb (by rw [q.1]; exact ha))]
  · rw [mR_sR] at hx
    split at hx
    · exact hv x hx
    · exact h.2.2.2 b j x hb hx
theorem Fr_sRs {a k v : Nat} (h : Fr D M0 M) (ha : D a) (hv : D v) : Fr D M0 (sR M a k (some v)) := Fr_sR h ha (fun b e => by cases e; exact hv)
theorem Fr_sRn {a k : Nat} (h : Fr D M0 M) (ha : D a) : Fr D M0 (sR M a k none) := Fr_sR h ha (fun b e => by cases e)
theorem Fr_nw {c n : Nat} (hT : Tp D M0) (h : Fr D M0 M) : Fr D M0 (nw M c n) := by
  have hz : ∀ b, ¬ D b → b ≠ mZ M := fun b hb e => hb (by rw [e]; exact hT _ h.2.2.1)
  refine ⟨fun b hb => ?_, fun b hb => ?_, Nat.le_trans h.2.2.1 (Nat.le_succ _), fun b j x hb hx => ?_⟩
  · refine ⟨?_, ?_, ?_⟩
    · rw [← (h.1 b hb).1]; funext j; rw [mI_nw, if_neg (hz b hb)]
    · rw [← (h.1 b hb).2.1]; funext j; rw [mL_nw, if_neg (hz b hb)]
    · rw [← (h.1 b hb).2.2]; funext j; rw [mR_nw, if_neg (hz b hb)]
  · rw [mK_nw, if_neg (by have := h.2.2.1; omega)]; exact h.2.1 b hb
  · rw [mR_nw] at hx
    split at hx
    · cases hx
    · exact h.2.2.2 b j x hb hx
theorem Fr_cpy {a b n : Nat} (h : Fr D M0 M) (hb : D b) : Fr D M0 (cpy M a b n) := by
  refine ⟨fun c hc => ?_, h.2.1, h.2.2.1, h.2.2.2⟩
  refine ⟨?_, (h.1 c hc).2.1, (h.1 c hc).2.2⟩
  rw [← (h.1 c hc).1]
  funext j
  rw [mI_cpy, if_neg (fun q => hc (by rw [q.1]; exact hb))]
theorem FJ_leaf {r : ρ} (h : Fr D M0 M) : FJ D M0 (some (r, M)) := fun _ _ e => by cases e; exact h
theorem FJ_none : FJ D M0 (none : Option (ρ × Mm)) := fun _ _ e => by cases e
theorem FJ_ck {b : Bool} (h : FJ D M0 o) : FJ D M0 (ck b o) := by
  cases b with
  | true => exact h
  | false => exact FJ_none
theorem FJ_if {c : Prop} [inst : Decidable c] (h1 : FJ D M0 o1) (h2 : FJ D M0 o2) : FJ D M0 (if c then o1 else o2) := by
  split
  · exact h1
  · exact h2
theorem FJ_nn {a k0 : Nat} {k : Nat → Option (ρ × Mm)} (hF : Fr D M0 M) (ha : D a) (h : ∀ b, D b → FJ D M0 (k b)) : FJ D M0 (nn (mR M a k0) k) := by
  cases e : mR M a k0 with
  | none => exact FJ_none
  | some b => exact h b (hF.2.2.2 a k0 b ha e)
theorem FJ_nl {a j : Nat} {k0 : Option (ρ × Mm)} {k : Nat → Option (ρ × Mm)} (hF : Fr D M0 M) (ha : D a) (h0 : FJ D M0 k0) (h : ∀ b, D b → FJ D M0 (k b)) : FJ D M0 (nl (mR M a j) k0 k) := by
  cases e : mR M a j with
  | none => exact h0
  | some b => exact h b (hF.2.2.2 a j b ha e)
theorem FJ_bd {q : Option (σ × Mm)} {k : σ → Mm → Option (ρ × Mm)} (hT : Tp D M0) (hF : Fr D M0 M) (hq : Cl D M → Tp D M → FJ D M q) (h : ∀ r M1, Fr D M0 M1 → FJ D M0 (k r M1)) : FJ D M0 (bd q k) := by
  cases q with
  | none => exact FJ_none
  | some x => exact h x.1 x.2 (hF.tr (hq hF.2.2.2 (fun a ha => hT a (Nat.le_trans hF.2.2.1 ha)) _ _ rfl))
theorem FJ_bdR {q : Option (Nat × Mm)} {k : Nat → Mm → Option (ρ × Mm)} (hT : Tp D M0) (hF : Fr D M0 M) (hq : Cl D M → Tp D M → FJ D M q) (hr : ∀ r M1, q = some (r, M1) → mZ M ≤ r) (h : ∀ r M1, D r → Fr D M0 M1 → FJ D M0 (k r M1)) : FJ D M0 (bd q k) := by
  cases e : q with
  | none => exact FJ_none
  | some x => exact h x.1 x.2 (hT _ (Nat.le_trans hF.2.2.1 (hr _ _ e))) (hF.tr (hq hF.2.2.2 (fun a ha => hT a (Nat.le_trans hF.2.2.1 ha)) _ _ e))
theorem nj_Str_len (i : Nat) (M : Mm) : NJ M (Str_len i M) := NJ_leaf Sm.rf
theorem nj_Str_chr (i : Nat) (M : Mm) (x : Int32) : NJ M (Str_chr i M x) := NJ_ck (NJ_leaf Sm.rf)
theorem fj_Str_len (i : Nat) (M : Mm) (hC : Cl D M) (hT : Tp D M) : FJ D M (Str_len i M) := FJ_leaf (Fr.rf hC)
theorem fj_Str_chr (i : Nat) (M : Mm) (hC : Cl D M) (hT : Tp D M) (x : Int32) : FJ D M (Str_chr i M x) := FJ_ck (FJ_leaf (Fr.rf hC))
end FJ1
