/-! the lack, parted among persons: both sides alike -/
section Z9
variable {k : Nat} {ad : Nat → Nat → Nat} {C R : Mm}
def updL (f : Nat → Int64) (p : Nat) (v : Int64) : Nat → Int64 := fun j => if j = p then v else f j
/-- the class's memory while coins and remainders are written -/
def Cn (ad : Nat → Nat → Nat) (n : Nat) (C D : Mm) (f g : Nat → Int64) : Prop := mI D = mI C ∧ mR D = mR C ∧ mK D = mK C ∧ mZ D = mZ C ∧ mS D = mS C ∧ (∀ p, p < n → mL D (ad 1 p) 3 = f p) ∧ (∀ p, p < 16 → mL D 32 p = g p) ∧ (∀ a j, a ≠ 32 → (∀ p, p < n → a = ad 1 p → j ≠ 3) → mL D a j = mL C a j)
def Rn (n : Nat) (R E : Mm) (f b g : Nat → Int64) : Prop := mI E = mI R ∧ mR E = mR R ∧ mK E = mK R ∧ (∀ p, p < n → mL E 52 p = f p) ∧ (∀ p, p < 16 → mL E 110 p = b p) ∧ (∀ p, p < 16 → mL E 111 p = g p) ∧ (∀ a j, a ≠ 110 → a ≠ 111 → (a = 52 → n ≤ j) → mL E a j = mL R a j)
theorem Cn.co {n p : Nat} {D : Mm} {f g : Nat → Int64} {v : Int64} (hA : Ad ad) (h : Cn ad n C D f g) (hp : p < n) : Cn ad n C (sL D (ad 1 p) 3 v) (updL f p v) g := by
  obtain ⟨h1, h2, h3, h4, h5, h6, h7, h8⟩ := h
  have a32 : 32 ≠ ad 1 p := by have := hA.1 1 p; omega
  refine ⟨h1, h2, h3, h4, h5, fun q hq => ?_, fun q hq => ?_, fun a j ha hj => ?_⟩
  · unfold updL
    rw [mL_sL]
    by_cases e : q = p
    · subst e; rw [if_pos ⟨rfl, rfl⟩, if_pos rfl]
    · rw [if_neg (fun z => e (hA.2 _ _ _ _ z.1).2), if_neg e]; exact h6 q hq
  · rw [mL_sL, if_neg (fun z => a32 z.1)]; exact h7 q hq
  · rw [mL_sL, if_neg (fun z => hj p hp z.1 z.2)]; exact h8 a j ha hj
theorem Cn.re {n p : Nat} {D : Mm} {f g : Nat → Int64} {v : Int64} (hA : Ad ad) (h : Cn ad n C D f g) : Cn ad n C (sL D 32 p v) f (updL g p v) := by
  obtain ⟨h1, h2, h3, h4, h5, h6, h7, h8⟩ := h
  refine ⟨h1, h2, h3, h4, h5, fun q hq => ?_, fun q hq => ?_, fun a j ha hj => ?_⟩
  · rw [mL_sL, if_neg (fun z => by have := hA.1 1 q; omega)]; exact h6 q hq
  · unfold updL
    rw [mL_sL]
    by_cases e : q = p
    · subst e; rw [if_pos ⟨rfl, rfl⟩, if_pos rfl]
    · rw [if_neg (fun z => e z.2), if_neg e]; exact h7 q hq
  · rw [mL_sL, if_neg (fun z => ha z.1)]; exact h8 a j ha hj
theorem Cn.cg {n : Nat} {D : Mm} {f g f' g' : Nat → Int64} (h : Cn ad n C D f g) (e1 : ∀ p, p < n → f' p = f p) (e2 : ∀ p, p < 16 → g' p = g p) : Cn ad n C D f' g' := by
  obtain ⟨h1, h2, h3, h4, h5, h6, h7, h8⟩ := h
  exact ⟨h1, h2, h3, h4, h5, fun q hq => by rw [e1 q hq]; exact h6 q hq, fun q hq => by rw [e2 q hq]; exact h7 q hq, h8⟩
theorem Rn.cg {n : Nat} {E : Mm} {f b g f' b' g' : Nat → Int64} (h : Rn n R E f b g) (e1 : ∀ p, p < n → f' p = f p) (e2 : ∀ p, p < 16 → b' p = b p) (e3 : ∀ p, p < 16 → g' p = g p) : Rn n R E f' b' g' := by
  obtain ⟨h1, h2, h3, h6, h7, h8, h9⟩ := h
  exact ⟨h1, h2, h3, fun q hq => by rw [e1 q hq]; exact h6 q hq, fun q hq => by rw [e2 q hq]; exact h7 q hq, fun q hq => by rw [e3 q hq]; exact h8 q hq, h9⟩
theorem Rn.co {n p : Nat} {E : Mm} {f b g : Nat → Int64} {v : Int64} (h : Rn n R E f b g) (hp : p < n) : Rn n R (sL E 52 p v) (updL f p v) b g := by
  obtain ⟨h1, h2, h3, h6, h7, h8, h9⟩ := h
  refine ⟨h1, h2, h3, fun q hq => ?_, fun q hq => ?_, fun q hq => ?_, fun a j a1 a2 a3 => ?_⟩
  · unfold updL
    rw [mL_sL]
    by_cases e : q = p
    · subst e; rw [if_pos ⟨rfl, rfl⟩, if_pos rfl]
    · rw [if_neg (fun z => e z.2), if_neg e]; exact h6 q hq
  · rw [mL_sL, if_neg (fun z => by omega)]; exact h7 q hq
  · rw [mL_sL, if_neg (fun z => by omega)]; exact h8 q hq
  · rw [mL_sL, if_neg (fun z => by have := a3 z.1; omega)]; exact h9 a j a1 a2 a3
theorem Rn.be {n p : Nat} {E : Mm} {f b g : Nat → Int64} {v : Int64} (h : Rn n R E f b g) : Rn n R (sL E 110 p v) f (updL b p v) g := by
  obtain ⟨h1, h2, h3, h6, h7, h8, h9⟩ := h
  refine ⟨h1, h2, h3, fun q hq => ?_, fun q hq => ?_, fun q hq => ?_, fun a j a1 a2 a3 => ?_⟩
  · rw [mL_sL, if_neg (fun z => by omega)]; exact h6 q hq
  · unfold updL
    rw [mL_sL]
    by_cases e : q = p
    · subst e; rw [if_pos ⟨rfl, rfl⟩, if_pos rfl]
    · rw [if_neg (fun z => e z.2), if_neg e]; exact h7 q hq
  · rw [mL_sL, if_neg (fun z => by omega)]; exact h8 q hq
  · rw [mL_sL, if_neg (fun z => a1 z.1)]; exact h9 a j a1 a2 a3
theorem Rn.rs {n p : Nat} {E : Mm} {f b g : Nat → Int64} {v : Int64} (h : Rn n R E f b g) : Rn n R (sL E 111 p v) f b (updL g p v) := by
  obtain ⟨h1, h2, h3, h6, h7, h8, h9⟩ := h
  refine ⟨h1, h2, h3, fun q hq => ?_, fun q hq => ?_, fun q hq => ?_, fun a j a1 a2 a3 => ?_⟩
  · rw [mL_sL, if_neg (fun z => by omega)]; exact h6 q hq
  · rw [mL_sL, if_neg (fun z => by omega)]; exact h7 q hq
  · unfold updL
    rw [mL_sL]
    by_cases e : q = p
    · subst e; rw [if_pos ⟨rfl, rfl⟩, if_pos rfl]
    · rw [if_neg (fun z => e z.2), if_neg e]; exact h8 q hq
  · rw [mL_sL, if_neg (fun z => a2 z.1)]; exact h9 a j a1 a2 a3
/-- coins written in bulk -/
theorem Rel.coins {n : Nat} {D E : Mm} {f g b g' : Nat → Int64} (h : Rel k ad C R) (hn : n = ix (mI R 39 9)) (hc : Cn ad n C D f g) (hr : Rn n R E f b g') (ok : ∀ p, p < n → okL k R (f p)) : Rel k ad D E := by
  obtain ⟨h1, h2, h3, h4, h5, h6, h7, h8⟩ := hc
  obtain ⟨g1, g2, g3, g6, g7, g8, g9⟩ := hr
  obtain ⟨dI, dL, dR, dK, dZ, dS⟩ := D
  obtain ⟨eI, eL, eR, eK, eZ, eS⟩ := E
  obtain rfl : dI = mI C := h1
  obtain rfl : dR = mR C := h2
  obtain rfl : dK = mK C := h3
  obtain rfl : dZ = mZ C := h4
  obtain rfl : dS = mS C := h5
  obtain rfl : eI = mI R := g1
  obtain rfl : eR = mR R := g2
  obtain rfl : eK = mK R := g3
  have n16 := p16 h
  have dl : DL ad (mI C, dL, mR C, mK C, mZ C, mS C) (mI R, eL, mR R, mK R, eZ, eS) := by
    intro c i j q
    have old := h.dl c i j q
    have stat : ∀ x, x < 116 → x ≠ 32 → ∀ y, dL x y = mL C x y := fun x hx hx2 y => h8 x y hx2 (fun p _ e => by have := h.hA.1 1 p; omega)
    revert q old
    unfold lm
    split
    · split
      · intro q old
        show (if pl ad 1 i < mZ C then dL (pl ad 1 i) 3 else 0) = eL 52 i
        have old : (if pl ad 1 i < mZ C then mL C (pl ad 1 i) 3 else 0) = mL R 52 i := old
        have e1 : pl ad 1 i = ad 1 i := rfl
        rw [e1] at old ⊢
        by_cases lt : i < n
        · rw [if_pos (h.plt (by omega))]
          exact (h6 i lt).trans (g6 i lt).symm
        · have u1 : dL (ad 1 i) 3 = mL C (ad 1 i) 3 := h8 _ _ (by have := h.hA.1 1 i; omega) (fun p hp e => by have := (h.hA.2 _ _ _ _ e).2; omega)
          have u2 : eL 52 i = mL R 52 i := g9 52 i (by decide) (by decide) (fun _ => by omega)
          rw [u1, u2]
          exact old
      · intro q; exact absurd rfl q
    · split
      · split
        · intro q old
          have u1 : dL 30 4 = mL C 30 4 := stat 30 (by decide) (by decide) 4
          have u2 : eL 39 18 = mL R 39 18 := g9 39 18 (by decide) (by decide) (fun z => by omega)
          show (if 30 < mZ C then dL 30 4 else 0) = eL 39 18
          rw [u1, u2]; exact old
        · intro q old
          have u1 : dL 30 5 = mL C 30 5 := stat 30 (by decide) (by decide) 5
          have u2 : eL 39 19 = mL R 39 19 := g9 39 19 (by decide) (by decide) (fun z => by omega)
          show (if 30 < mZ C then dL 30 5 else 0) = eL 39 19
          rw [u1, u2]; exact old
        · intro q old
          have u1 : dL 30 6 = mL C 30 6 := stat 30 (by decide) (by decide) 6
          have u2 : eL 39 20 = mL R 39 20 := g9 39 20 (by decide) (by decide) (fun z => by omega)
          show (if 30 < mZ C then dL 30 6 else 0) = eL 39 20
          rw [u1, u2]; exact old
        · intro q; exact absurd rfl q
      · intro q; exact absurd rfl q
    · intro q; exact absurd rfl q
  have q : Ipe k (mI R, eL, mR R, mK R, eZ, eS) := by
    obtain ⟨p1, p2, p3, p4, p5, p6⟩ := h.ipe
    refine ⟨fun i' hi' => ?_, p2, p3, ?_, p5, p6⟩
    · obtain ⟨a, b, c, d⟩ := p1 i' hi'
      refine ⟨a, b, c, ?_⟩
      by_cases lt : i' < n
      · have u : eL 52 i' = f i' := g6 i' lt
        show -(2000000000 * (mI R 39 71).toInt + 100000 * (k : Int)) ≤ (eL 52 i').toInt ∧ (eL 52 i').toInt ≤ 2000000000 * (mI R 39 71).toInt + 100000 * (k : Int)
        rw [u]
        exact ok i' lt
      · have u2 : eL 52 i' = mL R 52 i' := g9 52 i' (by decide) (by decide) (fun _ => by omega)
        show -(2000000000 * (mI R 39 71).toInt + 100000 * (k : Int)) ≤ (eL 52 i').toInt ∧ (eL 52 i').toInt ≤ 2000000000 * (mI R 39 71).toInt + 100000 * (k : Int)
        rw [u2]
        exact d
    · have u2 : eL 39 18 = mL R 39 18 := g9 39 18 (by decide) (by decide) (fun z => by omega)
      show -(2000000000000 * (mI R 39 71).toInt) ≤ (eL 39 18).toInt ∧ (eL 39 18).toInt ≤ 2000000000000 * (mI R 39 71).toInt
      rw [u2]
      exact p4
  exact Rel.mk h.sc h.sr h.hA h.lv h.dt dl h.isc h.ila q h.shp h.shs h.ist h.qs h.she h.ied h.eds h.shn h.ise h.ison h.son h.den h.evs
end Z9
