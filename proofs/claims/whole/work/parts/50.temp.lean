/-! rows that hold nothing from call to call -/
def tC (a : Nat) : Prop := a = 14 ∨ a = 15 ∨ (20 ≤ a ∧ a ≤ 27) ∨ a = 29 ∨ (33 ≤ a ∧ a ≤ 35) ∨ a = 38
def tR (a : Nat) : Prop := a = 44 ∨ a = 45 ∨ a = 78 ∨ (80 ≤ a ∧ a ≤ 82) ∨ (113 ≤ a ∧ a ≤ 115)
def ExC (C C' : Mm) : Prop := (∀ a, ¬ tC a → mI C' a = mI C a) ∧ (∀ a, a ≠ 32 → a ≠ 36 → mL C' a = mL C a) ∧ mR C' = mR C ∧ mK C' = mK C ∧ mZ C' = mZ C ∧ mS C' = mS C
def ExR (R R' : Mm) : Prop := (∀ a, ¬ tR a → mI R' a = mI R a) ∧ (∀ a, a ≠ 110 → a ≠ 111 → mL R' a = mL R a) ∧ mR R' = mR R ∧ mK R' = mK R
section T1
variable {k : Nat} {ad : Nat → Nat → Nat} {C R C' R' C2 R2 : Mm}
theorem ExC.rf : ExC C C := ⟨fun _ _ => rfl, fun _ _ _ => rfl, rfl, rfl, rfl, rfl⟩
theorem ExR.rf : ExR R R := ⟨fun _ _ => rfl, fun _ _ _ => rfl, rfl, rfl⟩
theorem ExC.tr (h : ExC C C') (h2 : ExC C' C2) : ExC C C2 := ⟨fun a q => (h2.1 a q).trans (h.1 a q), fun a p q => (h2.2.1 a p q).trans (h.2.1 a p q), h2.2.2.1.trans h.2.2.1, h2.2.2.2.1.trans h.2.2.2.1, h2.2.2.2.2.1.trans h.2.2.2.2.1, h2.2.2.2.2.2.trans h.2.2.2.2.2⟩
theorem ExR.tr (h : ExR R R') (h2 : ExR R' R2) : ExR R R2 := ⟨fun a q => (h2.1 a q).trans (h.1 a q), fun a p q => (h2.2.1 a p q).trans (h.2.1 a p q), h2.2.2.1.trans h.2.2.1, h2.2.2.2.trans h.2.2.2⟩
theorem row_n {M : Mm} {a j : Nat} {v : Int32} {b : Nat} (hb : b ≠ a) : mI (sI M a j v) b = mI M b := by
  funext x
  rw [mI_sI, if_neg (fun q => hb q.1)]
theorem rowL_n {M : Mm} {a j : Nat} {v : Int64} {b : Nat} (hb : b ≠ a) : mL (sL M a j v) b = mL M b := by
  funext x
  rw [mL_sL, if_neg (fun q => hb q.1)]
theorem ExC.s (h : ExC C C') {a j : Nat} {v : Int32} (ha : tC a) : ExC C (sI C' a j v) := ⟨fun b hb => (row_n (fun e => hb (by rw [e]; exact ha))).trans (h.1 b hb), h.2⟩
theorem ExR.s (h : ExR R R') {a j : Nat} {v : Int32} (ha : tR a) : ExR R (sI R' a j v) := ⟨fun b hb => (row_n (fun e => hb (by rw [e]; exact ha))).trans (h.1 b hb), h.2⟩
theorem ExC.l (h : ExC C C') {a j : Nat} {v : Int64} (ha : a = 32 ∨ a = 36) : ExC C (sL C' a j v) := ⟨h.1, fun b h1 h2 => (rowL_n (by omega)).trans (h.2.1 b h1 h2), h.2.2⟩
theorem ExR.l (h : ExR R R') {a j : Nat} {v : Int64} (ha : a = 110 ∨ a = 111) : ExR R (sL R' a j v) := ⟨h.1, fun b h1 h2 => (rowL_n (by omega)).trans (h.2.1 b h1 h2), h.2.2⟩
theorem cm_tC (c i k : Nat) (h : (cm c i k).1 ≠ 0) : (c < 100 ∨ ¬ tC (c - 100)) ∧ ¬ tR (cm c i k).1 := by
  revert h
  unfold cm
  repeat' split
  all_goals first
    | (intro h; exact absurd rfl h)
    | (intro _; unfold tC tR; omega)
theorem lm_t (c i k : Nat) (h : (lm c i k).1 ≠ 0) : (c < 100 ∨ (c - 100 ≠ 32 ∧ c - 100 ≠ 36)) ∧ (lm c i k).1 ≠ 110 ∧ (lm c i k).1 ≠ 111 := by
  revert h
  unfold lm
  repeat' split
  all_goals first
    | (intro h; exact absurd rfl h)
    | (intro _; omega)
theorem Dt.tmp (hA : Ad ad) (h : Dt ad C R) (hc : ExC C C') (hr : ExR R R') : Dt ad C' R' := by
  intro c i j q
  obtain ⟨q1, q2⟩ := cm_tC c i j q
  rw [hr.1 _ q2, ← h c i j q]
  unfold rI
  rw [hc.2.2.2.2.1]
  have : ¬ tC (pl ad c i) := by
    unfold pl
    have := hA.1 c i
    split
    · unfold tC; omega
    · rcases q1 with x | x
      · omega
      · exact x
  rw [hc.1 _ this]
theorem DL.tmp (hA : Ad ad) (h : DL ad C R) (hc : ExC C C') (hr : ExR R R') : DL ad C' R' := by
  intro c i j q
  obtain ⟨q1, q2, q3⟩ := lm_t c i j q
  rw [hr.2.1 _ q2 q3, ← h c i j q]
  unfold rL
  rw [hc.2.2.2.2.1]
  have : pl ad c i ≠ 32 ∧ pl ad c i ≠ 36 := by
    unfold pl
    have := hA.1 c i
    split
    · omega
    · rcases q1 with x | x
      · omega
      · exact x
  rw [hc.2.1 _ this.1 this.2]
theorem ExC.atA (hA : Ad ad) (hc : ExC C C') (c i : Nat) : mI C' (ad c i) = mI C (ad c i) := hc.1 _ (by have := hA.1 c i; unfold tC; omega)
theorem Isc.tmp (h : Isc R) (hr : ExR R R') : Isc R' := by
  unfold Isc at h ⊢
  simp only [hr.1 39 (by unfold tR; omega)]
  exact h
theorem Ila.tmp (h : Ila R) (hr : ExR R R') : Ila R' := by
  unfold Ila at h ⊢
  simp only [hr.1 40 (by unfold tR; omega), hr.1 41 (by unfold tR; omega), hr.1 42 (by unfold tR; omega), hr.1 43 (by unfold tR; omega), hr.1 79 (by unfold tR; omega)]
  exact h
theorem Ist.tmp (h : Ist R) (hr : ExR R R') : Ist R' := by
  unfold Ist sumP sumW at h ⊢
  simp only [hr.1 39 (by unfold tR; omega), hr.1 53 (by unfold tR; omega), hr.1 54 (by unfold tR; omega), hr.1 55 (by unfold tR; omega), hr.1 56 (by unfold tR; omega), hr.1 57 (by unfold tR; omega), hr.1 59 (by unfold tR; omega), hr.1 62 (by unfold tR; omega), hr.1 63 (by unfold tR; omega), hr.1 64 (by unfold tR; omega), hr.1 65 (by unfold tR; omega)]
  exact h
theorem Ied.tmp (h : Ied R) (hr : ExR R R') : Ied R' := by
  unfold Ied at h ⊢
  simp only [hr.1 39 (by unfold tR; omega), hr.1 66 (by unfold tR; omega), hr.1 67 (by unfold tR; omega), hr.1 68 (by unfold tR; omega), hr.1 69 (by unfold tR; omega), hr.1 70 (by unfold tR; omega), hr.1 72 (by unfold tR; omega), hr.1 73 (by unfold tR; omega)]
  exact h
theorem Ise.tmp (h : Ise R) (hr : ExR R R') : Ise R' := by
  unfold Ise at h ⊢
  simp only [hr.1 39 (by unfold tR; omega), hr.1 84 (by unfold tR; omega), hr.1 85 (by unfold tR; omega), hr.1 86 (by unfold tR; omega), hr.1 87 (by unfold tR; omega), hr.1 88 (by unfold tR; omega), hr.1 89 (by unfold tR; omega), hr.1 90 (by unfold tR; omega), hr.1 92 (by unfold tR; omega), hr.1 93 (by unfold tR; omega), hr.1 94 (by unfold tR; omega), hr.1 95 (by unfold tR; omega), hr.1 97 (by unfold tR; omega), hr.1 98 (by unfold tR; omega), hr.1 99 (by unfold tR; omega), hr.1 100 (by unfold tR; omega), hr.1 101 (by unfold tR; omega), hr.1 102 (by unfold tR; omega), hr.1 103 (by unfold tR; omega), hr.1 104 (by unfold tR; omega), hr.1 105 (by unfold tR; omega), hr.1 107 (by unfold tR; omega), hr.1 108 (by unfold tR; omega)]
  exact h
theorem Ison.tmp (h : Ison R) (hr : ExR R R') : Ison R' := by
  unfold Ison at h ⊢
  simp only [hr.1 39 (by unfold tR; omega), hr.1 87 (by unfold tR; omega), hr.1 88 (by unfold tR; omega), hr.1 109 (by unfold tR; omega)]
  exact h
theorem Ipe.tmp (h : Ipe k R) (hr : ExR R R') : Ipe k R' := by
  unfold Ipe at h ⊢
  simp only [hr.1 39 (by unfold tR; omega), hr.1 46 (by unfold tR; omega), hr.1 47 (by unfold tR; omega), hr.1 49 (by unfold tR; omega), hr.1 91 (by unfold tR; omega), hr.1 112 (by unfold tR; omega), hr.2.1 39 (by decide) (by decide), hr.2.1 52 (by decide) (by decide)]
  exact h
theorem ShP.tmp (h : ShP ad C R) (hc : ExC C C') (hr : ExR R R') : ShP ad C' R' := by
  unfold ShP at h ⊢
  simp only [hr.1 39 (by unfold tR; omega), hc.2.2.1, hc.2.2.2.1]
  exact h
theorem ShS.tmp (h : ShS ad C R) (hc : ExC C C') (hr : ExR R R') : ShS ad C' R' := by
  unfold ShS at h ⊢
  simp only [hr.1 39 (by unfold tR; omega), hc.2.2.1, hc.2.2.2.1]
  exact h
theorem ShE.tmp (h : ShE ad C R) (hc : ExC C C') (hr : ExR R R') : ShE ad C' R' := by
  unfold ShE at h ⊢
  simp only [hr.1 39 (by unfold tR; omega), hr.1 67 (by unfold tR; omega), hc.2.2.1, hc.2.2.2.1]
  exact h
theorem ShN.tmp (h : ShN ad C R) (hc : ExC C C') (hr : ExR R R') : ShN ad C' R' := by
  unfold ShN Un Al at h ⊢
  simp only [hr.1 39 (by unfold tR; omega), hr.1 87 (by unfold tR; omega), hr.1 88 (by unfold tR; omega), hc.2.2.1, hc.2.2.2.1, hc.2.2.2.2.1]
  exact h
theorem Rel.tmp (h : Rel k ad C R) (hc : ExC C C') (hr : ExR R R') : Rel k ad C' R' := by
  have e39 : mI R' 39 = mI R 39 := hr.1 39 (by unfold tR; omega)
  refine Rel.mk (h.sc.sm hc.2.2.2.1 hc.2.2.1) (h.sr.sm hr.2.2.2 hr.2.2.1) h.hA ?_ (h.dt.tmp h.hA hc hr) (h.dl.tmp h.hA hc hr) (h.isc.tmp hr) (h.ila.tmp hr) (h.ipe.tmp hr) (h.shp.tmp hc hr) (h.shs.tmp hc hr) (h.ist.tmp hr) ?_ (h.she.tmp hc hr) (h.ied.tmp hr) ?_ (h.shn.tmp hc hr) (h.ise.tmp hr) (h.ison.tmp hr) ?_ ?_ ?_
  · unfold Lv
    rw [hc.2.2.1, hc.2.2.2.1, hc.2.2.2.2.1, hc.2.2.2.2.2]
    exact h.lv
  · exact h.qs.cg (fun s j _ => congrFun (hc.atA h.hA 4 s) j) (fun c s _ _ => hc.atA h.hA c s) (congrFun e39 22) (congrFun e39 23) (congrFun e39 24) (hr.1 53 (by unfold tR; omega)) (hr.1 59 (by unfold tR; omega)) (hr.1 60 (by unfold tR; omega)) (hr.1 61 (by unfold tR; omega)) (hr.1 62 (by unfold tR; omega)) (hr.1 63 (by unfold tR; omega)) (hr.1 64 (by unfold tR; omega)) (hr.1 65 (by unfold tR; omega))
  · exact h.eds.cg hc.2.2.2.1 (fun c s _ _ => hc.atA h.hA c s) (congrFun e39 37) (hr.1 66 (by unfold tR; omega)) (hr.1 67 (by unfold tR; omega)) (hr.1 69 (by unfold tR; omega)) (hr.1 70 (by unfold tR; omega)) (hr.1 71 (by unfold tR; omega)) (hr.1 72 (by unfold tR; omega)) (hr.1 73 (by unfold tR; omega)) (hr.1 74 (by unfold tR; omega)) (hr.1 75 (by unfold tR; omega)) (hr.1 76 (by unfold tR; omega)) (hr.1 77 (by unfold tR; omega))
  · exact h.son.cg (fun s => congrFun (hc.atA h.hA 10 s) 7) (fun s => hc.atA h.hA 12 s) (congrFun e39 70) (congrFun e39 72) (congrFun e39 73) (hr.1 109 (by unfold tR; omega))
  · exact h.den.cg (fun s j _ => congrFun (hc.atA h.hA 15 s) j) (congrFun e39 70) (hr.1 88 (by unfold tR; omega)) (hr.1 105 (by unfold tR; omega)) (hr.1 106 (by unfold tR; omega))
  · exact h.evs.cg (fun s => congrFun (hc.atA h.hA 14 s) 5) (congrFun e39 70) (congrFun e39 73) (hr.1 87 (by unfold tR; omega)) (hr.1 90 (by unfold tR; omega)) (hr.1 96 (by unfold tR; omega)) (hr.1 109 (by unfold tR; omega))
end T1
