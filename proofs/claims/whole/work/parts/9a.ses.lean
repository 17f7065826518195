/-! a change of sessions, cries and bargains alone -/
section Y1
variable {k : Nat} {ad : Nat → Nat → Nat} {C R C' R' : Mm}
/-- rows of the reference that speak of sessions -/
def tS (a : Nat) : Prop := 83 ≤ a ∧ a ≤ 109 ∧ a ≠ 91
theorem Rel.ses (h : Rel k ad C R) (lv : Lv k C') (hI : ∀ c i, c < 10 ∨ 15 < c → mI C' (ad c i) = mI C (ad c i)) (hK : ∀ c i, c < 10 ∨ 15 < c → mK C' (ad c i) = mK C (ad c i)) (hRr : ∀ c i, c < 10 ∨ 15 < c → mR C' (ad c i) = mR C (ad c i)) (sK : ∀ a, a < 116 → mK C' a = mK C a) (sR : ∀ a, a < 116 → mR C' a = mR C a) (dt : Dt ad C' R') (dl : DL ad C' R') (r39 : mI R' 39 = mI R 39) (g : ∀ a, ¬ tS a → mI R' a = mI R a) (eL : mL R' = mL R) (eR : mR R' = mR R) (eK : mK R' = mK R) (shn : ShN ad C' R') (ise : Ise R') (ison : Ison R') (son : Son ad C' R') (den : Den ad C' R') (evs : Evs ad C' R') : Rel k ad C' R' := by
  have G : ∀ a, (a < 83 ∨ a = 91 ∨ 109 < a) → mI R' a = mI R a := fun a p => g a (fun w => by unfold tS at w; omega)
  refine Rel.mk ⟨fun a x y => ?_, fun a j b x y => ?_⟩ (h.sr.sm eK eR) h.hA lv dt dl ?_ ?_ ?_ (fun i hi => ?_) (fun s hs => ?_) ?_ ?_ (fun t ht => ?_) ?_ ?_ shn ise ison son den evs
  · rw [sK a (by omega)]; exact h.sc.1 a x y
  · rw [sR a (by omega)]; exact h.sc.2 a j b x y
  · unfold Isc; rw [r39]; exact h.isc
  · unfold Ila; rw [G 40 (by decide), G 41 (by decide), G 42 (by decide), G 43 (by decide), G 79 (by decide)]; exact h.ila
  · have := h.ipe
    unfold Ipe at this ⊢
    rw [r39, eL, G 46 (by decide), G 47 (by decide), G 49 (by decide), G 112 (by decide), G 91 (by decide)]
    exact this
  · rw [r39] at hi
    rw [sR 16 (by decide), hRr 1 i (by decide), hK 1 i (by decide), hK 2 i (by decide), hK 3 i (by decide)]
    exact h.shp i hi
  · rw [r39] at hs
    rw [sR 17 (by decide), hRr 4 s (by decide), hK 4 s (by decide), hK 5 s (by decide), hK 6 s (by decide), hK 7 s (by decide), hK 8 s (by decide), hK 9 s (by decide)]
    exact h.shs s hs
  · have := h.ist
    unfold Ist sumP sumW at this ⊢
    rw [r39, G 53 (by decide), G 54 (by decide), G 55 (by decide), G 56 (by decide), G 57 (by decide), G 59 (by decide), G 62 (by decide), G 63 (by decide), G 64 (by decide), G 65 (by decide)]
    exact this
  · exact h.qs.cg (fun s j _ => congrFun (hI 4 s (by decide)) j) (fun c s _ _ => hI c s (by omega)) (congrFun r39 22) (congrFun r39 23) (congrFun r39 24) (G 53 (by decide)) (G 59 (by decide)) (G 60 (by decide)) (G 61 (by decide)) (G 62 (by decide)) (G 63 (by decide)) (G 64 (by decide)) (G 65 (by decide))
  · rw [r39] at ht
    rw [sR 28 (by decide), hRr 16 t (by decide), hK 16 t (by decide), hK 17 t (by decide), hK 18 t (by decide), hK 19 t (by decide), hK 20 t (by decide), G 67 (by decide)]
    exact h.she t ht
  · have := h.ied
    unfold Ied at this ⊢
    rw [r39, G 66 (by decide), G 67 (by decide), G 68 (by decide), G 69 (by decide), G 70 (by decide), G 72 (by decide), G 73 (by decide)]
    exact this
  · exact h.eds.cg2 (fun t => hK 20 t (by decide)) (fun c s _ _ => hI c s (by omega)) (congrFun r39 37) (G 66 (by decide)) (G 67 (by decide)) (G 69 (by decide)) (G 70 (by decide)) (G 71 (by decide)) (G 72 (by decide)) (G 73 (by decide)) (G 74 (by decide)) (G 75 (by decide)) (G 76 (by decide)) (G 77 (by decide))
/-- the class's memory behind a cry that is added: the cry lies at z, its row at S11, its session at S10 -/
def cC (C : Mm) (S10 S11 c : Nat) (p b l pr t v : Int32) : Mm := sI (sR (sI (sI (sI (sI (sI (sI (nw C 1 6) (mZ C) 0 p) (mZ C) 1 b) (mZ C) 2 l) (mZ C) 3 pr) (mZ C) 4 t) (mZ C) 5 (-1)) S11 c (some (mZ C))) S10 4 v
variable {S10 S11 c : Nat} {p b l pr t v : Int32}
theorem cC_I (a j : Nat) : mI (cC C S10 S11 c p b l pr t v) a j = if a = S10 ∧ j = 4 then v else if a = mZ C ∧ j = 5 then -1 else if a = mZ C ∧ j = 4 then t else if a = mZ C ∧ j = 3 then pr else if a = mZ C ∧ j = 2 then l else if a = mZ C ∧ j = 1 then b else if a = mZ C ∧ j = 0 then p else if a = mZ C then 0 else mI C a j := by
  unfold cC
  rw [mI_sI, mI_sR, mI_sI, mI_sI, mI_sI, mI_sI, mI_sI, mI_sI, mI_nw]
theorem cC_R (a j : Nat) : mR (cC C S10 S11 c p b l pr t v) a j = if a = S11 ∧ j = c then some (mZ C) else if a = mZ C then none else mR C a j := by
  unfold cC
  rw [mR_sI, mR_sR, mR_sI, mR_sI, mR_sI, mR_sI, mR_sI, mR_sI, mR_nw]
theorem cC_K (a : Nat) : mK (cC C S10 S11 c p b l pr t v) a = if a = mZ C then (1, 6) else mK C a := by
  unfold cC
  rw [mK_sI, mK_sR, mK_sI, mK_sI, mK_sI, mK_sI, mK_sI, mK_sI, mK_nw]
theorem cC_Z : mZ (cC C S10 S11 c p b l pr t v) = mZ C + 1 := by
  unfold cC
  simp only [mZ_sI, mZ_sR, mZ_nw]
theorem cC_S : mS (cC C S10 S11 c p b l pr t v) = mS C + 6 := by
  unfold cC
  simp only [mS_sI, mS_sR, mS_nw]
theorem cC_Dt (hA : Ad ad) (h : Dt ad C R) {s x : Nat} (hx : ad 14 x = mZ C) (hs : ad 10 s < mZ C) : Dt ad (cC C (ad 10 s) S11 c p b l pr t v) (sI (sI (sI (sI (sI (sI R 92 x p) 97 x b) 93 x l) 94 x pr) 95 x t) 87 s v) := by
  unfold cC
  refine Dt.stz hA (Dt.rs (Dt.stcz hA (Dt.stz hA (Dt.stz hA (Dt.stz hA (Dt.stz hA (Dt.stz hA (Dt.nw h) 14 x 0 rfl (by decide) hx ?_) 14 x 1 rfl (by decide) hx ?_) 14 x 2 rfl (by decide) hx ?_) 14 x 3 rfl (by decide) hx ?_) 14 x 4 rfl (by decide) hx ?_) 14 x 5 rfl (Or.inl (by decide)) hx ?_)) 10 s 4 rfl (by decide) rfl ?_
  all_goals simp only [mZ_sI, mZ_sR, mZ_nw]; omega
theorem cC_DL (h : DL ad C R) : DL ad (cC C S10 S11 c p b l pr t v) R := by
  unfold cC
  exact DL.is (DL.rs (DL.is (DL.is (DL.is (DL.is (DL.is (DL.is (DL.nw h))))))))
end Y1
