section X1
variable {k : Nat} {ad : Nat → Nat → Nat} {C R C' R' : Mm}
theorem cm_row (c i k : Nat) (h : (cm c i k).1 ≠ 0) : 39 ≤ (cm c i k).1 ∧ (cm c i k).1 < 116 := by
  revert h
  unfold cm
  repeat' split
  all_goals first
    | (intro h; exact absurd rfl h)
    | (intro _; omega)
theorem lm_row (c i k : Nat) (h : (lm c i k).1 ≠ 0) : 39 ≤ (lm c i k).1 ∧ (lm c i k).1 < 116 := by
  revert h
  unfold lm
  repeat' split
  all_goals first
    | (intro h; exact absurd rfl h)
    | (intro _; omega)
/-- another second memory, alike in the reference's rows -/
theorem Rel.tr2 (h : Rel k ad C R) (e : ∀ a, 39 ≤ a → a < 116 → mI R' a = mI R a ∧ mL R' a = mL R a ∧ mR R' a = mR R a ∧ mK R' a = mK R a) : Rel k ad C R' := by
  have q : ∀ a, (39 ≤ a ∧ a < 116) → mI R' a = mI R a := fun a p => (e a p.1 p.2).1
  have l : ∀ a, (39 ≤ a ∧ a < 116) → mL R' a = mL R a := fun a p => (e a p.1 p.2).2.1
  refine Rel.mk h.sc ⟨fun a x y => ?_, fun j => ?_, fun a j x y => ?_⟩ h.hA h.lv ?_ ?_ ?_ ?_ ?_ ?_ ?_ ?_ ?_ ?_ ?_ ?_ ?_ ?_ ?_ ?_ ?_ ?_
  · rw [(e a x y).2.2.2]; exact h.sr.1 a x y
  · rw [(e 39 (by decide) (by decide)).2.2.1]; exact h.sr.2.1 j
  · rw [(e a (by omega) y).2.2.1]; exact h.sr.2.2 a j x y
  · intro c i j p
    have := cm_row c i j p
    rw [q _ this]; exact h.dt c i j p
  · intro c i j p
    have := lm_row c i j p
    rw [l _ this]; exact h.dl c i j p
  · have := h.isc
    unfold Isc at this ⊢
    rw [q 39 (by decide)]
    exact this
  · have := h.ila
    unfold Ila at this ⊢
    rw [q 40 (by decide), q 41 (by decide), q 42 (by decide), q 43 (by decide), q 79 (by decide)]
    exact this
  · have := h.ipe
    unfold Ipe at this ⊢
    rw [q 39 (by decide), q 46 (by decide), q 47 (by decide), q 49 (by decide), q 91 (by decide), q 112 (by decide), l 39 (by decide), l 52 (by decide)]
    exact this
  · have := h.shp
    unfold ShP at this ⊢
    rw [q 39 (by decide)]
    exact this
  · have := h.shs
    unfold ShS at this ⊢
    rw [q 39 (by decide)]
    exact this
  · have := h.ist
    unfold Ist sumP sumW at this ⊢
    rw [q 39 (by decide), q 53 (by decide), q 54 (by decide), q 55 (by decide), q 56 (by decide), q 57 (by decide), q 59 (by decide), q 62 (by decide), q 63 (by decide), q 64 (by decide), q 65 (by decide)]
    exact this
  · exact h.qs.cg (fun _ _ _ => rfl) (fun _ _ _ _ => rfl) (congrFun (q 39 (by decide)) 22) (congrFun (q 39 (by decide)) 23) (congrFun (q 39 (by decide)) 24) (q 53 (by decide)) (q 59 (by decide)) (q 60 (by decide)) (q 61 (by decide)) (q 62 (by decide)) (q 63 (by decide)) (q 64 (by decide)) (q 65 (by decide))
  · have := h.she
    unfold ShE at this ⊢
    rw [q 39 (by decide), q 67 (by decide)]
    exact this
  · have := h.ied
    unfold Ied at this ⊢
    rw [q 39 (by decide), q 66 (by decide), q 67 (by decide), q 68 (by decide), q 69 (by decide), q 70 (by decide), q 72 (by decide), q 73 (by decide)]
    exact this
  · exact h.eds.cg rfl (fun _ _ _ _ => rfl) (congrFun (q 39 (by decide)) 37) (q 66 (by decide)) (q 67 (by decide)) (q 69 (by decide)) (q 70 (by decide)) (q 71 (by decide)) (q 72 (by decide)) (q 73 (by decide)) (q 74 (by decide)) (q 75 (by decide)) (q 76 (by decide)) (q 77 (by decide))
  · have := h.shn
    unfold ShN Un Al at this ⊢
    rw [q 39 (by decide), q 87 (by decide), q 88 (by decide)]
    exact this
  · have := h.ise
    unfold Ise at this ⊢
    rw [q 39 (by decide), q 84 (by decide), q 85 (by decide), q 86 (by decide), q 87 (by decide), q 88 (by decide), q 89 (by decide), q 90 (by decide), q 92 (by decide), q 93 (by decide), q 94 (by decide), q 95 (by decide), q 97 (by decide), q 98 (by decide), q 99 (by decide), q 100 (by decide), q 101 (by decide), q 102 (by decide), q 103 (by decide), q 104 (by decide), q 105 (by decide), q 107 (by decide), q 108 (by decide)]
    exact this
  · have := h.ison
    unfold Ison at this ⊢
    rw [q 39 (by decide), q 87 (by decide), q 88 (by decide), q 109 (by decide)]
    exact this
  · exact h.son.cg (fun _ => rfl) (fun _ => rfl) (congrFun (q 39 (by decide)) 70) (congrFun (q 39 (by decide)) 72) (congrFun (q 39 (by decide)) 73) (q 109 (by decide))
  · exact h.den.cg (fun _ _ _ => rfl) (congrFun (q 39 (by decide)) 70) (q 88 (by decide)) (q 105 (by decide)) (q 106 (by decide))
  · exact h.evs.cg (fun _ => rfl) (congrFun (q 39 (by decide)) 70) (congrFun (q 39 (by decide)) 73) (q 87 (by decide)) (q 90 (by decide)) (q 96 (by decide)) (q 109 (by decide))
/-- another first memory, alike in the class's rows -/
theorem Rel.tr1 (h : Rel k ad C R) (e : ∀ a, a < 39 ∨ (116 ≤ a ∧ a < mZ C) → mI C' a = mI C a ∧ mL C' a = mL C a) (hR : mR C' = mR C) (hK : mK C' = mK C) (hZ : mZ C' = mZ C) (hS : mS C' = mS C) : Rel k ad C' R := by
  have hN := n24 h
  have al : ∀ c i, Al R c i → mI C' (ad c i) = mI C (ad c i) := fun c i a => (e _ (Or.inr ⟨h.hA.1 c i, al_lt h a⟩)).1
  have pls : ∀ c i, (c < 100 ∨ (c < 139 ∧ i = 0)) → pl ad c i < mZ C → pl ad c i < 39 ∨ (116 ≤ pl ad c i ∧ pl ad c i < mZ C) := fun c i p z => by
    have := h.hA.1 c i
    unfold pl at z ⊢
    split
    · rename_i c1; rw [if_pos c1] at z; omega
    · omega
  refine Rel.mk (h.sc.sm hK hR) h.sr h.hA ?_ ?_ ?_ h.isc h.ila h.ipe ?_ ?_ h.ist ?_ ?_ h.ied ?_ ?_ h.ise h.ison ?_ ?_ ?_
  · unfold Lv; rw [hK, hR, hZ, hS]; exact h.lv
  · intro c i j p
    rw [← h.dt c i j p]
    unfold rI
    rw [hZ]
    by_cases z : pl ad c i < mZ C
    · rw [if_pos z, if_pos z, (e _ (pls c i (cm_rng c i j p) z)).1]
    · rw [if_neg z, if_neg z]
  · intro c i j p
    rw [← h.dl c i j p]
    unfold rL
    rw [hZ]
    by_cases z : pl ad c i < mZ C
    · rw [if_pos z, if_pos z, (e _ (pls c i (lm_rng c i j p) z)).2]
    · rw [if_neg z, if_neg z]
  · unfold ShP; rw [hK, hR]; exact h.shp
  · unfold ShS; rw [hK, hR]; exact h.shs
  · intro s hs
    rw [al 4 s (alS (by decide) hs), al 5 s (alS (by decide) hs), al 6 s (alS (by decide) hs), al 7 s (alS (by decide) hs), al 8 s (alS (by decide) hs), al 9 s (alS (by decide) hs)]
    exact h.qs s hs
  · unfold ShE; rw [hK, hR]; exact h.she
  · intro t ht s hs
    have := h.eds t ht s hs
    unfold ceL at this ⊢
    rw [hK, al 17 t (alE (by decide) ht), al 18 t (alE (by decide) ht), al 19 t (alE (by decide) ht), al 20 t (alE (by decide) ht)]
    exact this
  · unfold ShN Un; rw [hK, hR, hZ]; exact h.shn
  · refine ⟨fun s hs => ?_, fun o => ?_⟩
    · rw [al 10 s (alN (by decide) hs)]; exact h.son.1 s hs
    · obtain ⟨s, t1, -⟩ := on_s h o
      rw [al 12 _ (alN (by decide) (by omega))]
      exact h.son.2 o
  · intro s b hs hb
    rw [al 15 _ (al15 h hs hb)]
    exact h.den s b hs hb
  · intro s hs
    have h60 := n60 h (show s < 24 by omega)
    obtain ⟨w1, w2, w3, w4, w5⟩ := h.evs s hs
    refine ⟨w1, fun j hj => ?_, fun c hc => ?_, ?_, fun o q c hc => ?_⟩
    · rcases w2 j hj with z | ⟨c, z1, z2, z3⟩
      · exact Or.inl z
      · have cm := cc_mo (f := mI R 96) (b := 120 * s) (n := ix (mI R 90 s)) (j := j) (by omega)
        exact Or.inr ⟨c, z1, z2, by rw [al 14 _ (al14 h hs (by omega))]; exact z3⟩
    · rw [al 14 _ (al14 h hs hc)]; exact w3 c hc
    · rw [w4]
      congr 1
      apply sumTo_cg
      intro c hc
      show (if mI C (ad 14 (60 * s + c)) 5 = -1 then (0 : Int) else 1) = (if mI C' (ad 14 (60 * s + c)) 5 = -1 then (0 : Int) else 1)
      rw [al 14 _ (al14 h hs hc)]
    · rw [al 14 _ (al14 h hs hc)]; exact w5 o q c hc
/-- the class's places: all but the reference's -/
def Dc (a : Nat) : Prop := ¬ (39 ≤ a ∧ a < 116)
/-- one call, both sides in one memory -/
theorem step {ρ : Type} {M : Mm} {H Md : Mm → Option (ρ × Mm)} (h : Rel k ad M M) (hcl : Cl Dc M) (sim : ∀ R, Rel k ad M R → Sim k (H M) (Md R)) (fH : FJ Dc M (H M)) (fM : ∀ (D : Nat → Prop) (M1 : Mm), Cl D M1 → Tp D M1 → D 39 → FJ D M1 (Md M1)) (nM : ∀ M1, NJ M1 (Md M1)) : ∃ r M1 M2 ad', H M = some (r, M1) ∧ Md M1 = some (r, M2) ∧ mZ M ≤ mZ M1 ∧ Rel (k + 1) ad' M2 M2 ∧ Cl Dc M2 := by
  obtain ⟨r, M1, R1, -, e1, -, -⟩ := sim M h
  obtain ⟨f1, f2, f3, f4⟩ := fH r M1 e1
  have hz := h.lv.1
  have h1 : Rel k ad M M1 := h.tr2 (fun a x y => by
    have n : ¬ Dc a := fun w => w ⟨x, y⟩
    obtain ⟨p1, p2, p3⟩ := f1 a n
    exact ⟨p1, p2, p3, f2 a (by omega)⟩)
  obtain ⟨r', M1', M2, ad', e1', e2', r2⟩ := sim M1 h1
  rw [e1] at e1'
  obtain ⟨rfl, rfl⟩ : r = r' ∧ M1 = M1' := by injection e1' with w; exact ⟨(Prod.mk.inj w).1, (Prod.mk.inj w).2⟩
  have lv1 := r2.lv
  have sr1 : SR M1 := h1.sr
  have fr := fM (fun a => (39 ≤ a ∧ a < 116) ∨ mZ M1 ≤ a) M1 (fun a j b ha hb => by
    rcases ha with ha | ha
    · left
      by_cases c : a = 39
      · rw [c, sr1.2.1 j] at hb
        have key : ∀ j b, RT 39 j = some b → 39 ≤ b ∧ b < 116 := by
          intro j b hb
          simp only [RT] at hb
          split at hb
          all_goals first
            | (injection hb with hb; omega)
            | (cases hb)
        exact key j b hb
      · rw [sr1.2.2 a j (by omega) ha.2] at hb
        cases hb
    · rw [lv1.2.2.1 a j ha] at hb
      cases hb) (fun a ha => Or.inr ha) (Or.inl ⟨by decide, by decide⟩)
  obtain ⟨g1, g2, g3, g4⟩ := fr r M2 e2'
  obtain ⟨n1, n2, n3, n4⟩ := nM M1 r M2 e2'
  refine ⟨r, M1, M2, ad', e1, e2', f3, r2.tr1 (fun a ha => ?_) n1 n2 n3 n4, fun a j b ha hb => ?_⟩
  · have : ¬ ((39 ≤ a ∧ a < 116) ∨ mZ M1 ≤ a) := by omega
    obtain ⟨p1, p2, -⟩ := g1 a this
    exact ⟨p1, p2⟩
  · rw [n1] at hb
    exact f4 a j b ha hb
end X1
