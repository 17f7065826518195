section Q3
variable {k : Nat} {ad : Nat → Nat → Nat} {C R : Mm}
theorem on_s (h : Rel k ad C R) (o : mI R 39 73 = 1) : ∃ s, s + 1 = ix (mI R 39 70) ∧ s < 24 ∧ mI R 39 70 - 1 = Int32.ofNat s ∧ mR C 8 14 = some (ad 10 s) := by
  have hN := n24 h
  have hs := h.isc.sessions
  have hc := h.isc.closes
  have hcs := h.isc.cs
  rw [o] at hcs
  have h1 : 1 ≤ ix (mI R 39 70) := by grind [ix_t]
  refine ⟨ix (mI R 39 70) - 1, by omega, by omega, ?_, ?_⟩
  · rw [← of_sub _ _ h1, of_ix _ hs.1]
    rfl
  · rw [h.shn.2.1, o]
    rfl
theorem G5.b (hA : Ad ad) (h : G5 ad C R) {x f : Nat} {v : Int32} (h9 : f ≠ 9) (h10 : f ≠ 10) (h11 : f ≠ 11) : G5 ad (sI C (ad 15 x) f v) R :=
  ⟨h.1.cg (fun s j _ => congrFun (row_d hA 4 s (by omega)) j) (fun c s _ _ => row_d hA c s (by omega)) rfl rfl rfl rfl rfl rfl rfl rfl rfl rfl rfl,
   h.2.1.cg rfl (fun c s _ _ => row_d hA c s (by omega)) rfl rfl rfl rfl rfl rfl rfl rfl rfl rfl rfl rfl,
   h.2.2.1.cg (fun s => congrFun (row_d hA 10 s (by omega)) 7) (fun s => row_d hA 12 s (by omega)) rfl rfl rfl rfl,
   h.2.2.2.1.cg (fun s j hj => cel_f 15 s j (by omega)) rfl rfl rfl rfl,
   h.2.2.2.2.cg (fun s => congrFun (row_d hA 14 s (by omega)) 5) rfl rfl rfl rfl rfl rfl⟩
theorem lvB (h : Rel k ad C R) {s b : Nat} (hs : s < ix (mI R 39 70)) (hb : b < ix (mI R 88 s)) : ad 15 (60 * s + b) < mZ C := h.lv.in ((h.shn.1 s hs).2.2.2.2.2.2.2.2.2 b hb).2 (by decide)
theorem Rel.st_nl (h : Rel k ad C R) {s b e f : Nat} {v : Int32} (hs : s < ix (mI R 39 70)) (hb : b < ix (mI R 88 s)) (hef : (e = 0 ∧ f = 5) ∨ (e = 1 ∧ f = 7)) (hv : 1 ≤ v ∧ v ≤ 99) : Rel k ad (sI C (ad 15 (60 * s + b)) f v) (sI R 107 (2 * (60 * s + b) + e) v) := by
  have hN := n24 h
  have h60 := n60 h (show s < 24 by omega)
  have hcm : cm 15 (60 * s + b) f = (107, 2 * (60 * s + b) + e) := by rcases hef with ⟨rfl, rfl⟩ | ⟨rfl, rfl⟩ <;> rfl
  obtain ⟨j1, j2, j3, j4, j5, j6, j7, j8, j9⟩ := h.ise
  refine Rel.mk5 h.sc h.sr h.hA h.lv (h.dt.st h.hA 15 _ f hcm (by decide) (lvB h hs hb)) h.dl h.isc h.ila h.ipe h.shp h.shs h.ist h.she h.ied h.shn ⟨j1, j2, j3, j4, j5, j6, j7, fun x hx => ?_, fun s' b' h1 h2 h3 => ?_⟩ h.ison (G5.b h.hA h.g5 (by omega) (by omega) (by omega))
  · obtain ⟨q1, q2, q3⟩ := j8 x hx
    refine ⟨?_, q2, ?_⟩
    · rw [mI_sI]
      split
      · grind
      · exact q1
    · rw [mI_sI]
      split
      · intro w; grind
      · exact q3
  · obtain ⟨q1, q2, q3, q4, q5⟩ := j9 s' b' h1 h2 h3
    refine ⟨q1, q2, q3, ?_, ?_⟩
    · rw [mI_sI, if_neg (fun w => ?_)]
      · exact q4
      · have e1 : s' = s ∧ b' = b := by omega
        rw [e1.1] at h2
        have h2 : ix (mI R 88 s) ≤ b' := h2
        omega
    · rw [mI_sI, if_neg (fun w => ?_)]
      · exact q5
      · have e1 : s' = s ∧ b' = b := by omega
        rw [e1.1] at h2
        have h2 : ix (mI R 88 s) ≤ b' := h2
        omega
theorem Rel.st_np (h : Rel k ad C R) {s b e f : Nat} {v : Int32} (hs : s < ix (mI R 39 70)) (hb : b < ix (mI R 88 s)) (hef : (e = 0 ∧ f = 6) ∨ (e = 1 ∧ f = 8)) (hv : 1 ≤ v ∧ v ≤ 9999) (hl : mI R 107 (2 * (60 * s + b) + e) ≠ 0) : Rel k ad (sI C (ad 15 (60 * s + b)) f v) (sI R 108 (2 * (60 * s + b) + e) v) := by
  have hcm : cm 15 (60 * s + b) f = (108, 2 * (60 * s + b) + e) := by rcases hef with ⟨rfl, rfl⟩ | ⟨rfl, rfl⟩ <;> rfl
  obtain ⟨j1, j2, j3, j4, j5, j6, j7, j8, j9⟩ := h.ise
  refine Rel.mk5 h.sc h.sr h.hA h.lv (h.dt.st h.hA 15 _ f hcm (by decide) (lvB h hs hb)) h.dl h.isc h.ila h.ipe h.shp h.shs h.ist h.she h.ied h.shn ⟨j1, j2, j3, j4, j5, j6, j7, fun x hx => ?_, j9⟩ h.ison (G5.b h.hA h.g5 (by omega) (by omega) (by omega))
  obtain ⟨q1, q2, q3⟩ := j8 x hx
  refine ⟨q1, ?_, fun w => ?_⟩
  · rw [mI_sI]
    split
    · grind
    · exact q2
  · rw [mI_sI, if_neg (fun z => ?_)]
    · exact q3 w
    · rw [z.2] at w
      exact hl w
theorem sim_note (h : Rel k ad C R) (hk : k < 512) (a z b c : Int32) : Sim k (Hall_note C 8 a z b c) (Mod_note R 39 a z b c) := by
  unfold Hall_note Mod_note Mod_isBargain
  have s1 : ∀ r : Int32, Sim k (some (r, C)) (some (r, R)) := fun r => ⟨_, _, _, ad, rfl, rfl, h.up hk⟩
  have hN := n24 h
  rcases h.isc.on with o | o
  · have e14 : mR C 8 14 = none := by rw [h.shn.2.1, o]; rfl
    simp only [h.o8, h.o39, ck_t, e14, nl_n, o, if_true, bd_s]
    exact s1 _
  · obtain ⟨s, t1, t2, t3, t4⟩ := on_s h o
    have hs : s < ix (mI R 39 70) := by omega
    have sh := h.shn.1 s hs
    have s0 : (0 : Int32) ≤ Int32.ofNat s := of_nn s (by omega)
    have s2 : ix (Int32.ofNat s) = s := ix_of s (by omega)
    have h60 := n60 h t2
    have bb := h.ise.1 s t2
    simp only [h.o8, h.o39, ck_t, t4, nl_s, nn_s, kO_t sh.2.1, ev_hasB h hs, bd_s, o, i10, if_false, t3, h.sr.r39_79, kA_t h.sr.k88 s0 (show ix (Int32.ofNat s) < 24 by omega), s2, ev_within, ev_in]
    by_cases h2 : a < 0
    · simp only [if_neg (show ¬ (0 ≤ a ∧ a < mI R 88 s) by grind), if_true, if_pos h2, bd_s]
      exact s1 _
    · by_cases h3 : mI R 88 s ≤ a
      · simp only [if_neg (show ¬ (0 ≤ a ∧ a < mI R 88 s) by grind), if_true, if_neg h2, if_pos h3, bd_s]
        exact s1 _
      · have a0 : 0 ≤ a := by grind
        have hb : ix a < ix (mI R 88 s) := ix_mo a0 (by grind)
        have sb := sh.2.2.2.2.2.2.2.2.2 (ix a) hb
        simp only [if_pos (show 0 ≤ a ∧ a < mI R 88 s by grind), i10, if_false, if_neg h2, if_neg h3, bd_s]
        by_cases h4 : 1 ≤ b ∧ b ≤ 99
        · by_cases h5 : 1 ≤ c ∧ c ≤ 9999
          · simp only [if_pos h4, if_pos h5, i10, if_false, h.o8, h.o39, ck_t, kO_t sh.2.1, sh.2.2.2.2.1, nn_s, kA_t sh.2.2.2.2.2.2.2.1 a0 (show ix a < 60 by omega), sb.1, kO_t sb.2]
            have ea : a = Int32.ofNat (ix a) := (of_ix _ a0).symm
            have g : ∀ e : Nat, e ≤ 1 → 120 * Int32.ofNat s + 2 * a + Int32.ofNat e = Int32.ofNat (2 * (60 * s + ix a) + e) := by
              intro e he
              rw [ea, ix_of _ (by omega), show (120 : Int32) = Int32.ofNat 120 from rfl, show (2 : Int32) = Int32.ofNat 2 from rfl, of_mul, of_mul, of_add, of_add]
              congr 1
              omega
            have nx : ∀ e f1 f2 : Nat, ((e = 0 ∧ f1 = 5) ∨ (e = 1 ∧ f1 = 7)) → ((e = 0 ∧ f2 = 6) ∨ (e = 1 ∧ f2 = 8)) → Rel (k + 1) ad (sI (sI C (ad 15 (60 * s + ix a)) f1 b) (ad 15 (60 * s + ix a)) f2 c) (sI (sI R 107 (2 * (60 * s + ix a) + e) b) 108 (2 * (60 * s + ix a) + e) c) := by
              intro e f1 f2 e1 e2
              have r1 := (h.up hk).st_nl hs hb e1 h4
              refine r1.st_np hs hb e2 h5 ?_
              rw [mI_sI, if_pos ⟨rfl, rfl⟩]
              grind
            unfold Bargain_write Mod_note_J54
            by_cases h6 : z = 0
            · have e1 := g 1 (by omega)
              have n0 : (0 : Int32) ≤ Int32.ofNat (2 * (60 * s + ix a) + 1) := of_nn _ (by omega)
              have n1 : ix (Int32.ofNat (2 * (60 * s + ix a) + 1)) = 2 * (60 * s + ix a) + 1 := ix_of _ (by omega)
              have e1 : 120 * Int32.ofNat s + 2 * a + 1 = Int32.ofNat (2 * (60 * s + ix a) + 1) := e1
              simp only [if_pos h6, kO_t sb.2, ck_t, bd_s, t3, e1, h.o39, mR_sI, kA_sI, h.sr.r39_98, h.sr.r39_99, nn_s, kA_t h.sr.k107 n0 (show ix (Int32.ofNat (2 * (60 * s + ix a) + 1)) < 2880 by omega), kA_t h.sr.k108 n0 (show ix (Int32.ofNat (2 * (60 * s + ix a) + 1)) < 2880 by omega), n1]
              exact ⟨_, _, _, ad, rfl, rfl, nx 1 7 8 (Or.inr ⟨rfl, rfl⟩) (Or.inr ⟨rfl, rfl⟩)⟩
            · have e1 := g 0 (by omega)
              have n0 : (0 : Int32) ≤ Int32.ofNat (2 * (60 * s + ix a) + 0) := of_nn _ (by omega)
              have n1 : ix (Int32.ofNat (2 * (60 * s + ix a) + 0)) = 2 * (60 * s + ix a) + 0 := ix_of _ (by omega)
              have e1 : 120 * Int32.ofNat s + 2 * a + 0 = Int32.ofNat (2 * (60 * s + ix a) + 0) := e1
              simp only [if_neg h6, kO_t sb.2, ck_t, bd_s, t3, e1, h.o39, mR_sI, kA_sI, h.sr.r39_98, h.sr.r39_99, nn_s, kA_t h.sr.k107 n0 (show ix (Int32.ofNat (2 * (60 * s + ix a) + 0)) < 2880 by omega), kA_t h.sr.k108 n0 (show ix (Int32.ofNat (2 * (60 * s + ix a) + 0)) < 2880 by omega), n1]
              exact ⟨_, _, _, ad, rfl, rfl, nx 0 5 6 (Or.inl ⟨rfl, rfl⟩) (Or.inl ⟨rfl, rfl⟩)⟩
          · simp only [if_pos h4, if_neg h5, i10, if_false, if_true]
            exact s1 _
        · simp only [if_neg h4, if_true]
          exact s1 _
/-- denied: the class's flags of one bargain, the reference's two cells -/
theorem Rel.st_den (h : Rel k ad C R) {s b : Nat} {C' : Mm} {d f : Int32} (hs : s < ix (mI R 39 70)) (hb : b < ix (mI R 88 s)) (hK : mK C' = mK C) (hR : mR C' = mR C) (hZ : mZ C' = mZ C) (hS : mS C' = mS C) (hL : mL C' = mL C) (ho : ∀ a j, ¬ (a = ad 15 (60 * s + b) ∧ (j = 9 ∨ j = 10 ∨ j = 11)) → mI C' a j = mI C a j) (hd : (mI C' (ad 15 (60 * s + b)) 9 = 0 ∨ mI C' (ad 15 (60 * s + b)) 9 = 1) ∧ (mI C' (ad 15 (60 * s + b)) 10 = 0 ∨ mI C' (ad 15 (60 * s + b)) 10 = 1) ∧ d = mI C' (ad 15 (60 * s + b)) 9 + 2 * mI C' (ad 15 (60 * s + b)) 10 ∧ (d ≠ 0 → f = if mI C' (ad 15 (60 * s + b)) 11 = 0 then 2 else 1)) : Rel k ad C' (sI (sI R 106 (60 * s + b) f) 105 (60 * s + b) d) := by
  have hN := n24 h
  have rw1 : ∀ c i, c ≠ 15 → mI C' (ad c i) = mI C (ad c i) := fun c i hc => by
    funext j
    exact ho _ _ (fun q => hc (h.hA.2 _ _ _ _ q.1).1)
  obtain ⟨j1, j2, j3, j4, j5, j6, j7, j8, j9⟩ := h.ise
  have hdt : Dt ad C' R := by
    intro c i j q
    rw [← h.dt c i j q]
    unfold rI
    rw [hZ]
    have : mI C' (pl ad c i) j = mI C (pl ad c i) j := by
      refine ho _ _ (fun w => ?_)
      have e1 : pl ad c i = pl ad 15 (60 * s + b) := w.1
      obtain ⟨e2, e3⟩ := pl_ij h.hA (cm_rng c i j q) (Or.inl (by decide)) e1
      subst e2 e3
      rcases w.2 with e | e | e <;> subst e <;> exact q rfl
    rw [this]
  refine Rel.mk (h.sc.sm hK hR) h.sr h.hA ?_ ((hdt.str 106 _ rfl).str 105 _ rfl) ?_ h.isc h.ila h.ipe ?_ ?_ h.ist ?_ ?_ h.ied ?_ ?_ ⟨j1, j2, j3, j4, j5, j6, j7, j8, fun s' b' h1 h2 h3 => ?_⟩ h.ison ?_ ?_ ?_
  · unfold Lv; rw [hK, hR, hZ, hS]; exact h.lv
  · intro c i j q
    have := h.dl c i j q
    unfold rL at this ⊢
    rw [hZ, hL]
    exact this
  · unfold ShP; rw [hK, hR]; exact h.shp
  · unfold ShS; rw [hK, hR]; exact h.shs
  · exact h.qs.cg (fun s j _ => congrFun (rw1 4 s (by decide)) j) (fun c s _ _ => rw1 c s (by omega)) rfl rfl rfl rfl rfl rfl rfl rfl rfl rfl rfl
  · unfold ShE; rw [hK, hR]; exact h.she
  · exact h.eds.cg hK (fun c s _ _ => rw1 c s (by omega)) rfl rfl rfl rfl rfl rfl rfl rfl rfl rfl rfl rfl
  · unfold ShN Un; rw [hK, hR, hZ]; exact h.shn
  · obtain ⟨q1, q2, q3, q4, q5⟩ := j9 s' b' h1 h2 h3
    refine ⟨q1, q2, ?_, q4, q5⟩
    rw [mI_sI, if_neg (fun w => ?_)]
    · exact q3
    · have h60 := n60 h (show s < 24 by omega)
      have e1 : s' = s ∧ b' = b := by omega
      rw [e1.1] at h2
      have h2 : ix (mI R 88 s) ≤ b' := h2
      omega
  · exact h.son.cg (fun s => congrFun (rw1 10 s (by decide)) 7) (fun s => rw1 12 s (by decide)) rfl rfl rfl rfl
  · intro s' b' h1 h2
    have h60 := n60 h (show s < 24 by omega)
    have h1 : s' < ix (mI R 39 70) := h1
    have h2 : b' < ix (mI R 88 s') := h2
    have h60' := n60 h (show s' < 24 by omega)
    by_cases c : s' = s ∧ b' = b
    · obtain ⟨rfl, rfl⟩ := c
      rw [mI_sI, if_pos ⟨rfl, rfl⟩, mI_sI, if_neg (fun q => absurd q.1 (by decide)), mI_sI, if_pos ⟨rfl, rfl⟩]
      exact hd
    · have ne : 60 * s' + b' ≠ 60 * s + b := by omega
      have e9 : ∀ j, mI C' (ad 15 (60 * s' + b')) j = mI C (ad 15 (60 * s' + b')) j := fun j => ho _ _ (fun q => ne (h.hA.2 _ _ _ _ q.1).2)
      rw [mI_sI, if_neg (fun q => ne q.2), mI_sI, if_neg (fun q => absurd q.1 (by decide)), mI_sI, if_neg (fun q => absurd q.1 (by decide)), mI_sI, if_neg (fun q => ne q.2), e9, e9, e9]
      exact h.den s' b' h1 h2
  · exact h.evs.cg (fun s => congrFun (rw1 14 s (by decide)) 5) rfl rfl rfl rfl rfl rfl
end Q3
