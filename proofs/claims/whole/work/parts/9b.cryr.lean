section Y2
variable {k : Nat} {ad : Nat → Nat → Nat} {C R R' : Mm}
/-- what the reference's memory is behind a cry that is added -/
def CR (R R' : Mm) (s c e : Nat) (p b l pr : Int32) : Prop := (∀ j, mI R' 92 j = if j = 60 * s + c then p else mI R 92 j) ∧ (∀ j, mI R' 97 j = if j = 60 * s + c then b else mI R 97 j) ∧ (∀ j, mI R' 93 j = if j = 60 * s + c then l else mI R 93 j) ∧ (∀ j, mI R' 94 j = if j = 60 * s + c then pr else mI R 94 j) ∧ (∀ j, mI R' 95 j = if j = 60 * s + c then mI R 39 0 else mI R 95 j) ∧ (∀ j, mI R' 96 j = if j = 120 * s + e then Int32.ofNat c else mI R 96 j) ∧ (∀ j, mI R' 90 j = if j = s then Int32.ofNat (e + 1) else mI R 90 j) ∧ (∀ j, mI R' 87 j = if j = s then Int32.ofNat (c + 1) else mI R 87 j) ∧ (∀ j, mI R' 109 j = if j = c then 0 else mI R 109 j) ∧ (∀ a, a ≠ 92 → a ≠ 97 → a ≠ 93 → a ≠ 94 → a ≠ 95 → a ≠ 96 → a ≠ 90 → a ≠ 87 → a ≠ 109 → mI R' a = mI R a) ∧ mL R' = mL R ∧ mR R' = mR R ∧ mK R' = mK R
theorem cry_R (h : Rel k ad C R) (o : mI R 39 73 = 1) {s c e : Nat} (t1 : s + 1 = ix (mI R 39 70)) (hc : ix (mI R 87 s) = c) (c60 : c < 60) (he : ix (mI R 90 s) = e) {p b l pr : Int32} (hp : 0 ≤ p ∧ p < mI R 39 9) (hb : b = 0 ∨ b = 1) (hl : 1 ≤ l ∧ l ≤ 50) (hpr : 1 ≤ pr ∧ pr ≤ 9999) (hx : ad 14 (60 * s + c) = mZ C) (far : ∀ c' i, ¬ (c' = 14 ∧ i = 60 * s + c) → ad c' i < mZ C ∨ mZ C + 200 ≤ ad c' i) (room : mZ C + 1 ≤ 116 + 100 * k ∧ mS C + 6 ≤ 45818 + 2000 * k) (hR : CR R R' s c e p b l pr) : Rel k ad (cC C (ad 10 s) (ad 11 s) c p b l pr (mI R 39 0) (Int32.ofNat (c + 1))) R' := by
  have hN := n24 h
  have s24 : s < 24 := by omega
  have hs : s < ix (mI R 39 70) := by omega
  obtain ⟨q92, q97, q93, q94, q95, q96, q90, q87, q109, qo, qL, qR, qK⟩ := hR
  have lv10 : ad 10 s < mZ C := al_lt h (alN (by decide) hs)
  have lv11 : ad 11 s < mZ C := al_lt h (alN (by decide) hs)
  have ge : ∀ c i, 116 ≤ ad c i := h.hA.1
  have nw0 := h.isc.now
  have hD : Dt ad (cC C (ad 10 s) (ad 11 s) c p b l pr (mI R 39 0) (Int32.ofNat (c + 1))) (sI (sI (sI (sI (sI (sI R 92 (60 * s + c) p) 97 (60 * s + c) b) 93 (60 * s + c) l) 94 (60 * s + c) pr) 95 (60 * s + c) (mI R 39 0)) 87 s (Int32.ofNat (c + 1))) := cC_Dt h.hA h.dt hx lv10
  have hL : DL ad (cC C (ad 10 s) (ad 11 s) c p b l pr (mI R 39 0) (Int32.ofNat (c + 1))) R := cC_DL h.dl
  generalize hv : cC C (ad 10 s) (ad 11 s) c p b l pr (mI R 39 0) (Int32.ofNat (c + 1)) = C' at *
  have cI : ∀ a j, mI C' a j = if a = ad 10 s ∧ j = 4 then Int32.ofNat (c + 1) else if a = mZ C ∧ j = 5 then -1 else if a = mZ C ∧ j = 4 then mI R 39 0 else if a = mZ C ∧ j = 3 then pr else if a = mZ C ∧ j = 2 then l else if a = mZ C ∧ j = 1 then b else if a = mZ C ∧ j = 0 then p else if a = mZ C then 0 else mI C a j := fun a j => by rw [← hv]; exact cC_I a j
  have cR : ∀ a j, mR C' a j = if a = ad 11 s ∧ j = c then some (mZ C) else if a = mZ C then none else mR C a j := fun a j => by rw [← hv]; exact cC_R a j
  have cK : ∀ a, mK C' a = if a = mZ C then (1, 6) else mK C a := fun a => by rw [← hv]; exact cC_K a
  have cZ : mZ C' = mZ C + 1 := by rw [← hv]; exact cC_Z
  have cS : mS C' = mS C + 6 := by rw [← hv]; exact cC_S
  clear hv
  have D2 : Dt ad C' R' := hD.eqR (fun a j q => by
    rw [mI_sI, mI_sI, mI_sI, mI_sI, mI_sI, mI_sI]
    by_cases a1 : a = 87
    · subst a1
      rw [q87]
      by_cases w : j = s
      · rw [if_pos w, if_pos ⟨rfl, w⟩]
      · rw [if_neg w, if_neg (fun z => w z.2), if_neg (by omega), if_neg (by omega), if_neg (by omega), if_neg (by omega), if_neg (by omega)]
    · rw [if_neg (fun z => a1 z.1)]
      by_cases a2 : a = 95
      · subst a2
        rw [q95]
        by_cases w : j = 60 * s + c
        · rw [if_pos w, if_pos ⟨rfl, w⟩]
        · rw [if_neg w, if_neg (fun z => w z.2), if_neg (by omega), if_neg (by omega), if_neg (by omega), if_neg (by omega)]
      · rw [if_neg (fun z => a2 z.1)]
        by_cases a3 : a = 94
        · subst a3
          rw [q94]
          by_cases w : j = 60 * s + c
          · rw [if_pos w, if_pos ⟨rfl, w⟩]
          · rw [if_neg w, if_neg (fun z => w z.2), if_neg (by omega), if_neg (by omega), if_neg (by omega)]
        · rw [if_neg (fun z => a3 z.1)]
          by_cases a4 : a = 93
          · subst a4
            rw [q93]
            by_cases w : j = 60 * s + c
            · rw [if_pos w, if_pos ⟨rfl, w⟩]
            · rw [if_neg w, if_neg (fun z => w z.2), if_neg (by omega), if_neg (by omega)]
          · rw [if_neg (fun z => a4 z.1)]
            by_cases a5 : a = 97
            · subst a5
              rw [q97]
              by_cases w : j = 60 * s + c
              · rw [if_pos w, if_pos ⟨rfl, w⟩]
              · rw [if_neg w, if_neg (fun z => w z.2), if_neg (by omega)]
            · rw [if_neg (fun z => a5 z.1)]
              by_cases a6 : a = 92
              · subst a6
                rw [q92]
                by_cases w : j = 60 * s + c
                · rw [if_pos w, if_pos ⟨rfl, w⟩]
                · rw [if_neg w, if_neg (fun z => w z.2)]
              · rw [if_neg (fun z => a6 z.1)]
                have a7 : a ≠ 96 := fun w => by subst w; exact q rfl
                have a8 : a ≠ 90 := fun w => by subst w; exact q rfl
                have a9 : a ≠ 109 := fun w => by subst w; exact q rfl
                rw [qo a a6 a5 a4 a3 a2 a7 a8 a1 a9])
  have g : ∀ a, a ≠ 92 ∧ a ≠ 97 ∧ a ≠ 93 ∧ a ≠ 94 ∧ a ≠ 95 ∧ a ≠ 96 ∧ a ≠ 90 ∧ a ≠ 87 ∧ a ≠ 109 → mI R' a = mI R a := fun a w => qo a w.1 w.2.1 w.2.2.1 w.2.2.2.1 w.2.2.2.2.1 w.2.2.2.2.2.1 w.2.2.2.2.2.2.1 w.2.2.2.2.2.2.2.1 w.2.2.2.2.2.2.2.2
  have so := h.ison o
  rw [← t1, Nat.add_sub_cancel] at so
  have z109 : mI R 109 c = 0 := so.2.2.2.1 c (by omega) c60
  have e109 : mI R' 109 = mI R 109 := by
    funext j
    rw [q109]
    split
    · rename_i w; rw [w, z109]
    · rfl
  have e39 := g 39 (by decide)
  have g88 := g 88 (by decide)
  have xc : ix (Int32.ofNat (c + 1)) = c + 1 := ix_of _ (by omega)
  have c1b : (0 : Int32) ≤ Int32.ofNat (c + 1) := of_nn _ (by omega)
  have n87 : ix (mI R' 87 s) = c + 1 := by rw [q87, if_pos rfl, xc]
  have o87 : ∀ s', s' ≠ s → mI R' 87 s' = mI R 87 s' := fun s' w => by rw [q87, if_neg w]
  have fI : ∀ c' i, c' ≠ 10 → ¬ (c' = 14 ∧ i = 60 * s + c) → mI C' (ad c' i) = mI C (ad c' i) := fun c' i w q => by
    have := far c' i q
    funext j
    rw [cI, if_neg (fun z => w (h.hA.2 _ _ _ _ z.1).1), if_neg (by omega), if_neg (by omega), if_neg (by omega), if_neg (by omega), if_neg (by omega), if_neg (by omega), if_neg (by omega)]
  have fK : ∀ c' i, ¬ (c' = 14 ∧ i = 60 * s + c) → mK C' (ad c' i) = mK C (ad c' i) := fun c' i q => by
    have := far c' i q
    rw [cK, if_neg (by omega)]
  have fR : ∀ c' i, c' ≠ 11 → ¬ (c' = 14 ∧ i = 60 * s + c) → mR C' (ad c' i) = mR C (ad c' i) := fun c' i w q => by
    have := far c' i q
    funext j
    rw [cR, if_neg (fun z => w (h.hA.2 _ _ _ _ z.1).1), if_neg (by omega)]
  have f10 : ∀ i j, j ≠ 4 → mI C' (ad 10 i) j = mI C (ad 10 i) j := fun i j w => by
    have := far 10 i (by omega)
    rw [cI, if_neg (fun z => w z.2), if_neg (by omega), if_neg (by omega), if_neg (by omega), if_neg (by omega), if_neg (by omega), if_neg (by omega), if_neg (by omega)]
  obtain ⟨l1, l2, l3, l4, l5⟩ := h.lv
  obtain ⟨z1, z2, z3, z4, z5, z6, z7, z8, z9⟩ := h.ise
  have b90 := (z1 s s24).2.2.1
  have ev := h.evs s hs
  have e119 : e + 1 ≤ 120 := by
    have := sumTo_ub (f := fun c => if mI C (ad 14 (60 * s + c)) 5 = -1 then (0 : Int) else 1) (n := ix (mI R 87 s)) (fun j _ => (bk01 _).1)
    have := ev.2.2.2.1
    omega
  refine h.ses ⟨by omega, fun a w => ?_, fun a j w => ?_, by omega, by omega⟩ (fun c' i w => fI c' i (by omega) (by omega)) (fun c' i w => fK c' i (by omega)) (fun c' i w => fR c' i (by omega) (by omega)) (fun a w => ?_) (fun a w => ?_) D2 ?_ e39 (fun a w => ?_) qL qR qK ⟨fun s' w => ?_, ?_, fun c' i => ?_⟩ ?_ ?_ ?_ ?_ ?_
  · rw [cK, if_neg (by omega)]; exact l2 a (by omega)
  · rw [cR, if_neg (by omega), if_neg (by omega)]; exact l3 a j (by omega)
  · rw [cK, if_neg (by omega)]
  · funext j
    have := ge 11 s
    rw [cR, if_neg (by omega), if_neg (by omega)]
  · intro c' i j q
    rw [qL]
    exact hL c' i j q
  · unfold tS at w
    exact g a (by omega)
  · rw [e39] at w
    obtain ⟨a1, a2, a3, a4, a5, a6, a7, a8, a9, a10⟩ := h.shn.1 s' w
    rw [fR 10 s' (by decide) (by omega), fR 13 s' (by decide) (by omega), fK 10 s' (by omega), fK 11 s' (by omega), fK 12 s' (by omega), fK 13 s' (by omega), g88]
    have s37 : mR C' 37 s' = mR C 37 s' := by
      have := ge 11 s
      rw [cR, if_neg (by omega), if_neg (by omega)]
    rw [s37]
    have b60 := n60 h (show s' < 24 by omega)
    refine ⟨a1, a2, a3, a4, a5, a6, a7, a8, fun c' hc' => ?_, fun b' hb' => ?_⟩
    · by_cases y : s' = s
      · rw [y, n87] at hc'
        rw [y]
        by_cases y2 : c' = c
        · rw [y2, hx, cR, if_pos ⟨rfl, rfl⟩, cK, if_pos rfl]
          exact ⟨rfl, rfl⟩
        · rw [y] at a9
          obtain ⟨u1, u2⟩ := a9 c' (by omega)
          rw [fK 14 _ (by omega), cR, if_neg (fun z => y2 z.2), if_neg (by omega)]
          exact ⟨u1, u2⟩
      · rw [o87 s' y] at hc'
        obtain ⟨u1, u2⟩ := a9 c' hc'
        have := far 11 s' (by omega)
        rw [fK 14 _ (by omega), cR, if_neg (fun z => y (h.hA.2 _ _ _ _ z.1).2), if_neg (by omega)]
        exact ⟨u1, u2⟩
    · rw [fK 15 _ (by omega)]
      exact a10 b' hb'
  · have s8 : mR C' 8 14 = mR C 8 14 := by
      have := ge 11 s
      rw [cR, if_neg (by omega), if_neg (by omega)]
    rw [s8, e39]
    exact h.shn.2.1
  · have old := h.shn.2.2 c' i
    by_cases y : c' = 14 ∧ i = 60 * s + c
    · left
      unfold Al
      obtain ⟨y1, y2⟩ := y
      refine Or.inr (Or.inr (Or.inr (Or.inl ⟨y1, ?_, ?_⟩)))
      · rw [show i / 60 = s by omega, n87]; omega
      · rw [e39]; omega
    · rcases old with q | q
      · left
        unfold Al at q ⊢
        rw [e39, g88]
        rcases q with q | q | q | ⟨q1, q2, q3⟩ | q | q
        · exact Or.inl q
        · exact Or.inr (Or.inl q)
        · exact Or.inr (Or.inr (Or.inl q))
        · refine Or.inr (Or.inr (Or.inr (Or.inl ⟨q1, ?_, q3⟩)))
          by_cases y3 : i / 60 = s
          · rw [y3, n87]; rw [y3, hc] at q2; omega
          · rw [o87 _ y3]; exact q2
        · exact Or.inr (Or.inr (Or.inr (Or.inr (Or.inl q))))
        · exact Or.inr (Or.inr (Or.inr (Or.inr (Or.inr q))))
      · have := far c' i y
        right; omega
  · have c60' : Int32.ofNat (c + 1) ≤ 60 := (of_le (c + 1) 60 (by omega) (by omega)).mpr (by omega)
    have c88 := (z1 s s24).2.1
    have c87 : mI R 87 s ≤ Int32.ofNat (c + 1) := by
      have h0 := (z1 s s24).1.1
      rw [← of_ix _ h0, hc]
      exact (of_le c (c + 1) (by omega) (by omega)).mpr (by omega)
    unfold Ise
    rw [e39, g88, g 84 (by decide), g 86 (by decide), g 89 (by decide), g 85 (by decide), g 98 (by decide), g 99 (by decide), g 100 (by decide), g 101 (by decide), g 102 (by decide), g 103 (by decide), g 104 (by decide), g 105 (by decide), g 107 (by decide), g 108 (by decide)]
    refine ⟨fun s' w => ?_, fun s' y w => ?_, z3, z4, fun s' c' w y => ?_, z6, z7, z8, z9⟩
    · obtain ⟨a1, a2, a3, a4, a5⟩ := z1 s' w
      refine ⟨?_, ?_, ?_, a4, a5⟩
      · rw [q87]; split
        · exact ⟨c1b, c60'⟩
        · exact a1
      · rw [q87]; split
        · rename_i y; rw [y]; exact ⟨c88.1, by have := c88.2; clear h far hD D2 hL; grind⟩
        · exact a2
      · rw [q90]; split
        · exact ⟨of_nn _ (by omega), (of_le (e + 1) 120 (by omega) (by omega)).mpr (by omega)⟩
        · exact a3
    · rw [q87, q90, if_neg (by omega), if_neg (by omega)]
      exact z2 s' y w
    · rw [q92, q97, q93, q94, q95]
      by_cases y2 : s' = s ∧ c' = c
      · rw [if_pos (by omega), if_pos (by omega), if_pos (by omega), if_pos (by omega), if_pos (by omega)]
        exact ⟨hp, hb, hl, hpr, nw0.1, by clear h far hD D2 hL; grind⟩
      · have y3 : c' < ix (mI R 87 s') := by
          by_cases y4 : s' = s
          · rw [y4, n87] at y; rw [y4, hc]; omega
          · rw [o87 s' y4] at y; exact y
        have b60 := n60 h w
        rw [if_neg (by omega), if_neg (by omega), if_neg (by omega), if_neg (by omega), if_neg (by omega)]
        exact z5 s' c' w y3
  · intro _
    rw [e39, g88, e109, ← t1, Nat.add_sub_cancel, n87]
    obtain ⟨u1, u2, u3, u4, u5⟩ := so
    refine ⟨u1, u2, u3, fun c' y w => u4 c' (by omega) w, by omega⟩
  · refine ⟨fun s' w => ?_, fun _ c' w => ?_⟩
    · rw [e39] at w ⊢
      rw [f10 s' 7 (by decide)]
      exact h.son.1 s' w
    · rw [e39, e109, fI 12 _ (by decide) (by omega)]
      exact h.son.2 o c' w
  · exact h.den.cg (fun x j _ => congrFun (fI 15 x (by decide) (by omega)) j) (congrFun e39 70) g88 (g 105 (by decide)) (g 106 (by decide))
  · intro s' w
    rw [e39] at w
    have bs24 : s' < 24 := by omega
    have b60 := n60 h bs24
    obtain ⟨w1, w2, w3, w4, w5⟩ := h.evs s' w
    have e120 : ix (mI R 90 s') ≤ 120 := by have := (z1 s' bs24).2.2.1; clear h far hD D2 hL; grind [ix_t]
    rw [e39, e109]
    have g96 : ∀ j, j < 120 → ¬ (s' = s ∧ j = e) → mI R' 96 (120 * s' + j) = mI R 96 (120 * s' + j) := fun j p q => by rw [q96, if_neg (by omega)]
    have bC : ∀ c', c' < 60 → ¬ (s' = s ∧ c' = c) → mI C' (ad 14 (60 * s' + c')) 5 = mI C (ad 14 (60 * s' + c')) 5 := fun c' p q => congrFun (fI 14 _ (by decide) (by omega)) 5
    by_cases y : s' = s
    · subst y
      rw [n87, q90, if_pos rfl, ix_of _ (by omega)]
      rw [hc, he] at w1 w4
      rw [he] at w2
      rw [hc, he] at w3
      rw [hc] at w5
      have n5 : mI C' (ad 14 (60 * s' + c)) 5 = -1 := by
        have := ge 10 s'
        rw [hx, cI, if_neg (by omega), if_pos ⟨rfl, rfl⟩]
      have n96 : mI R' 96 (120 * s' + e) = Int32.ofNat c := by rw [q96, if_pos rfl]
      have cg : ∀ n, n ≤ e → cc (mI R' 96) (120 * s') n = cc (mI R 96) (120 * s') n := fun n hn => cc_cg (fun j hj => g96 j (by omega) (by omega))
      have lt100 : Int32.ofNat c < 100 := (of_lt c 100 (by omega) (by omega)).mpr (by omega)
      have cE : cc (mI R' 96) (120 * s') (e + 1) = c + 1 := by
        show cc (mI R' 96) (120 * s') e + (if mI R' 96 (120 * s' + e) < 100 then 1 else 0) = _
        rw [n96, cg e (Nat.le_refl _), if_pos lt100, w1]
      refine ⟨cE, fun j hj => ?_, fun c' hc' hb' => ?_, ?_, fun o' q c' hc' hb' => ?_⟩
      · by_cases cj : j = e
        · left
          rw [cj, n96, cg e (Nat.le_refl _), w1, ix_of _ (by omega)]
          exact ⟨of_nn _ (by omega), lt100, rfl⟩
        · rw [g96 j (by omega) (fun z => cj z.2), cg j (by omega)]
          rcases w2 j (by omega) with z | ⟨c', u1, u2, u3⟩
          · exact Or.inl z
          · have cm := cc_mo (f := mI R 96) (b := 120 * s') (n := e) (j := j) (by omega)
            refine Or.inr ⟨c', u1, u2, ?_⟩
            rw [bC c' (by omega) (by omega)]; exact u3
      · by_cases y2 : c' = c
        · rw [y2, n5] at hb'; exact absurd rfl hb'
        · rw [bC c' (by omega) (by omega)] at hb'
          obtain ⟨j, u1, u2⟩ := w3 c' (by omega) hb'
          exact ⟨j, by omega, by rw [g96 j (by omega) (by omega)]; exact u2⟩
      · have e1 : sumTo (fun c' => if mI C' (ad 14 (60 * s' + c')) 5 = -1 then (0 : Int) else 1) (c + 1) = sumTo (fun c' => if mI C (ad 14 (60 * s' + c')) 5 = -1 then (0 : Int) else 1) c + 0 := by
          show sumTo (fun c' => if mI C' (ad 14 (60 * s' + c')) 5 = -1 then (0 : Int) else 1) c + (if mI C' (ad 14 (60 * s' + c)) 5 = -1 then (0 : Int) else 1) = _
          rw [n5, if_pos rfl]
          congr 1
          apply sumTo_cg
          intro c' hc'
          rw [bC c' (by omega) (by omega)]
        rw [e1]
        omega
      · by_cases y2 : c' = c
        · rw [y2, n5] at hb'; exact absurd rfl hb'
        · rw [bC c' (by omega) (by omega)] at hb'
          exact w5 o' q c' (by omega) hb'
    · rw [o87 s' y, q90, if_neg y]
      have cg : ∀ n, n ≤ 120 → cc (mI R' 96) (120 * s') n = cc (mI R 96) (120 * s') n := fun n hn => cc_cg (fun j hj => g96 j (by omega) (fun z => y z.1))
      refine ⟨by rw [cg _ e120]; exact w1, fun j hj => ?_, fun c' hc' hb' => ?_, ?_, fun o' q => absurd q (by omega)⟩
      · rw [g96 j (by omega) (fun z => y z.1), cg j (by omega)]
        rcases w2 j hj with z | ⟨c', u1, u2, u3⟩
        · exact Or.inl z
        · have cm := cc_mo (f := mI R 96) (b := 120 * s') (n := ix (mI R 90 s')) (j := j) (by omega)
          refine Or.inr ⟨c', u1, u2, ?_⟩
          rw [bC c' (by omega) (fun z => y z.1)]; exact u3
      · rw [bC c' (by omega) (fun z => y z.1)] at hb'
        obtain ⟨j, u1, u2⟩ := w3 c' hc' hb'
        exact ⟨j, u1, by rw [g96 j (by omega) (fun z => y z.1)]; exact u2⟩
      · rw [w4]
        congr 1
        apply sumTo_cg
        intro c' hc'
        rw [bC c' (by omega) (fun z => y z.1)]
end Y2
