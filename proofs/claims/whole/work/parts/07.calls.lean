section EJ4
variable {G : Gx} {Y : Ym} {ρ : Type} {cv : ρ → Option Value} {d pc : Nat} {lv : List (Nat × Value)} {st : List Value} {M : Mm} {o o1 o2 : Option (ρ × Mm)}
theorem gT_at {t : Nat} (ht : t < 10) : (gT G)[t]? = some (gC G t, arrT t) := by
  rcases (show t = 0 ∨ t = 1 ∨ t = 2 ∨ t = 3 ∨ t = 4 ∨ t = 5 ∨ t = 6 ∨ t = 7 ∨ t = 8 ∨ t = 9 by omega) with rfl | rfl | rfl | rfl | rfl | rfl | rfl | rfl | rfl | rfl <;> rfl
theorem EJ_aast (t : Nat) (pc2 : Nat) {a v c N : Nat} {i : Int32} {C : String} {T : u_T} {ty : Nat → FieldType} (cf : CFx c C T N ty) (ht : t < 10) (ht4 : 4 ≤ t) (hC : arrT t = .object C) (hk : kA M a (20 + t) i = true) (hv : mK M v = (c, N)) (dd : decode Y.2.1 pc = .ok (.aastore, 1)) (hp : pc + 1 = pc2) (kk : EJ G Y cv d pc2 lv st (sR M a (ix i) (some v)) o) : EJ G Y cv d pc lv (.ref v :: .int i :: .ref a :: st) M o := by
  subst hp
  obtain ⟨h1, h2⟩ := kA_spec hk
  obtain ⟨f1, f2, f3, f4, f5, f6, f7, f8, f9⟩ := cf
  refine EJ_mem (M2 := sR M a (ix i) (some v)) rfl rfl (fun p e s m args below meth c0 R H locs cells slots ls Q hA hR hS w => ?_) kk
  have hK := hA.2.2.2.2.2.1
  have ha := hR.arr (t := t) h1 (by omega)
  have hlt : i.toNatClampNeg < (mK M a).2 := Nat.not_le.mp fun q => h2 (Or.inr q)
  have h0 : ¬ i < 0 := fun q => h2 (Or.inl q)
  obtain ⟨r', hr', cellV, g1, g2, g3, -⟩ := hR.2.2.1 _ _ (hR.obj hv f2)
  have hcls := (hK.1 c _ f1).2
  have hT := (hK.2 t _ (gT_at ht)).2
  rw [hC] at hT
  obtain ⟨kA, comp, k1, k2, k3, -⟩ := hT
  have hcomp : comp = (gD G).1 c := Option.some.inj (k3.symm.trans hcls.1)
  subst hcomp
  obtain ⟨kC, hkC, -⟩ := hcls.2
  have earl : ∀ M' : Mm, arl G M' a t = .inr (.inr (.inr (.inr (fun j => (mR M' a j).map (adr G))))) := by
    intro M'
    unfold arl
    rw [if_neg (by omega), if_neg (by omega)]
  have hcell : H[adr G a]? = some (arrV (gC G t) (mK M a).2 (fun j => va_rf ((mR M a j).map (adr G)))) := by
    have := hR.2.2.1 _ _ ha
    rw [earl] at this
    exact this
  refine W.aast (t := .object C) hA.1 hA.2.1 hcell (fun q h => by cases h) (fun h => by cases h) k1 k2 rfl hkC ⟨h0, by show _ < (arrV _ _ _).slots.size; rw [arrV_size]; exact hlt⟩ g1 (fun q h => by rw [g3] at h; cases h) (by rw [g2]; exact hkC) (by rw [g2]; exact va_assign hcls) rfl rfl dd fun H1 e1 z oq => ?_
  refine w H1 _ (hR.ast (t := t) h1 (by omega) rfl rfl (fun b hb => ent_sR hb) ?_ z oq) (hS.put z oq ((wsO_D G M).2 _ _ ha))
  rw [e1, earl]
  show some ((arrV (gC G t) (mK M a).2 (fun j => va_rf ((mR M a j).map (adr G)))).setSlot i.toNatClampNeg (.ref (adr G v))) = some (arrV (gC G t) (mK M a).2 (fun j => va_rf ((mR (sR M a (ix i) (some v)) a j).map (adr G))))
  rw [arrV_store]
  congr 2
  funext q
  by_cases hq : q = i.toNatClampNeg
  · subst hq
    simp [updV, mR_sR, va_rf]
  · simp [updV, mR_sR, hq]
/-- a cell more -/
theorem EJ_more {pc2 c n : Nat} {st2 : List Value} (h : ∀ (p : Program) (e : Env) (s : State) (m : MethodId) (args : Array Value) (below : List Frame) (meth : Method) (c0 : Code) (R : Room) (H : Heap) (locs : List Loc) (cells slots : Nat) (ls : Array Slot) (Q : State → Prop), Atx G Y d p s m args meth c0 R → Rep G M H → va_S (Aq G) s.heap H locs → cells + 1 ≤ R.cells → slots + n ≤ R.slots → (∀ H2 : Heap, Rep G (nw M c n) H2 → va_S (Aq G) s.heap H2 locs → W p (gl G) e R s m args below meth c0 H2 locs (cells + 1) (slots + n) Q (F0 m pc2 ls (st2.map (rho G)))) → W p (gl G) e R s m args below meth c0 H locs cells slots Q (F0 m pc ls (st.map (rho G)))) (k : EJ G Y cv d pc2 lv st2 (nw M c n) o) : EJ G Y cv d pc lv st M o := by
  intro r M' ho
  obtain ⟨h1, h2, k⟩ := k r M' ho
  rw [mZ_nw] at h1
  rw [mS_nw] at h2
  refine ⟨by omega, by omega, fun p e s m args below meth c0 R H locs cells slots ls hA hR hS hl hc hs => h p e s m args below meth c0 R H locs cells slots ls _ hA hR hS (by omega) (by omega) (fun H2 hR2 hS2 => k p e s m args below meth c0 R H2 locs (cells + 1) (slots + n) ls hA hR2 hS2 hl ?_ ?_)⟩
  · rw [mZ_nw]; omega
  · rw [mS_nw]; omega
theorem Rep.more {H H1 : Heap} {c n : Nat} (h : Rep G M H) (z : H1.size = H.size + 1) (oq : ∀ q, q < H.size → H1[q]? = H[q]?) (he : va_at (gD G) vwCl (adr G (mZ M), ent G (nw M c n) (mZ M)) H1) : Rep G (nw M c n) H1 := by
  refine ⟨by rw [z, mZ_nw]; have := h.1; omega, by rw [mZ_nw]; have := h.2.1; omega, ?_, fun a ha => ?_⟩
  · rw [wsO_push h.2.1]
    refine (h.2.2.1.kept (fun k q hk => oq q.1 ((h.2.2.1 k q hk).lt))).app (fun k q hk => ?_)
    have hz : k < 1 := (List.getElem?_eq_some_iff.mp hk).1
    rw [show k = 0 by omega] at hk
    cases hk
    exact he
  · rw [mZ_nw] at ha
    rw [mK_nw, if_neg (by have := h.2.1; omega)]
    exact h.2.2.2 a (by omega)
theorem Rep.adr {H : Heap} (h : Rep G M H) : H.size = adr G (mZ M) := by
  rw [adr_own G h.2.1]; have := h.1; have := h.2.1; omega
theorem va_S.more {A : Nat → Prop} {H0 H H1 : Heap} {locs : List Loc} (hS : va_S A H0 H locs) (z : H1.size = H.size + 1) (oq : ∀ q, q < H.size → H1[q]? = H[q]?) : va_S A H0 H1 locs :=
  ⟨Nat.le_trans hS.1 (by omega), fun x h1 h2 => (oq x (Nat.lt_of_lt_of_le h1 hS.1)).trans (hS.2.1 x h1 h2), hS.2.2⟩
theorem EJ_new {c N : Nat} {C : String} {T : u_T} {ty : Nat → FieldType} (cf : CFx c C T N ty) (pc2 : Nat) {i : Nat} (hw : Cond.classLink Y.1.cls i C ∈ gd_tbl) (dd : decode Y.2.1 pc = .ok (.new i, 3)) (hp : pc + 3 = pc2) (kk : EJ G Y cv d pc2 lv (.ref (mZ M) :: st) (nw M c N) o) : EJ G Y cv d pc lv st M o := by
  subst hp
  obtain ⟨f1, f2, f3, f4, f5, f6, f7, f8, f9⟩ := cf
  refine EJ_more (fun p e s m args below meth c0 R H locs cells slots ls Q hA hR hS hcl hsl w => ?_) kk
  obtain ⟨hx, hb, hml, hown, hts, hK, -⟩ := hA
  have hKn := hK.1 c _ f1
  refine W.newcK hx hb hown (hts _ hw) (hts _ f8) (hts _ f9) rfl dd hcl hsl hKn.2.1 rfl fun H1 kC hkC e1 z1 q1 => ?_
  have e2 : ((.ref (mZ M) :: st).map (rho G)) = .ref H.size :: st.map (rho G) := by rw [hR.adr]; rfl
  have w2 := w H1 (hR.more z1 q1 ?_) (hS.more z1 q1)
  · rw [e2] at w2
    exact w2
  · rw [ent_O (c := c) (N := N) (by rw [mK_nw, if_pos rfl]) f2, ← hR.adr]
    refine ⟨_, f1, (u_born ty hts f3 hKn hkC e1 f4).to (fun j hj => ?_)⟩
    unfold vp_V
    rw [List.getD_eq_getElem?_getD, fsl_get hj, f6]
    have h7 := (f7 j hj).2
    show defaultValue (ty j) = fvl G (nw M c N) (mZ M) j (ty j)
    generalize ty j = t at h7
    cases t <;> simp only [okT] at h7 <;> first | (cases h7; done) | (simp only [fvl, mI_nw, mL_nw, mR_nw, if_true]; rfl)
def kL (n : Int32) : Bool := decide (0 ≤ n) && decide (n.toNatClampNeg ≤ 65536)
theorem kL_spec {n : Int32} (h : kL n = true) : ¬ n < 0 ∧ n.toNatClampNeg ≤ 65536 := by
  simp only [kL, Bool.and_eq_true, decide_eq_true_eq] at h
  exact ⟨Int32.not_lt.mpr h.1, h.2⟩
theorem EJ_newa (t : Nat) (pc2 : Nat) {atype : ArrayType} {n : Int32} (ht : t < 4) (hty : newarray.typeOf atype = arrT t) (hw : Cond.arrayClass (arrT t) ∈ gd_tbl) (hn : kL n = true) (dd : decode Y.2.1 pc = .ok (.newarray atype, 2)) (hp : pc + 2 = pc2) (kk : EJ G Y cv d pc2 lv (.ref (mZ M) :: st) (nw M (20 + t) (ix n)) o) : EJ G Y cv d pc lv (.int n :: st) M o := by
  subst hp
  obtain ⟨hn1, hn2⟩ := kL_spec hn
  refine EJ_more (fun p e s m args below meth c0 R H locs cells slots ls Q hA hR hS hcl hsl w => ?_) kk
  obtain ⟨hx, hb, hml, hown, hts, hK, -⟩ := hA
  have hbytes : n.toNatClampNeg * componentBytes (newarray.typeOf atype) ≤ 536870912 := by
    have : componentBytes (newarray.typeOf atype) ≤ 8 := by
      rw [hty]
      rcases (show t = 0 ∨ t = 1 ∨ t = 2 ∨ t = 3 by omega) with rfl | rfl | rfl | rfl <;> decide
    calc n.toNatClampNeg * componentBytes (newarray.typeOf atype) ≤ 65536 * 8 := Nat.mul_le_mul hn2 this
      _ ≤ 536870912 := by decide
  refine va_newaK hx hb (by rw [hty]; exact hts _ hw) rfl dd rfl hn1 rfl hbytes hcl hsl rfl fun H1 cA e1 z1 q1 hAr hNm => ?_
  have hcA : cA = gC G t := by
    have h1 := (hK.2 t _ (gT_at (by omega))).2
    rw [hty] at hNm
    have h2 : s.vm.findClass ("[" ++ (arrT t).toString) = some (gC G t) := by
      rcases (show t = 0 ∨ t = 1 ∨ t = 2 ∨ t = 3 by omega) with rfl | rfl | rfl | rfl <;> exact h1
    exact Option.some.inj (hNm.symm.trans h2)
  have e2 : ((.ref (mZ M) :: st).map (rho G)) = .ref H.size :: st.map (rho G) := by rw [hR.adr]; rfl
  have w2 := w H1 (hR.more z1 q1 ?_) (hS.more z1 q1)
  · rw [e2] at w2
    exact w2
  · rw [ent_A (t := t) (by rw [mK_nw, if_pos rfl]), ← hR.adr]
    show H1[H.size]? = some (vp_cell (gC G t) _)
    rw [e1, hty, hcA]
    have ek : (mK (nw M (20 + t) (ix n)) (mZ M)).2 = n.toNatClampNeg := by rw [mK_nw, if_pos rfl]
    rw [ek]
    have z0 : mI (nw M (20 + t) (ix n)) (mZ M) = fun _ => 0 := by funext j; rw [mI_nw, if_pos rfl]
    have z3 : mL (nw M (20 + t) (ix n)) (mZ M) = fun _ => 0 := by funext j; rw [mL_nw, if_pos rfl]
    unfold arl
    rw [z0, z3]
    rcases (show t = 0 ∨ t = 1 ∨ t = 2 ∨ t = 3 by omega) with rfl | rfl | rfl | rfl <;> rfl
theorem EJ_newq (t : Nat) (pc2 : Nat) {i : Nat} {C : String} {n : Int32} (ht : t < 10) (ht4 : 4 ≤ t) (hC : arrT t = .object C) (hw : Cond.classLink Y.1.cls i C ∈ gd_tbl) (hov : ∀ U, Exu G U → va_AO C U) (hn : kL n = true) (dd : decode Y.2.1 pc = .ok (.anewarray i, 3)) (hp : pc + 3 = pc2) (kk : EJ G Y cv d pc2 lv (.ref (mZ M) :: st) (nw M (20 + t) (ix n)) o) : EJ G Y cv d pc lv (.int n :: st) M o := by
  subst hp
  obtain ⟨hn1, hn2⟩ := kL_spec hn
  refine EJ_more (fun p e s m args below meth c0 R H locs cells slots ls Q hA hR hS hcl hsl w => ?_) kk
  obtain ⟨hx, hb, hml, hown, hts, hK, -, hEu, -⟩ := hA
  refine W.anew hx hb hown (hts _ hw) (va_AO.use (hov s hEu)) rfl dd rfl hn1 (by omega) hcl hsl fun cA kA comp f1 f2 f3 f4 => ?_
  generalize hH1 : H.push ({ cls := cA, slots := Array.replicate n.toNatClampNeg .null, vm := .none } : Cell) = H1
  have z1 : H1.size = H.size + 1 := by rw [← hH1, Array.size_push]
  have e1 : H1[H.size]? = some (arrV cA n.toNatClampNeg (fun _ => .null)) := by rw [← hH1, Array.getElem?_push_size, ← arrV_new]
  have q1 : ∀ q : Nat, q < H.size → H1[q]? = H[q]? := fun q hq => by rw [← hH1, Array.getElem?_push, if_neg (Nat.ne_of_lt hq)]
  have hcA : cA = gC G t := by
    have h1 := (hK.2 t _ (gT_at ht)).2
    rw [hC] at h1
    obtain ⟨kA', comp', -, -, -, h2⟩ := h1
    exact Option.some.inj (f1.symm.trans h2)
  have e2 : ((.ref (mZ M) :: st).map (rho G)) = .ref H.size :: st.map (rho G) := by rw [hR.adr]; rfl
  have w2 := w H1 (hR.more z1 q1 ?_) (hS.more z1 q1)
  · rw [e2] at w2
    exact w2
  · rw [ent_A (t := t) (by rw [mK_nw, if_pos rfl]), ← hR.adr]
    show H1[H.size]? = some (vp_cell (gC G t) _)
    rw [e1, hcA]
    have ek : (mK (nw M (20 + t) (ix n)) (mZ M)).2 = n.toNatClampNeg := by rw [mK_nw, if_pos rfl]
    rw [ek]
    have z0 : (fun j => (mR (nw M (20 + t) (ix n)) (mZ M) j).map (adr G)) = fun _ => none := by funext j; rw [mR_nw, if_pos rfl]; rfl
    unfold arl
    rw [z0, if_neg (by omega), if_neg (by omega)]
    rfl
/-! returns -/
theorem EJ_iret (hr : Y.2.2.2 = some .int) {v : Int32} (dd : decode Y.2.1 pc = .ok (.ireturn, 1)) : EJ G Y cvI d pc lv [.int v] M (some (v, M)) := by
  intro r M' ho
  cases ho
  refine ⟨Nat.le_refl _, Nat.le_refl _, fun p e s m args below meth c R H locs cells slots ls hA hR hS hl hc hs => ?_⟩
  have hc : R.cells = cells := by omega
  have hs : R.slots = slots := by omega
  rw [hc, hs]
  exact W.iret hA.1 hA.2.1 (hA.2.2.2.2.2.2.2.2.1.trans hr) (fun t ht hW => ⟨rfl, by rw [ht]; exact hR, hS.F ht⟩) hS.2.2 dd hA.2.2.2.2.2.2.2.2.2.1
theorem EJ_zret (hr : Y.2.2.2 = some .boolean) {v : Int32} (hz : kZ v = true) (dd : decode Y.2.1 pc = .ok (.ireturn, 1)) : EJ G Y cvI d pc lv [.int v] M (some (v, M)) := by
  intro r M' ho
  cases ho
  have hx : v = 0 ∨ v = 1 := by simpa [kZ] using hz
  refine ⟨Nat.le_refl _, Nat.le_refl _, fun p e s m args below meth c R H locs cells slots ls hA hR hS hl hc hs => ?_⟩
  have hc : R.cells = cells := by omega
  have hs : R.slots = slots := by omega
  rw [hc, hs]
  exact W.zret hA.1 hA.2.1 (hA.2.2.2.2.2.2.2.2.1.trans hr) (by rcases hx with rfl | rfl <;> rfl) (fun t ht hW => ⟨rfl, by rw [ht]; exact hR, hS.F ht⟩) hS.2.2 dd hA.2.2.2.2.2.2.2.2.2.1
theorem EJ_lret (hr : Y.2.2.2 = some .long) {v : Int64} (dd : decode Y.2.1 pc = .ok (.lreturn, 1)) : EJ G Y cvL d pc lv [.long v] M (some (v, M)) := by
  intro r M' ho
  cases ho
  refine ⟨Nat.le_refl _, Nat.le_refl _, fun p e s m args below meth c R H locs cells slots ls hA hR hS hl hc hs => ?_⟩
  have hc : R.cells = cells := by omega
  have hs : R.slots = slots := by omega
  rw [hc, hs]
  exact W.lret hA.1 hA.2.1 (hA.2.2.2.2.2.2.2.2.1.trans hr) (fun t ht hW => ⟨rfl, by rw [ht]; exact hR, hS.F ht⟩) hS.2.2 dd hA.2.2.2.2.2.2.2.2.2.1
theorem EJ_vret (hr : Y.2.2.2 = none) (dd : decode Y.2.1 pc = .ok (.return_, 1)) : EJ G Y cvV d pc lv [] M (some ((), M)) := by
  intro r M' ho
  cases ho
  refine ⟨Nat.le_refl _, Nat.le_refl _, fun p e s m args below meth c R H locs cells slots ls hA hR hS hl hc hs => ?_⟩
  have hc : R.cells = cells := by omega
  have hs : R.slots = slots := by omega
  rw [hc, hs]
  exact W.vret hA.1 hA.2.1 (hA.2.2.2.2.2.2.2.2.1.trans hr) (fun t ht hW => ⟨rfl, by rw [ht]; exact hR, hS.F ht⟩) hS.2.2 dd hA.2.2.2.2.2.2.2.2.2.1
theorem EJ_aret {ty : FieldType} (hr : Y.2.2.2 = some (.array ty)) {v : Nat} (dd : decode Y.2.1 pc = .ok (.areturn, 1)) : EJ G Y cvR d pc lv [.ref v] M (some (v, M)) := by
  intro r M' ho
  cases ho
  refine ⟨Nat.le_refl _, Nat.le_refl _, fun p e s m args below meth c R H locs cells slots ls hA hR hS hl hc hs => ?_⟩
  have hc : R.cells = cells := by omega
  have hs : R.slots = slots := by omega
  rw [hc, hs]
  exact W.aret hA.1 hA.2.1 (hA.2.2.2.2.2.2.2.2.1.trans hr) (Or.inr ⟨_, rfl⟩) (Or.inr ⟨_, rfl⟩) (fun t ht hW => ⟨rfl, by rw [ht]; exact hR, hS.F ht⟩) hS.2.2 dd hA.2.2.2.2.2.2.2.2.2.1
/-! methods -/
def rmd (d c s : Nat) : Room := { frames := d, cells := c, slots := s, locals := 100 * d }
def Px (G : Gx) (as : List Value) (M : Mm) : Array Value → State → Prop := fun v U => v = (as.map (rho G)).toArray ∧ Rep G M U.heap ∧ va_K (gD G) vwCl (gT G) U ∧ Exh G U U.heap ∧ Exu G U ∧ gB G ≤ U.heap.size
def FnS (G : Gx) (Y : Ym) {ρ : Type} (cv : ρ → Option Value) (d : Nat) (as : List Value) (M : Mm) (o : Option (ρ × Mm)) : Prop :=
  ∀ r M', o = some (r, M') → mZ M ≤ mZ M' ∧ mS M ≤ mS M' ∧ Met (gl G) Y.1 (wsY Y) (rmd d (mZ M' - mZ M) (mS M' - mS M)) (Px G as M) (Qx G cv r M') (mZ M' - mZ M) (mS M' - mS M) (Aq G)
theorem lv_args_map (as : List Value) : ∀ i, lv_args i (as.map (rho G)) = (lv_args i as).map (fun q => (q.1, rho G q.2)) := by
  induction as with
  | nil => intro i; rfl
  | cons v vs ih =>
    intro i
    simp only [List.map_cons, lv_args, rho_cat]
    rw [ih]
theorem lg_sl_map (as : List Value) : (lg_sl (as.map (rho G))).length = (lg_sl as).length := by
  induction as with
  | nil => rfl
  | cons v vs ih =>
    simp only [lg_sl, List.map_cons, List.flatMap_cons, List.length_append, rho_cat] at ih ⊢
    rw [ih]
    split <;> rfl
theorem Px_blind (as : List Value) : FrameBlind (Px G as M) := by
  intro a U g mk h
  obtain ⟨h1, h2, h3, h4, h5, h6⟩ := h
  have ha : U.vm.Alike (U.calling g mk a).vm := Vm.Alike.refl U.vm
  exact ⟨h1, h2, h3.moved ha, Exh.moved (u := U) (U := U.calling g mk a) ha h4, Exu.same (s := U) (U := U.calling g mk a) rfl h5, h6⟩
theorem FnS.ofE {as : List Value} (hy : plainName Y.1.cls = true) (hlen : (lg_sl as).length ≤ Y.2.2.1) (h : EJ G Y cv d 0 (lv_args 0 as) [] M o) : FnS G Y cv d as M o := by
  intro r M' ho
  obtain ⟨h1, h2, k⟩ := h r M' ho
  refine ⟨h1, h2, Met.ofW (cc := Y.2.1) (maxL := Y.2.2.1) (ret := Y.2.2.2) hy rfl ?_⟩
  intro p e s m args below meth c s₁ B hml hv
  obtain ⟨rfl, hR, hK, hE, hEu, hB⟩ := hv
  have hts := atoms_spec (ws := wsY Y) B.pre
  have hown : s.vm.findClass Y.1.cls = some m.cls := findClass_of_methodNamed B.named
  have hl := lv_entry (as.map (rho G)) (n := Y.2.2.1) (by rw [lg_sl_map]; exact hlen)
  rw [lg_entry_eq]
  generalize (lg_sl (as.map (rho G)) ++ List.replicate (Y.2.2.1 - (lg_sl (as.map (rho G))).length) Slot.unset).toArray = ls at hl ⊢
  rw [lv_args_map] at hl
  have hA : Atx G Y d p s m ((as.map (rho G)).toArray) meth c (headSpec (wsY Y) (rmd d (mZ M' - mZ M) (mS M' - mS M))).room := ⟨B.exec, B.bytes, hml, hown, fun w hw => hts w (List.mem_cons_of_mem _ hw), hK, hE, hEu, B.returns, B.notSynchronized, (fun h => (name_of_methodNamed B.named B.method).1.trans h), Nat.le_refl _, Nat.le_refl _, hB⟩
  exact k p e s m _ below meth c (headSpec (wsY Y) (rmd d (mZ M' - mZ M) (mS M' - mS M))).room s.heap [] 0 0 ls hA hR va_S.rf hl (Nat.zero_add _) (Nat.zero_add _)
theorem FnS.mono {d2 : Nat} {as : List Value} (h : FnS G Y cv d as M o) (hE : d = d2) : FnS G Y cv d2 as M o := hE ▸ h
/-! calls -/
theorem gd_good {Y2 : Ym} (hc : Cond.code Y2.1 Y2.2.1 Y2.2.2.1 Y2.2.2.2 ∈ gd_tbl) : GoodIn gd_tbl (wsY Y2) := by
  intro w hw
  have h1 : w ∈ gd_tbl := by
    rcases List.mem_cons.mp hw with rfl | h
    · exact hc
    · exact h
  exact ⟨h1, good_of_word (List.mem_filter.mp h1).2⟩
theorem Px_at {p : Program} {s : State} {m : MethodId} {args : Array Value} {meth : Method} {c : Code} {R : Room} {H : Heap} {locs : List Loc} (hA : Atx G Y d p s m args meth c R) (hR : Rep G M H) (hS : va_S (Aq G) s.heap H locs) (as : List Value) (U : State) (hU : U.heap = H) (hW : s.WarmedH U.vm) : Px G as M ((as.map (rho G)).toArray) U := by
  obtain ⟨-, -, -, -, -, hK, hE, hEu, -, -, -, -, -, hB⟩ := hA
  refine ⟨rfl, by rw [hU]; exact hR, hK.moved hW.alike, ?_, hEu.warm hW, by rw [hU]; exact Nat.le_trans hB hS.1⟩
  rw [hU]
  exact (hE.moved hW.alike).kept hS.1 hS.2.1
theorem EJ_run {σ : Type} {cv1 : σ → Option Value} {q1 : Option (σ × Mm)} {k : σ → Mm → Option (ρ × Mm)} {rest : List Value} {a : Array Value} (hm : ∀ r1 M1, q1 = some (r1, M1) → mZ M ≤ mZ M1 ∧ mS M ≤ mS M1 ∧ ∀ (p : Program) (e : Env) (s : State) (m : MethodId) (args : Array Value) (below : List Frame) (meth : Method) (c : Code) (R : Room) (H : Heap) (locs : List Loc) (cells slots : Nat) (ls : Array Slot), Atx G Y d p s m args meth c R → Rep G M H → va_S (Aq G) s.heap H locs → lv_has ls Y.2.2.1 (lv.map (fun q => (q.1, rho G q.2))) → cells + (mZ M1 - mZ M) ≤ R.cells → slots + (mS M1 - mS M) ≤ R.slots → va_Run p (gl G) e R s m args below meth c H locs cells slots (mZ M1 - mZ M) (mS M1 - mS M) (F0 m pc ls (st.map (rho G))) (rest.map (rho G)) (Qx G cv1 r1 M1 a) (Aq G)) (kk : ∀ r1 M1, EJ G Y cv d (pc + 3) lv ((cv1 r1).toList ++ rest) M1 (k r1 M1)) : EJ G Y cv d pc lv st M (bd q1 k) := by
  intro r M' ho
  cases hq : q1 with
  | none => rw [hq] at ho; cases ho
  | some x =>
    obtain ⟨r1, M1⟩ := x
    rw [hq] at ho
    obtain ⟨a1, a2, run⟩ := hm r1 M1 hq
    obtain ⟨b1, b2, k2⟩ := kk r1 M1 r M' ho
    refine ⟨Nat.le_trans a1 b1, Nat.le_trans a2 b2, fun p e s m args below meth c R H locs cells slots ls hA hR hS hl hc hs => ?_⟩
    intro T hT X
    obtain ⟨v, st₀, t, T', L, h0, X', hL, e1, e2, ⟨hv, hR1, hF⟩, stp⟩ := run p e s m args below meth c R H locs cells slots ls hA hR hS hl (by omega) (by omega) T hT X
    cases hv
    have hS1 : va_S (Aq G) s.heap t.heap (locs ++ L) := by
      refine ⟨Nat.le_trans hS.1 (by rw [← h0]; exact hF.1), fun q h1 h2 => ?_, fun q hq => ?_⟩
      · rw [hF.2 q (by rw [h0]; exact Nat.lt_of_lt_of_le h1 hS.1) h2, h0]
        exact hS.2.1 q h1 h2
      · rcases List.mem_append.mp hq with h1 | h1
        · exact hS.2.2 q h1
        · exact hL q h1
    obtain ⟨t2, c1, c2⟩ := k2 p e s m args below meth c R t.heap (locs ++ L) (cells + (mZ M1 - mZ M)) (slots + (mS M1 - mS M)) ls hA hR1 hS1 hl (by omega) (by omega) T' e1 X'
    refine ⟨t2, stp t2 ?_, c2⟩
    have e3 : ((cv1 r1).map (rho G)).toList ++ rest.map (rho G) = ((cv1 r1).toList ++ rest).map (rho G) := by
      cases cv1 r1 <;> simp
    rw [e3]
    exact c1
theorem cat_sum (rest : List Value) : ((rest.map (rho G)).map fun v => v.category).sum = (rest.map fun v => v.category).sum := by
  rw [List.map_map]
  congr 1
  apply List.map_congr_left
  intro v _
  exact rho_cat G v
theorem EJ_callV {σ : Type} {cv1 : σ → Option Value} {q1 : Option (σ × Mm)} {k : σ → Mm → Option (ρ × Mm)} {Y2 : Ym} {d2 i n b c N : Nat} {C : String} {T : u_T} {ty : Nat → FieldType} {As rest : List Value} (cf : CFx c C T N ty) (hf : FnS G Y2 cv1 d2 (.ref b :: As) M q1) (hm : mK M b = (c, N)) (hst : st = As.reverse ++ .ref b :: rest) (dd : decode Y.2.1 pc = .ok (.invokevirtual i, 3))
    (w1 : Cond.methodLink Y.1.cls i Y2.1 ∈ gd_tbl) (w2 : Cond.instanceMethod Y2.1 ∈ gd_tbl) (w3 : Cond.selects C Y2.1 Y2.1 ∈ gd_tbl) (w4 : Cond.code Y2.1 Y2.2.1 Y2.2.2.1 Y2.2.2.2 ∈ gd_tbl)
    (hd : Y2.1.cls = C ∧ Y2.1.cls ≠ "java/lang/invoke/MethodHandle" ∧ Y2.1.cls ≠ "java/lang/invoke/VarHandle" ∧ (parseMethodDescriptor Y2.1.desc).map (fun d => d.parameters.length) = some n) (hn : As.length = n) (hroom : d2 + 1 ≤ d ∧ Y2.2.2.1 ≤ 81) (hW : (rest.map fun v => v.category).sum ≤ 8)
    (kk : ∀ r1 M1, EJ G Y cv d (pc + 3) lv ((cv1 r1).toList ++ rest) M1 (k r1 M1)) : EJ G Y cv d pc lv st M (bd q1 k) := by
  refine EJ_run (rest := rest) (a := ((.ref b :: As).map (rho G)).toArray) (fun r1 M1 hq => ?_) kk
  obtain ⟨a1, a2, hM⟩ := hf r1 M1 hq
  refine ⟨a1, a2, fun p e s m args below meth c0 R H locs cells slots ls hA hR hS hl hc hs => ?_⟩
  obtain ⟨f1, f2, f3, f4, f5, f6, f7, f8, f9⟩ := cf
  obtain ⟨hx, hb, hml, hown, hts, hK, hE, hEu, hr, hlk, hnm, hfr, hlo, hB⟩ := id hA
  have hcw : CallW R s args Y.1.cls C i Y2.1 Y2.2.1 Y2.2.2.1 Y2.2.2.2 (wsY Y2) (rmd d2 (mZ M1 - mZ M) (mS M1 - mS M)) (mZ M1 - mZ M) (mS M1 - mS M) n :=
    ⟨callB_of n hts (gd_good w4) rfl rfl rfl (hts _ (by rw [hd.1]; exact f9)) (hts _ w1) hd.2 ⟨by show d2 + 1 ≤ _; omega, by show 8 + (Y2.2.2.1 + 11) + 100 * d2 ≤ _; omega⟩, hts _ w2, hts _ w3⟩
  refine va_runV (As := As.map (rho G)) (rest := rest.map (rho G)) ⟨hx, hb, hml, hown, hts⟩ hM hcw ⟨Px_blind _, va_recv hK hR.2.2.1 f1 (hR.obj hm f2), fun U hU hW => ?_⟩ rfl (by rw [List.length_map]; exact hn) hl.1 ?_ ?_ dd ⟨hc, hs⟩
  · exact Px_at hA hR hS (.ref b :: As) U hU hW
  · show st.map (rho G) = _
    rw [hst]
    simp [rho]
  · exact lv_room (by rw [cat_sum]; exact hW)
theorem EJ_callI {σ : Type} {cv1 : σ → Option Value} {q1 : Option (σ × Mm)} {k : σ → Mm → Option (ρ × Mm)} {Y2 : Ym} {d2 i n b : Nat} {As rest : List Value} (hf : FnS G Y2 cv1 d2 (.ref b :: As) M q1) (hst : st = As.reverse ++ .ref b :: rest) (dd : decode Y.2.1 pc = .ok (.invokespecial i, 3)) (hret : Y2.2.2.2 = none)
    (w1 : Cond.methodLink Y.1.cls i Y2.1 ∈ gd_tbl) (w2 : Cond.instanceMethod Y2.1 ∈ gd_tbl) (w3 : Cond.initialized Y2.1.cls ∈ gd_tbl) (w4 : Cond.code Y2.1 Y2.2.1 Y2.2.2.1 Y2.2.2.2 ∈ gd_tbl) (hini : Y2.1.name = "<init>")
    (hd : Y2.1.cls ≠ "java/lang/invoke/MethodHandle" ∧ Y2.1.cls ≠ "java/lang/invoke/VarHandle" ∧ (parseMethodDescriptor Y2.1.desc).map (fun d => d.parameters.length) = some n) (hn : As.length = n) (hroom : d2 + 1 ≤ d ∧ Y2.2.2.1 ≤ 81) (hW : (rest.map fun v => v.category).sum ≤ 8)
    (kk : ∀ r1 M1, EJ G Y cv d (pc + 3) lv ((cv1 r1).toList ++ rest) M1 (k r1 M1)) : EJ G Y cv d pc lv st M (bd q1 k) := by
  refine EJ_run (rest := rest) (a := ((.ref b :: As).map (rho G)).toArray) (fun r1 M1 hq => ?_) kk
  obtain ⟨a1, a2, hM⟩ := hf r1 M1 hq
  refine ⟨a1, a2, fun p e s m args below meth c0 R H locs cells slots ls hA hR hS hl hc hs => ?_⟩
  obtain ⟨hx, hb, hml, hown, hts, hK, hE, hEu, hr, hlk, hnm, hfr, hlo, hB⟩ := id hA
  have hw0 : wsY Y2 = Cond.code Y2.1 Y2.2.1 Y2.2.2.1 none :: gd_tbl := by unfold wsY; rw [hret]
  refine va_runI (bytes := Y2.2.1) (maxL := Y2.2.2.1) (As := As.map (rho G)) (rest := rest.map (rho G)) ⟨hx, hb, hml, hown, hts⟩ hM (cwI n hts (gd_good w4) hw0 rfl rfl (hts _ w3) (hts _ w1) (hts _ w2) hini hd ⟨by show d2 + 1 ≤ _; omega, by show 8 + (Y2.2.2.1 + 11) + 100 * d2 ≤ _; omega⟩) ⟨Px_blind _, fun U hU hW => ?_⟩ rfl (by rw [List.length_map]; exact hn) hl.1 ?_ ?_ dd ⟨hc, hs⟩
  · exact Px_at hA hR hS (.ref b :: As) U hU hW
  · show st.map (rho G) = _
    rw [hst]
    simp [rho]
  · exact lv_room (by rw [cat_sum]; exact hW)
theorem EJ_callS {σ : Type} {cv1 : σ → Option Value} {q1 : Option (σ × Mm)} {k : σ → Mm → Option (ρ × Mm)} {Y2 : Ym} {d2 i n : Nat} {As rest : List Value} (hf : FnS G Y2 cv1 d2 As M q1) (hst : st = As.reverse ++ rest) (dd : decode Y.2.1 pc = .ok (.invokestatic i, 3))
    (w1 : Cond.methodLink Y.1.cls i Y2.1 ∈ gd_tbl) (w2 : Cond.static Y2.1 ∈ gd_tbl) (w3 : Cond.initialized Y2.1.cls ∈ gd_tbl) (w4 : Cond.code Y2.1 Y2.2.1 Y2.2.2.1 Y2.2.2.2 ∈ gd_tbl)
    (hd : Y2.1.cls ≠ "java/lang/invoke/MethodHandle" ∧ Y2.1.cls ≠ "java/lang/invoke/VarHandle" ∧ (parseMethodDescriptor Y2.1.desc).map (fun d => d.parameters.length) = some n) (hn : As.length = n) (hroom : d2 + 1 ≤ d ∧ Y2.2.2.1 ≤ 81) (hW : (rest.map fun v => v.category).sum ≤ 8)
    (kk : ∀ r1 M1, EJ G Y cv d (pc + 3) lv ((cv1 r1).toList ++ rest) M1 (k r1 M1)) : EJ G Y cv d pc lv st M (bd q1 k) := by
  refine EJ_run (rest := rest) (a := (As.map (rho G)).toArray) (fun r1 M1 hq => ?_) kk
  obtain ⟨a1, a2, hM⟩ := hf r1 M1 hq
  refine ⟨a1, a2, fun p e s m args below meth c0 R H locs cells slots ls hA hR hS hl hc hs => ?_⟩
  obtain ⟨hx, hb, hml, hown, hts, hK, hE, hEu, hr, hlk, hnm, hfr, hlo, hB⟩ := id hA
  refine va_runS (bytes := Y2.2.1) (maxL := Y2.2.2.1) (ret := Y2.2.2.2) (As := As.map (rho G)) (rest := rest.map (rho G)) ⟨hx, hb, hml, hown, hts⟩ hM ⟨callB_of n hts (gd_good w4) rfl rfl rfl (hts _ w3) (hts _ w1) hd ⟨by show d2 + 1 ≤ _; omega, by show 8 + (Y2.2.2.1 + 11) + 100 * d2 ≤ _; omega⟩, hts _ w2⟩ ⟨Px_blind _, fun U hU hW => ?_⟩ rfl (by rw [List.length_map]; exact hn) hl.1 ?_ ?_ dd ⟨hc, hs⟩
  · exact Px_at hA hR hS As U hU hW
  · show st.map (rho G) = _
    rw [hst]
    simp
  · exact lv_room (by rw [cat_sum]; exact hW)
theorem EJ_callN {σ : Type} {cv1 : σ → Option Value} {q1 : Option (σ × Mm)} {k : σ → Mm → Option (ρ × Mm)} {Y2 : Ym} {d2 i n : Nat} {host : String} {As rest : List Value} (hf : FnS G Y2 cv1 d2 As M q1) (hst : st = As.reverse ++ rest) (dd : decode Y.2.1 pc = .ok (.invokestatic i, 3))
    (w1 : ∀ U, Exu G U → va_Nw (.methodLinkNest Y.1.cls i Y2.1 host) U) (w2 : Cond.static Y2.1 ∈ gd_tbl) (w3 : Cond.initialized Y2.1.cls ∈ gd_tbl) (w4 : Cond.code Y2.1 Y2.2.1 Y2.2.2.1 Y2.2.2.2 ∈ gd_tbl)
    (hd : Y2.1.cls ≠ "java/lang/invoke/MethodHandle" ∧ Y2.1.cls ≠ "java/lang/invoke/VarHandle" ∧ (parseMethodDescriptor Y2.1.desc).map (fun d => d.parameters.length) = some n) (hn : As.length = n) (hroom : d2 + 1 ≤ d ∧ Y2.2.2.1 ≤ 81) (hW : (rest.map fun v => v.category).sum ≤ 8)
    (kk : ∀ r1 M1, EJ G Y cv d (pc + 3) lv ((cv1 r1).toList ++ rest) M1 (k r1 M1)) : EJ G Y cv d pc lv st M (bd q1 k) := by
  refine EJ_run (rest := rest) (a := (As.map (rho G)).toArray) (fun r1 M1 hq => ?_) kk
  obtain ⟨a1, a2, hM⟩ := hf r1 M1 hq
  refine ⟨a1, a2, fun p e s m args below meth c0 R H locs cells slots ls hA hR hS hl hc hs => ?_⟩
  obtain ⟨hx, hb, hml, hown, hts, hK, hE, hEu, hr, hlk, hnm, hfr, hlo, hB⟩ := id hA
  refine va_runSN (bytes := Y2.2.1) (maxL := Y2.2.2.1) (ret := Y2.2.2.2) (As := As.map (rho G)) (rest := rest.map (rho G)) ⟨hx, hb, hml, hown, hts⟩ hM ⟨va_cnB n hts (gd_good w4) rfl rfl rfl (w1 s hEu) (hts _ w3) hd ⟨by show d2 + 1 ≤ _; omega, by show 8 + (Y2.2.2.1 + 11) + 100 * d2 ≤ _; omega⟩, hts _ w2, trivial⟩ ⟨Px_blind _, fun U hU hW => ?_⟩ rfl (by rw [List.length_map]; exact hn) hl.1 ?_ ?_ dd ⟨hc, hs⟩
  · exact Px_at hA hR hS As U hU hW
  · show st.map (rho G) = _
    rw [hst]
    simp
  · exact lv_room (by rw [cat_sum]; exact hW)
/-- Object's constructor -/
theorem EJ_obj (pc2 : Nat) {i a : Nat} (dd : decode Y.2.1 pc = .ok (.invokespecial i, 3)) (hp : pc + 3 = pc2) (w1 : Cond.methodLink Y.1.cls i Lib.objectInit ∈ gd_tbl) (w2 : Cond.instanceMethod Lib.objectInit ∈ gd_tbl) (w4 : Cond.code Lib.objectInit ⟨#[0xb1]⟩ 1 none ∈ gd_tbl) (hroom : 1 ≤ d) (hW : (st.map fun v => v.category).sum ≤ 8) (kk : EJ G Y cv d pc2 lv st M o) : EJ G Y cv d pc lv (.ref a :: st) M o := by
  subst hp
  refine EJ_step (fun p e s m args below meth c R H locs cells slots ls Q hA hR hS hl w => ?_) kk
  obtain ⟨hx, hb, hml, hown, hts, hK, hE, hEu, hr, hlk, hnm, hfr, hlo, hB⟩ := id hA
  refine W.objInit hx hb hown (hts _ w1) (hts _ w2) (hts _ w4) rfl (by rw [hml]; exact hl.1) rfl dd (by omega) ?_ w
  have h8 : 2 * (F0 m pc ls ((.ref a :: st).map (rho G))).monitorRoom + ((st.map (rho G)).map fun v => v.category).sum ≤ 8 := lv_room (by rw [cat_sum]; exact hW)
  omega
end EJ4
