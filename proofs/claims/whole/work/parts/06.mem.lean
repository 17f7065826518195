/-! rows of fields, arrays, new objects, returns and calls -/
def okT : FieldType → Bool
  | .int => true
  | .boolean => true
  | .long => true
  | .object _ => true
  | .array _ => true
  | _ => false
/-- what is known of class c -/
def CFx (c : Nat) (C : String) (T : u_T) (N : Nat) (ty : Nat → FieldType) : Prop :=
  vwCl[c]? = some (C, T, N) ∧ c < 20 ∧ (∀ w ∈ u_ws C T N, w ∈ gd_tbl) ∧ (∀ k, k < N → parseFieldDescriptor (T k).2.2.1 = some (ty k)) ∧ (∀ a, a < N → ∀ b, b < N → a ≠ b → (T a).2.1 ≠ (T b).2.1) ∧ tyc c = ty ∧ (∀ k, k < N → (T k).1 = C ∧ okT (ty k) = true) ∧ Cond.instantiable C N ∈ gd_tbl ∧ Cond.initialized C ∈ gd_tbl
section EJ3
variable {G : Gx} {Y : Ym} {ρ : Type} {cv : ρ → Option Value} {d pc : Nat} {lv : List (Nat × Value)} {st : List Value} {M : Mm} {o o1 o2 : Option (ρ × Mm)}
theorem fsl_get {a c N k : Nat} (hk : k < N) : (fsl G M a c N)[k]? = some (fvl G M a k (tyc c k)) := by
  unfold fsl
  rw [List.getElem?_map, List.getElem?_range hk]
  rfl
theorem Rep.obj {H : Heap} (h : Rep G M H) {a c N : Nat} (hm : mK M a = (c, N)) (hc : c < 20) : (wsO G M)[a - 8]? = some (adr G a, .inr (c, fsl G M a c N)) := by
  obtain ⟨-, -, h3⟩ := h.at (a := a) (by rw [hm]; show c ≠ 99; omega)
  rw [h3, ent_O hm hc]
theorem Rep.arr {H : Heap} (h : Rep G M H) {a t : Nat} (hm : (mK M a).1 = 20 + t) (ht : t < 70) : (wsO G M)[a - 8]? = some (adr G a, .inl (gC G t, (mK M a).2, arl G M a t)) := by
  obtain ⟨-, -, h3⟩ := h.at (a := a) (by rw [hm]; omega)
  rw [h3, ent_A hm]
theorem EJ_get {c N a : Nat} {C : String} {T : u_T} {ty : Nat → FieldType} (cf : CFx c C T N ty) (k : Nat) (hk : k < N) (pc2 : Nat) {i : Nat} {v : Value} (hw : Cond.fieldLink Y.1.cls i C (T k).2.1 (T k).2.2.1 ∈ gd_tbl) (hv : fvl G M a k (ty k) = rho G v) (dd : decode Y.2.1 pc = .ok (.getfield i, 3)) (hp : pc + 3 = pc2) (hm : mK M a = (c, N)) (kk : EJ G Y cv d pc2 lv (v :: st) M o) : EJ G Y cv d pc lv (.ref a :: st) M o := by
  subst hp
  obtain ⟨f1, f2, f3, f4, f5, f6, f7, f8, f9⟩ := cf
  refine EJ_step (fun p e s m args below meth c0 R H locs cells slots ls Q hA hR hS hl w => ?_) kk
  refine va_get (C := C) (T := T) (N := N) (ref := C) hA.1 hA.2.1 hA.2.2.2.2.1 f3 hA.2.2.2.1 hA.2.2.2.2.2.1 hR.2.2.1 (a - 8) (hR.obj hm f2) f1 k hk (hA.2.2.2.2.1 _ hw) ?_ ?_ dd w
  · rw [(f7 k hk).1]; exact fun _ h => h
  · rw [fsl_get hk, f6, hv]
theorem EJ_getI {c N a : Nat} {C : String} {T : u_T} {ty : Nat → FieldType} (cf : CFx c C T N ty) (k : Nat) (hk : k < N) (pc2 : Nat) {i : Nat} (hw : Cond.fieldLink Y.1.cls i C (T k).2.1 (T k).2.2.1 ∈ gd_tbl) (hv : ∀ G M a, fvl G M a k (ty k) = .int (mI M a k)) (dd : decode Y.2.1 pc = .ok (.getfield i, 3)) (hp : pc + 3 = pc2) (hm : mK M a = (c, N)) (kk : EJ G Y cv d pc2 lv (.int (mI M a k) :: st) M o) : EJ G Y cv d pc lv (.ref a :: st) M o :=
  EJ_get cf k hk pc2 (v := .int (mI M a k)) hw (hv G M a) dd hp hm kk
theorem EJ_getL {c N a : Nat} {C : String} {T : u_T} {ty : Nat → FieldType} (cf : CFx c C T N ty) (k : Nat) (hk : k < N) (pc2 : Nat) {i : Nat} (hw : Cond.fieldLink Y.1.cls i C (T k).2.1 (T k).2.2.1 ∈ gd_tbl) (hv : ∀ G M a, fvl G M a k (ty k) = .long (mL M a k)) (dd : decode Y.2.1 pc = .ok (.getfield i, 3)) (hp : pc + 3 = pc2) (hm : mK M a = (c, N)) (kk : EJ G Y cv d pc2 lv (.long (mL M a k) :: st) M o) : EJ G Y cv d pc lv (.ref a :: st) M o :=
  EJ_get cf k hk pc2 (v := .long (mL M a k)) hw (hv G M a) dd hp hm kk
/-- a field that holds a reference: null says nothing -/
theorem EJ_getR {c N a : Nat} {C : String} {T : u_T} {ty : Nat → FieldType} (cf : CFx c C T N ty) (k : Nat) (hk : k < N) (pc2 : Nat) {i : Nat} {kk : Nat → Option (ρ × Mm)} (hw : Cond.fieldLink Y.1.cls i C (T k).2.1 (T k).2.2.1 ∈ gd_tbl) (hv : ∀ G M a, fvl G M a k (ty k) = va_rf ((mR M a k).map (adr G))) (dd : decode Y.2.1 pc = .ok (.getfield i, 3)) (hp : pc + 3 = pc2) (hm : mK M a = (c, N)) (kk2 : ∀ b, EJ G Y cv d pc2 lv (.ref b :: st) M (kk b)) : EJ G Y cv d pc lv (.ref a :: st) M (nn (mR M a k) kk) :=
  EJ_nn (fun b hb => EJ_get cf k hk pc2 (v := .ref b) hw ((hv G M a).trans (by rw [hb]; rfl)) dd hp hm (kk2 b))
/-- a field that holds a reference or null -/
theorem EJ_getN {c N a : Nat} {C : String} {T : u_T} {ty : Nat → FieldType} (cf : CFx c C T N ty) (k : Nat) (hk : k < N) (pc2 : Nat) {i : Nat} {k0 : Option (ρ × Mm)} {kk : Nat → Option (ρ × Mm)} (hw : Cond.fieldLink Y.1.cls i C (T k).2.1 (T k).2.2.1 ∈ gd_tbl) (hv : ∀ G M a, fvl G M a k (ty k) = va_rf ((mR M a k).map (adr G))) (dd : decode Y.2.1 pc = .ok (.getfield i, 3)) (hp : pc + 3 = pc2) (hm : mK M a = (c, N)) (kk0 : EJ G Y cv d pc2 lv (.null :: st) M k0) (kk2 : ∀ b, EJ G Y cv d pc2 lv (.ref b :: st) M (kk b)) : EJ G Y cv d pc lv (.ref a :: st) M (nl (mR M a k) k0 kk) := by
  cases hb : mR M a k with
  | none => exact EJ_get cf k hk pc2 (v := .null) hw ((hv G M a).trans (by rw [hb]; rfl)) dd hp hm kk0
  | some b => exact EJ_get cf k hk pc2 (v := .ref b) hw ((hv G M a).trans (by rw [hb]; rfl)) dd hp hm (kk2 b)
/-- the world behind a store in a field -/
theorem fsl_set {M2 : Mm} {a c N k : Nat} {v : Value} (hk : fvl G M2 a k (tyc c k) = v) (ho : ∀ j, j ≠ k → fvl G M2 a j (tyc c j) = fvl G M a j (tyc c j)) : (fsl G M a c N).set k v = fsl G M2 a c N := map_set hk ho
theorem EJ_put {c N a : Nat} {C : String} {T : u_T} {ty : Nat → FieldType} (cf : CFx c C T N ty) (k : Nat) (hk : k < N) (pc2 : Nat) {i : Nat} {v : Value} (hw : Cond.fieldLink Y.1.cls i C (T k).2.1 (T k).2.2.1 ∈ gd_tbl) (M2 : Mm) (hn : narrow (ty k) (rho G v) = rho G v) (hf : fits (ty k) (rho G v) = true) (hfin : (T k).2.2.2 = false ∨ (Y.1.name = "<init>" ∧ Y.1.cls = C)) (hv : fvl G M2 a k (ty k) = rho G v) (ho : ∀ j, j ≠ k → fvl G M2 a j (ty j) = fvl G M a j (ty j)) (ho2 : ∀ b, b ≠ a → ent G M2 b = ent G M b) (hZ : mZ M2 = mZ M) (hSs : mS M2 = mS M) (hKs : mK M2 = mK M) (dd : decode Y.2.1 pc = .ok (.putfield i, 3)) (hp : pc + 3 = pc2) (hm : mK M a = (c, N)) (kk : EJ G Y cv d pc2 lv st M2 o) : EJ G Y cv d pc lv (v :: .ref a :: st) M o := by
  subst hp
  obtain ⟨f1, f2, f3, f4, f5, f6, f7, f8, f9⟩ := cf
  refine EJ_mem hZ hSs (fun p e s m args below meth c0 R H locs cells slots ls Q hA hR hS w => ?_) kk
  obtain ⟨hx, hb, hml, hown, hts, hK, -, -, -, -, hname, -⟩ := hA
  have he := hR.obj hm f2
  have hP := hR.2.2.1
  have hD := wsO_D G M
  have hap := va_apart (own := Y.1.cls) hts f3 ty f4 f5 hK f1
  obtain ⟨r, h1, cell, q1, q2, q3, q4⟩ := hP _ _ he
  have hr : r = (C, T, N) := Option.some.inj (h1.symm.trans f1)
  subst hr
  obtain ⟨hSl, hfc, kC, hkC, hkind⟩ := hK.1 c _ f1
  obtain ⟨cf0, kf, fi, f, hi, hsl⟩ := hSl k hk
  have hlay := hts _ (f3 _ (u_in_lay hk))
  have hst := (u_facts hfc hkC (u_lays hts f3 hk) hi).1
  have hi2 : s.fieldFound? C (T k).2.1 (T k).2.2.1 = some (cf0, kf, fi, f) := by rw [← (f7 k hk).1]; exact hi
  have hlen : k < (fsl G M a c N).length := by unfold fsl; simpa using hk
  have fin : ∀ H' : Heap, H'[adr G a]? = some (cell.setSlot f.slot (rho G v)) → H'.size = H.size → (∀ q, q ≠ adr G a → H'[q]? = H[q]?) → W p (gl G) e R s m args below meth c0 H' (locs ++ [⟨adr G a, f.slot⟩]) cells slots Q { F0 m pc ls ((v :: .ref a :: st).map (rho G)) with pc := pc + 3, stack := st.map (rho G) } := by
    intro H' e1 e2 e3
    rw [hsl] at e1 ⊢
    have hP2 := hP.set hD he (e := .inr (c, (fsl G M a c N).set k (rho G v))) ⟨_, f1, t_OB.to (V := updV (vp_V (fsl G M a c N)) k (rho G v)) ⟨_, e1, q2, q3, t_set q4 hap hk (rho G v)⟩ (fun j _ => vp_updV_set hlen (rho G v) j)⟩ e3
    rw [fsl_set (M2 := M2) (by rw [f6]; exact hv) (by rw [f6]; exact ho), ← ent_O (G := G) (M := M2) (a := a) (by rw [hKs]; exact hm) f2] at hP2
    exact w H' _ (hR.put (by rw [hm]; show c ≠ 99; omega) hZ hKs e2 hP2 ho2) (hS.put e2 e3 (hD.2 _ _ he))
  by_cases hfn : (T k).2.2.2 = true
  · obtain ⟨hni, hco⟩ : Y.1.name = "<init>" ∧ Y.1.cls = C := by
      rcases hfin with q | q
      · rw [q] at hfn; cases hfn
      · exact q
    unfold u_lay at hlay
    rw [if_pos hfn] at hlay
    have hcf : m.cls = cf0 := by
      obtain ⟨_, _, c', _, _, _, -, -, hf', -, -, -, hown2, -⟩ := Cond.laysFinal_spec hlay
      have e1 : c' = cf0 := by have := hi.symm.trans hf'; simp at this; exact this.1.symm
      rw [(f7 k hk).1, ← hco] at hown2
      rw [← e1]; exact Option.some.inj (hown.symm.trans hown2)
    have h6 := u_fits hfc hkC hkind (Or.inr hlay) hi (f4 k hk) hn hf
    exact W.putFinK hx hb hown (hts _ hw) hi2 hst hcf (hname hni) (by rw [q2]; exact h6) q1 q3 (by rw [hsl]; exact k2_hasslot (q4 k hk)) rfl rfl dd fin
  · unfold u_lay at hlay
    rw [if_neg hfn] at hlay
    have h6 := u_store hfc hkC hkind hlay hi (f4 k hk) hn hf
    exact W.putK hx hb (f := f) ⟨hown, hts _ hw, ⟨_, _, _, hi2⟩, hst⟩ (by rw [q2]; exact h6) q1 q3 (by rw [hsl]; exact k2_hasslot (q4 k hk)) rfl rfl dd fin
theorem fvl_sI {a k j : Nat} {x : Int32} (t : FieldType) (h : j ≠ k) : fvl G (sI M a k x) a j t = fvl G M a j t := by
  cases t <;> simp only [fvl, mI_sI, mL_sI, mR_sI, h, and_false, if_false]
theorem fvl_sL {a k j : Nat} {x : Int64} (t : FieldType) (h : j ≠ k) : fvl G (sL M a k x) a j t = fvl G M a j t := by
  cases t <;> simp only [fvl, mI_sL, mL_sL, mR_sL, h, and_false, if_false]
theorem fvl_sR {a k j : Nat} {x : Option Nat} (t : FieldType) (h : j ≠ k) : fvl G (sR M a k x) a j t = fvl G M a j t := by
  cases t <;> simp only [fvl, mI_sR, mL_sR, mR_sR, h, and_false, if_false]
theorem ent_sI {a k b : Nat} {x : Int32} (h : b ≠ a) : ent G (sI M a k x) b = ent G M b := ent_cong (fun j => by rw [mI_sI, if_neg (fun q => h q.1)]) (fun _ => rfl) (fun _ => rfl) rfl
theorem ent_sL {a k b : Nat} {x : Int64} (h : b ≠ a) : ent G (sL M a k x) b = ent G M b := ent_cong (fun _ => rfl) (fun j => by rw [mL_sL, if_neg (fun q => h q.1)]) (fun _ => rfl) rfl
theorem ent_sR {a k b : Nat} {x : Option Nat} (h : b ≠ a) : ent G (sR M a k x) b = ent G M b := ent_cong (fun _ => rfl) (fun _ => rfl) (fun j => by rw [mR_sR, if_neg (fun q => h q.1)]) rfl
theorem EJ_putI {c N a : Nat} {C : String} {T : u_T} {ty : Nat → FieldType} (cf : CFx c C T N ty) (k : Nat) (hk : k < N) (pc2 : Nat) {i : Nat} {x : Int32} (hw : Cond.fieldLink Y.1.cls i C (T k).2.1 (T k).2.2.1 ∈ gd_tbl) (ht : ty k = .int) (hfin : (T k).2.2.2 = false ∨ (Y.1.name = "<init>" ∧ Y.1.cls = C)) (dd : decode Y.2.1 pc = .ok (.putfield i, 3)) (hp : pc + 3 = pc2) (hm : mK M a = (c, N)) (kk : EJ G Y cv d pc2 lv st (sI M a k x) o) : EJ G Y cv d pc lv (.int x :: .ref a :: st) M o :=
  EJ_put cf k hk pc2 hw (sI M a k x) (by rw [ht]; rfl) (by rw [ht]; rfl) hfin (by rw [ht]; show Value.int (mI (sI M a k x) a k) = _; rw [mI_sI, if_pos ⟨rfl, rfl⟩]; rfl) (fun j hj => fvl_sI _ hj) (fun b hb => ent_sI hb) rfl rfl rfl dd hp hm kk
theorem EJ_putZ {c N a : Nat} {C : String} {T : u_T} {ty : Nat → FieldType} (cf : CFx c C T N ty) (k : Nat) (hk : k < N) (pc2 : Nat) {i : Nat} {x : Int32} (hw : Cond.fieldLink Y.1.cls i C (T k).2.1 (T k).2.2.1 ∈ gd_tbl) (ht : ty k = .boolean) (hfin : (T k).2.2.2 = false ∨ (Y.1.name = "<init>" ∧ Y.1.cls = C)) (hz : kZ x = true) (dd : decode Y.2.1 pc = .ok (.putfield i, 3)) (hp : pc + 3 = pc2) (hm : mK M a = (c, N)) (kk : EJ G Y cv d pc2 lv st (sI M a k x) o) : EJ G Y cv d pc lv (.int x :: .ref a :: st) M o := by
  have hx : x = 0 ∨ x = 1 := by simpa [kZ] using hz
  refine EJ_put cf k hk pc2 hw (sI M a k x) ?_ ?_ hfin (by rw [ht]; show Value.int (mI (sI M a k x) a k) = _; rw [mI_sI, if_pos ⟨rfl, rfl⟩]; rfl) (fun j hj => fvl_sI _ hj) (fun b hb => ent_sI hb) rfl rfl rfl dd hp hm kk
  · rw [ht]; rcases hx with rfl | rfl <;> rfl
  · rw [ht]; rcases hx with rfl | rfl <;> rfl
theorem EJ_putL {c N a : Nat} {C : String} {T : u_T} {ty : Nat → FieldType} (cf : CFx c C T N ty) (k : Nat) (hk : k < N) (pc2 : Nat) {i : Nat} {x : Int64} (hw : Cond.fieldLink Y.1.cls i C (T k).2.1 (T k).2.2.1 ∈ gd_tbl) (ht : ty k = .long) (hfin : (T k).2.2.2 = false ∨ (Y.1.name = "<init>" ∧ Y.1.cls = C)) (dd : decode Y.2.1 pc = .ok (.putfield i, 3)) (hp : pc + 3 = pc2) (hm : mK M a = (c, N)) (kk : EJ G Y cv d pc2 lv st (sL M a k x) o) : EJ G Y cv d pc lv (.long x :: .ref a :: st) M o :=
  EJ_put cf k hk pc2 hw (sL M a k x) (by rw [ht]; rfl) (by rw [ht]; rfl) hfin (by rw [ht]; show Value.long (mL (sL M a k x) a k) = _; rw [mL_sL, if_pos ⟨rfl, rfl⟩]; rfl) (fun j hj => fvl_sL _ hj) (fun b hb => ent_sL hb) rfl rfl rfl dd hp hm kk
theorem EJ_putR {c N a : Nat} {C : String} {T : u_T} {ty : Nat → FieldType} (cf : CFx c C T N ty) (k : Nat) (hk : k < N) (pc2 : Nat) {i : Nat} {b : Nat} (hw : Cond.fieldLink Y.1.cls i C (T k).2.1 (T k).2.2.1 ∈ gd_tbl) (hv : ∀ G M a, fvl G M a k (ty k) = va_rf ((mR M a k).map (adr G))) (hn : ∀ b, narrow (ty k) (.ref b) = .ref b) (hf : ∀ b, fits (ty k) (.ref b) = true) (hfin : (T k).2.2.2 = false ∨ (Y.1.name = "<init>" ∧ Y.1.cls = C)) (dd : decode Y.2.1 pc = .ok (.putfield i, 3)) (hp : pc + 3 = pc2) (hm : mK M a = (c, N)) (kk : EJ G Y cv d pc2 lv st (sR M a k (some b)) o) : EJ G Y cv d pc lv (.ref b :: .ref a :: st) M o :=
  EJ_put cf k hk pc2 hw (sR M a k (some b)) (hn _) (hf _) hfin (by rw [hv, mR_sR, if_pos ⟨rfl, rfl⟩]; rfl) (fun j hj => fvl_sR _ hj) (fun b hb => ent_sR hb) rfl rfl rfl dd hp hm kk
theorem EJ_putN {c N a : Nat} {C : String} {T : u_T} {ty : Nat → FieldType} (cf : CFx c C T N ty) (k : Nat) (hk : k < N) (pc2 : Nat) {i : Nat} (hw : Cond.fieldLink Y.1.cls i C (T k).2.1 (T k).2.2.1 ∈ gd_tbl) (hv : ∀ G M a, fvl G M a k (ty k) = va_rf ((mR M a k).map (adr G))) (hn : narrow (ty k) .null = .null) (hf : fits (ty k) .null = true) (hfin : (T k).2.2.2 = false ∨ (Y.1.name = "<init>" ∧ Y.1.cls = C)) (dd : decode Y.2.1 pc = .ok (.putfield i, 3)) (hp : pc + 3 = pc2) (hm : mK M a = (c, N)) (kk : EJ G Y cv d pc2 lv st (sR M a k none) o) : EJ G Y cv d pc lv (.null :: .ref a :: st) M o :=
  EJ_put cf k hk pc2 hw (sR M a k none) hn hf hfin (by rw [hv, mR_sR, if_pos ⟨rfl, rfl⟩]; rfl) (fun j hj => fvl_sR _ hj) (fun b hb => ent_sR hb) rfl rfl rfl dd hp hm kk
/-! arrays -/
theorem kA_spec {a t : Nat} {i : Int32} (h : kA M a t i = true) : (mK M a).1 = t ∧ vp_in i (mK M a).2 := by
  simp only [kA, Bool.and_eq_true, decide_eq_true_eq] at h
  refine ⟨h.1, fun q => ?_⟩
  rcases q with q | q
  · exact absurd q (Int32.not_lt.mpr h.2.1)
  · omega
theorem EJ_iald (pc2 : Nat) {a : Nat} {i : Int32} (hk : kA M a 20 i = true) (dd : decode Y.2.1 pc = .ok (.iaload, 1)) (hp : pc + 1 = pc2) (kk : EJ G Y cv d pc2 lv (.int (mI M a (ix i)) :: st) M o) : EJ G Y cv d pc lv (.int i :: .ref a :: st) M o := by
  subst hp
  obtain ⟨h1, h2⟩ := kA_spec hk
  exact EJ_step (fun p e s m args below meth c0 R H locs cells slots ls Q hA hR hS hl w => va_iald hA.1 hA.2.1 hA.2.2.2.2.2.1 hR.2.2.1 (a - 8) 0 (cA := gC G 0) (n := (mK M a).2) (f := mI M a) (hR.arr (t := 0) h1 (by decide)) rfl h2 dd w) kk
theorem EJ_bald (pc2 : Nat) {a : Nat} {i : Int32} (hk : kA M a 21 i = true) (dd : decode Y.2.1 pc = .ok (.baload, 1)) (hp : pc + 1 = pc2) (kk : EJ G Y cv d pc2 lv (.int (mI M a (ix i)) :: st) M o) : EJ G Y cv d pc lv (.int i :: .ref a :: st) M o := by
  subst hp
  obtain ⟨h1, h2⟩ := kA_spec hk
  exact EJ_step (fun p e s m args below meth c0 R H locs cells slots ls Q hA hR hS hl w => va_bald hA.1 hA.2.1 hA.2.2.2.2.2.1 hR.2.2.1 (a - 8) 1 (cA := gC G 1) (n := (mK M a).2) (f := mI M a) (hR.arr (t := 1) h1 (by decide)) rfl h2 dd w) kk
theorem EJ_zald (pc2 : Nat) {a : Nat} {i : Int32} (hk : kA M a 22 i = true) (dd : decode Y.2.1 pc = .ok (.baload, 1)) (hp : pc + 1 = pc2) (kk : EJ G Y cv d pc2 lv (.int (mI M a (ix i)) :: st) M o) : EJ G Y cv d pc lv (.int i :: .ref a :: st) M o := by
  subst hp
  obtain ⟨h1, h2⟩ := kA_spec hk
  exact EJ_step (fun p e s m args below meth c0 R H locs cells slots ls Q hA hR hS hl w => va_zald hA.1 hA.2.1 hA.2.2.2.2.2.1 hR.2.2.1 (a - 8) 2 (cA := gC G 2) (n := (mK M a).2) (f := mI M a) (hR.arr (t := 2) h1 (by decide)) rfl h2 dd w) kk
theorem EJ_lald (pc2 : Nat) {a : Nat} {i : Int32} (hk : kA M a 23 i = true) (dd : decode Y.2.1 pc = .ok (.laload, 1)) (hp : pc + 1 = pc2) (kk : EJ G Y cv d pc2 lv (.long (mL M a (ix i)) :: st) M o) : EJ G Y cv d pc lv (.int i :: .ref a :: st) M o := by
  subst hp
  obtain ⟨h1, h2⟩ := kA_spec hk
  exact EJ_step (fun p e s m args below meth c0 R H locs cells slots ls Q hA hR hS hl w => va_lald hA.1 hA.2.1 hA.2.2.2.2.2.1 hR.2.2.1 (a - 8) 3 (cA := gC G 3) (n := (mK M a).2) (f := mL M a) (hR.arr (t := 3) h1 (by decide)) rfl h2 dd w) kk
theorem EJ_aald (t : Nat) (pc2 : Nat) {a : Nat} {i : Int32} {k : Nat → Option (ρ × Mm)} (ht : t < 10) (ht4 : 4 ≤ t) {C : String} (hC : arrT t = .object C) (hk : kA M a (20 + t) i = true) (dd : decode Y.2.1 pc = .ok (.aaload, 1)) (hp : pc + 1 = pc2) (kk : ∀ b, EJ G Y cv d pc2 lv (.ref b :: st) M (k b)) : EJ G Y cv d pc lv (.int i :: .ref a :: st) M (nn (mR M a (ix i)) k) := by
  subst hp
  obtain ⟨h1, h2⟩ := kA_spec hk
  refine EJ_nn (fun b hb => EJ_step (fun p e s m args below meth c0 R H locs cells slots ls Q hA hR hS hl w => ?_) (kk b))
  refine va_aldq (C := C) hA.1 hA.2.1 hA.2.2.2.2.2.1 hR.2.2.1 (a - 8) t (cA := gC G t) (n := (mK M a).2) (f := fun j => (mR M a j).map (adr G)) ?_ ?_ h2 dd ?_
  · rw [hR.arr (t := t) h1 (by omega)]
    unfold arl
    rw [if_neg (by omega), if_neg (by omega)]
  · rw [← hC]
    rcases (show t = 4 ∨ t = 5 ∨ t = 6 ∨ t = 7 ∨ t = 8 ∨ t = 9 by omega) with rfl | rfl | rfl | rfl | rfl | rfl <;> rfl
  · have e : va_rf ((fun j => (mR M a j).map (adr G)) i.toNatClampNeg) = rho G (.ref b) := by
      show va_rf ((mR M a (ix i)).map (adr G)) = _
      rw [hb]; rfl
    rw [e]
    exact w
theorem EJ_alen (t : Nat) (pc2 : Nat) {a : Nat} (ht : t < 10) (hk : kT M a (20 + t) = true) (dd : decode Y.2.1 pc = .ok (.arraylength, 1)) (hp : pc + 1 = pc2) (kk : EJ G Y cv d pc2 lv (.int (ln M a) :: st) M o) : EJ G Y cv d pc lv (.ref a :: st) M o := by
  subst hp
  have h1 : (mK M a).1 = 20 + t := by simpa [kT] using hk
  refine EJ_step (fun p e s m args below meth c0 R H locs cells slots ls Q hA hR hS hl w => ?_) kk
  refine va_alen hA.1 hA.2.1 hA.2.2.2.2.2.1 hR.2.2.1 (a - 8) t (hR.arr (t := t) h1 (by omega)) (ty := arrT t) ?_ rfl dd w
  rcases (show t = 0 ∨ t = 1 ∨ t = 2 ∨ t = 3 ∨ t = 4 ∨ t = 5 ∨ t = 6 ∨ t = 7 ∨ t = 8 ∨ t = 9 by omega) with rfl | rfl | rfl | rfl | rfl | rfl | rfl | rfl | rfl | rfl <;> rfl
/-- the world behind a store in an array -/
theorem Rep.ast {M2 : Mm} {H H1 : Heap} {a t : Nat} (h : Rep G M H) (hm : (mK M a).1 = 20 + t) (ht : t < 70) (hZ : mZ M2 = mZ M) (hKs : mK M2 = mK M) (ho2 : ∀ b, b ≠ a → ent G M2 b = ent G M b) (e : H1[adr G a]? = some (vp_cell (gC G t) ((mK M a).2, arl G M2 a t))) (z : H1.size = H.size) (oq : ∀ q, q ≠ adr G a → H1[q]? = H[q]?) : Rep G M2 H1 := by
  have he := h.arr hm ht
  have hP := h.2.2.1
  have hD := wsO_D G M
  have hP2 := hP.set hD he (e := .inl (gC G t, (mK M a).2, arl G M2 a t)) e oq
  have e2 : ent G M2 a = .inl (gC G t, (mK M a).2, arl G M2 a t) := by rw [ent_A (t := t) (by rw [hKs]; exact hm), hKs]
  rw [← e2] at hP2
  exact h.put (by rw [hm]; omega) hZ hKs z hP2 ho2
theorem EJ_iast (pc2 : Nat) {a : Nat} {i : Int32} {x : Int32} (hk : kA M a 20 i = true)  (dd : decode Y.2.1 pc = .ok (.iastore, 1)) (hp : pc + 1 = pc2) (kk : EJ G Y cv d pc2 lv st (sI M a (ix i) x) o) : EJ G Y cv d pc lv (.int x :: .int i :: .ref a :: st) M o := by
  subst hp
  obtain ⟨h1, h2⟩ := kA_spec hk
  refine EJ_mem (M2 := sI M a (ix i) x) rfl rfl (fun p e s m args below meth c0 R H locs cells slots ls Q hA hR hS w => ?_) kk
  have hK := hA.2.2.2.2.2.1
  have ha := hR.arr (t := 0) h1 (by decide)
  refine W.iast hA.1 hA.2.1 (hR.2.2.1 _ _ ha) ((hK.2 0 _ rfl).1 (mK M a).2 (fun j => .int (mI M a j))) (fun q => by cases q) (by show ¬ (i < 0 ∨ (arrV _ _ _).slots.size ≤ _); rw [arrV_size]; exact h2) rfl rfl dd fun H1 e1 z oq => ?_
  refine w H1 _ (hR.ast (t := 0) h1 (by decide) rfl rfl (fun b hb => ent_sI hb) ?_ z oq) (hS.put z oq ((wsO_D G M).2 _ _ ha))
  rw [e1]
  show some ((arrV (gC G 0) (mK M a).2 (fun j => .int (mI M a j))).setSlot i.toNatClampNeg (.int x)) = some (arrV (gC G 0) (mK M a).2 (fun j => .int (mI (sI M a (ix i) x) a j)))
  rw [arrV_store]
  congr 2
  funext q
  by_cases hq : q = i.toNatClampNeg
  · subst hq
    simp [updV, mI_sI]
  · simp [updV, mI_sI, hq]
theorem EJ_bast (pc2 : Nat) {a : Nat} {i : Int32} {x : Int32} (hk : kA M a 21 i = true) (hn : narrow .byte (.int x) = .int x) (dd : decode Y.2.1 pc = .ok (.bastore, 1)) (hp : pc + 1 = pc2) (kk : EJ G Y cv d pc2 lv st (sI M a (ix i) x) o) : EJ G Y cv d pc lv (.int x :: .int i :: .ref a :: st) M o := by
  subst hp
  obtain ⟨h1, h2⟩ := kA_spec hk
  refine EJ_mem (M2 := sI M a (ix i) x) rfl rfl (fun p e s m args below meth c0 R H locs cells slots ls Q hA hR hS w => ?_) kk
  have hK := hA.2.2.2.2.2.1
  have ha := hR.arr (t := 1) h1 (by decide)
  refine W.bast hA.1 hA.2.1 (hR.2.2.1 _ _ ha) ((hK.2 1 _ rfl).1 (mK M a).2 (fun j => .int (mI M a j))) (fun q => by cases q) (by show ¬ (i < 0 ∨ (arrV _ _ _).slots.size ≤ _); rw [arrV_size]; exact h2) rfl rfl dd fun H1 e1 z oq => ?_
  refine w H1 _ (hR.ast (t := 1) h1 (by decide) rfl rfl (fun b hb => ent_sI hb) ?_ z oq) (hS.put z oq ((wsO_D G M).2 _ _ ha))
  rw [e1]
  show some ((arrV (gC G 1) (mK M a).2 (fun j => .int (mI M a j))).setSlot i.toNatClampNeg (narrow .byte (.int x))) = some (arrV (gC G 1) (mK M a).2 (fun j => .int (mI (sI M a (ix i) x) a j)))
  rw [hn, arrV_store]
  congr 2
  funext q
  by_cases hq : q = i.toNatClampNeg
  · subst hq
    simp [updV, mI_sI]
  · simp [updV, mI_sI, hq]
theorem EJ_zast (pc2 : Nat) {a : Nat} {i : Int32} {x : Int32} (hk : kA M a 22 i = true) (hn : narrow .boolean (.int x) = .int x) (dd : decode Y.2.1 pc = .ok (.bastore, 1)) (hp : pc + 1 = pc2) (kk : EJ G Y cv d pc2 lv st (sI M a (ix i) x) o) : EJ G Y cv d pc lv (.int x :: .int i :: .ref a :: st) M o := by
  subst hp
  obtain ⟨h1, h2⟩ := kA_spec hk
  refine EJ_mem (M2 := sI M a (ix i) x) rfl rfl (fun p e s m args below meth c0 R H locs cells slots ls Q hA hR hS w => ?_) kk
  have hK := hA.2.2.2.2.2.1
  have ha := hR.arr (t := 2) h1 (by decide)
  refine W.zast hA.1 hA.2.1 (hR.2.2.1 _ _ ha) ((hK.2 2 _ rfl).1 (mK M a).2 (fun j => .int (mI M a j))) (fun q => by cases q) (by show ¬ (i < 0 ∨ (arrV _ _ _).slots.size ≤ _); rw [arrV_size]; exact h2) rfl rfl dd fun H1 e1 z oq => ?_
  refine w H1 _ (hR.ast (t := 2) h1 (by decide) rfl rfl (fun b hb => ent_sI hb) ?_ z oq) (hS.put z oq ((wsO_D G M).2 _ _ ha))
  rw [e1]
  show some ((arrV (gC G 2) (mK M a).2 (fun j => .int (mI M a j))).setSlot i.toNatClampNeg (narrow .boolean (.int x))) = some (arrV (gC G 2) (mK M a).2 (fun j => .int (mI (sI M a (ix i) x) a j)))
  rw [hn, arrV_store]
  congr 2
  funext q
  by_cases hq : q = i.toNatClampNeg
  · subst hq
    simp [updV, mI_sI]
  · simp [updV, mI_sI, hq]
theorem EJ_last (pc2 : Nat) {a : Nat} {i : Int32} {x : Int64} (hk : kA M a 23 i = true)  (dd : decode Y.2.1 pc = .ok (.lastore, 1)) (hp : pc + 1 = pc2) (kk : EJ G Y cv d pc2 lv st (sL M a (ix i) x) o) : EJ G Y cv d pc lv (.long x :: .int i :: .ref a :: st) M o := by
  subst hp
  obtain ⟨h1, h2⟩ := kA_spec hk
  refine EJ_mem (M2 := sL M a (ix i) x) rfl rfl (fun p e s m args below meth c0 R H locs cells slots ls Q hA hR hS w => ?_) kk
  have hK := hA.2.2.2.2.2.1
  have ha := hR.arr (t := 3) h1 (by decide)
  refine W.last hA.1 hA.2.1 (hR.2.2.1 _ _ ha) ((hK.2 3 _ rfl).1 (mK M a).2 (fun j => .long (mL M a j))) (fun q => by cases q) (by show ¬ (i < 0 ∨ (arrV _ _ _).slots.size ≤ _); rw [arrV_size]; exact h2) rfl rfl dd fun H1 e1 z oq => ?_
  refine w H1 _ (hR.ast (t := 3) h1 (by decide) rfl rfl (fun b hb => ent_sL hb) ?_ z oq) (hS.put z oq ((wsO_D G M).2 _ _ ha))
  rw [e1]
  show some ((arrV (gC G 3) (mK M a).2 (fun j => .long (mL M a j))).setSlot i.toNatClampNeg (.long x)) = some (arrV (gC G 3) (mK M a).2 (fun j => .long (mL (sL M a (ix i) x) a j)))
  rw [arrV_store]
  congr 2
  funext q
  by_cases hq : q = i.toNatClampNeg
  · subst hq
    simp [updV, mL_sL]
  · simp [updV, mL_sL, hq]
end EJ3
