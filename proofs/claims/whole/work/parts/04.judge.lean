/-! the judgement -/
abbrev Ym : Type := MethodName × ByteArray × Nat × Option FieldType
def wsY (Y : Ym) : List Cond := Cond.code Y.1 Y.2.1 Y.2.2.1 Y.2.2.2 :: gd_tbl
def untl (j : Nat) : Int32 := ([0, 99999, 10, 600, 10, 1, 10, 1440, 4, 0, 0] : List Int32).getD j 0
def txW : String := "floor ceiling margin fuse burn gust gap grace settle spoil halt day hour wind close sessions rice out store holder if or and not"
def txS : String := "<>=;()"
def txB : Nat → List Int32
  | 0 => txW.toList.map (fun c => Int32.ofNat c.toNat)
  | _ => txS.toList.map (fun c => Int32.ofNat c.toNat)
def bytS : List (List Int32) := [[102, 108, 111, 111, 114, 32, 99, 101, 105, 108, 105, 110, 103, 32, 109, 97, 114, 103, 105, 110, 32, 102, 117, 115, 101, 32, 98, 117, 114, 110, 32, 103, 117, 115, 116, 32, 103, 97, 112, 32, 103, 114, 97, 99, 101, 32, 115, 101, 116, 116, 108, 101, 32, 115, 112, 111, 105, 108, 32, 104, 97, 108, 116, 32, 100, 97, 121, 32, 104, 111, 117, 114, 32, 119, 105, 110, 100, 32, 99, 108, 111, 115, 101, 32, 115, 101, 115, 115, 105, 111, 110, 115, 32, 114, 105, 99, 101, 32, 111, 117, 116, 32, 115, 116, 111, 114, 101, 32, 104, 111, 108, 100, 101, 114, 32, 105, 102, 32, 111, 114, 32, 97, 110, 100, 32, 110, 111, 116], [60, 62, 61, 59, 40, 41]]
def lenS : List Nat := [128, 6]
/-- what doesn't change: a static array, the two literals, the script -/
def Exh (G : Gx) (U : State) (H : Heap) : Prop :=
  va_Z "RiceHall$Law" "UNTOLD" "[I" (.ref (gX G 0)) (Aq G) U H ∧ va_T .int (gX G 0) 11 (fun j => .int (untl j)) (Aq G) U H ∧ vk_S 2 lenS bytS (fun i => gX G (i + 1)) (fun i => gX G (i + 4)) (Aq G) U H ∧
  va_Z "java/lang/String" "COMPACT_STRINGS" "Z" (.int 1) (Aq G) U H ∧ (va_Z "jdk/internal/util/Preconditions" "SIOOBE_FORMATTER" "Ljava/util/function/BiFunction;" .null (Aq G) U H ∨ va_Z "jdk/internal/util/Preconditions" "SIOOBE_FORMATTER" "Ljava/util/function/BiFunction;" (.ref (gX G 7)) (Aq G) U H) ∧ va_X (gX G 3) (gN G) (gS G) U H ∧ gX G 3 < H.size ∧ gX G 3 < gB G
def Exu (G : Gx) (U : State) : Prop :=
  vk_R "RiceHall$Scribe" 87 txW (gX G 1) U ∧ vk_R "RiceHall$Scribe" 75 txS (gX G 2) U ∧ va_AO "RiceHall$Person" U ∧ va_AO "RiceHall$Store" U ∧ va_AO "RiceHall$Session" U ∧ va_AO "RiceHall$Edict" U ∧ va_AO "RiceHall$Cry" U ∧ va_AO "RiceHall$Bargain" U ∧
  va_Nw (.methodLinkNest "RiceHall$Land" 45 ⟨"RiceHall", "isWithin", "(III)Z"⟩ "RiceHall") U ∧ va_Nw (.methodLinkNest "RiceHall$Session" 103 ⟨"RiceHall", "isWithin", "(III)Z"⟩ "RiceHall") U ∧ va_Nw (.castable "[I" "java/lang/Cloneable") U
theorem Exh.moved {G : Gx} {u U : State} {H : Heap} (hvm : u.vm.Alike U.vm) (h : Exh G u H) : Exh G U H := by
  obtain ⟨h1, h2, h3, h4, h5, h6, h7⟩ := h
  exact ⟨h1.moved hvm, h2.moved hvm, h3.moved hvm, h4.moved hvm, h5.imp (fun q => q.moved hvm) (fun q => q.moved hvm), h6.moved hvm, h7⟩
theorem Exh.kept {G : Gx} {U : State} {H H1 : Heap} (h : Exh G U H) (hs : H.size ≤ H1.size) (hq : ∀ a : Nat, a < H.size → ¬ Aq G a → H1[a]? = H[a]?) : Exh G U H1 := by
  obtain ⟨h1, h2, h3, h4, h5, h6, h7, h8⟩ := h
  exact ⟨h1.kept hq, h2.kept hq, h3.kept hq, h4.kept hq, h5.imp (fun q => q.kept hq) (fun q => q.kept hq), h6.kept (hq _ h7 (Nat.not_le.mpr h8)), Nat.lt_of_lt_of_le h7 hs, h8⟩
theorem Exu.warm {G : Gx} {s U : State} (hW : s.WarmedH U.vm) (h : Exu G s) : Exu G U := by
  obtain ⟨h1, h2, h3, h4, h5, h6, h7, h8, h9, h10, h11⟩ := h
  exact ⟨h1.warm hW, h2.warm hW, h3.moved hW.alike, h4.moved hW.alike, h5.moved hW.alike, h6.moved hW.alike, h7.moved hW.alike, h8.moved hW.alike, h9.warmM hW, h10.warmM hW, h11.warmC hW⟩
theorem Exu.same {G : Gx} {s U : State} (hv : U.vm = s.vm) (h : Exu G s) : Exu G U := by
  obtain ⟨h1, h2, h3, h4, h5, h6, h7, h8, h9, h10, h11⟩ := h
  have ha : s.vm.Alike U.vm := by rw [hv]; exact Vm.Alike.refl _
  exact ⟨h1.same hv, h2.same hv, h3.moved ha, h4.moved ha, h5.moved ha, h6.moved ha, h7.moved ha, h8.moved ha, h9.same rfl hv.symm, h10.same rfl hv.symm, h11.same rfl hv.symm⟩
def Atx (G : Gx) (Y : Ym) (d : Nat) (p : Program) (s : State) (m : MethodId) (args : Array Value) (meth : Method) (c : Code) (R : Room) : Prop :=
  p.tables.exec = Jvm.exec ∧ c.code = Y.2.1 ∧ c.maxLocals = Y.2.2.1 ∧ s.vm.findClass Y.1.cls = some m.cls ∧ (∀ w ∈ gd_tbl, w.before args s = true) ∧ va_K (gD G) vwCl (gT G) s ∧ Exh G s s.heap ∧ Exu G s ∧ meth.sig.returnType = Y.2.2.2 ∧ meth.locks = false ∧ (Y.1.name = "<init>" → meth.name = "<init>") ∧ d ≤ R.frames ∧ 100 * d ≤ R.locals ∧ gB G ≤ s.heap.size
def Qx (G : Gx) {ρ : Type} (cv : ρ → Option Value) (r : ρ) (M' : Mm) : Array Value → State → Outcome → State → Prop := fun _ st o t => o = .returned ((cv r).map (rho G)) ∧ Rep G M' t.heap ∧ va_F (Aq G) st t
def Wk (G : Gx) (Y : Ym) {ρ : Type} (cv : ρ → Option Value) (d pc : Nat) (lv : List (Nat × Value)) (st : List Value) (M : Mm) (r : ρ) (M' : Mm) : Prop :=
  ∀ (p : Program) (e : Env) (s : State) (m : MethodId) (args : Array Value) (below : List Frame) (meth : Method) (c : Code) (R : Room) (H : Heap) (locs : List Loc) (cells slots : Nat) (ls : Array Slot),
    Atx G Y d p s m args meth c R → Rep G M H → va_S (Aq G) s.heap H locs → lv_has ls Y.2.2.1 (lv.map (fun q => (q.1, rho G q.2))) → cells + (mZ M' - mZ M) = R.cells → slots + (mS M' - mS M) = R.slots →
    W p (gl G) e R s m args below meth c H locs cells slots (MQ below (Qx G cv r M') args s R.cells R.slots (Aq G)) (F0 m pc ls (st.map (rho G)))
def EJ (G : Gx) (Y : Ym) {ρ : Type} (cv : ρ → Option Value) (d pc : Nat) (lv : List (Nat × Value)) (st : List Value) (M : Mm) (o : Option (ρ × Mm)) : Prop :=
  ∀ r M', o = some (r, M') → mZ M ≤ mZ M' ∧ mS M ≤ mS M' ∧ Wk G Y cv d pc lv st M r M'
def cvI (r : Int32) : Option Value := some (.int r)
def cvL (r : Int64) : Option Value := some (.long r)
def cvR (r : Nat) : Option Value := some (.ref r)
def cvV (_ : Unit) : Option Value := none
section EJ1
variable {G : Gx} {Y : Ym} {ρ : Type} {cv : ρ → Option Value} {d pc : Nat} {lv : List (Nat × Value)} {st : List Value} {M : Mm} {o o1 o2 : Option (ρ × Mm)}
theorem EJ_none : EJ G Y cv d pc lv st M none := fun _ _ h => by cases h
/-- memory and locals stay -/
theorem EJ_step {pc2 : Nat} {st2 : List Value} (h : ∀ (p : Program) (e : Env) (s : State) (m : MethodId) (args : Array Value) (below : List Frame) (meth : Method) (c : Code) (R : Room) (H : Heap) (locs : List Loc) (cells slots : Nat) (ls : Array Slot) (Q : State → Prop), Atx G Y d p s m args meth c R → Rep G M H → va_S (Aq G) s.heap H locs → lv_has ls Y.2.2.1 (lv.map (fun q => (q.1, rho G q.2))) → W p (gl G) e R s m args below meth c H locs cells slots Q (F0 m pc2 ls (st2.map (rho G))) → W p (gl G) e R s m args below meth c H locs cells slots Q (F0 m pc ls (st.map (rho G)))) (k : EJ G Y cv d pc2 lv st2 M o) : EJ G Y cv d pc lv st M o := by
  intro r M' ho
  obtain ⟨h1, h2, k⟩ := k r M' ho
  exact ⟨h1, h2, fun p e s m args below meth c R H locs cells slots ls hA hR hS hl hc hs => h p e s m args below meth c R H locs cells slots ls _ hA hR hS hl (k p e s m args below meth c R H locs cells slots ls hA hR hS hl hc hs)⟩
/-- a branch -/
theorem EJ_br {c0 : Prop} [inst : Decidable c0] {pc1 pc2 : Nat} {st2 : List Value} (h : ∀ (p : Program) (e : Env) (s : State) (m : MethodId) (args : Array Value) (below : List Frame) (meth : Method) (c : Code) (R : Room) (H : Heap) (locs : List Loc) (cells slots : Nat) (ls : Array Slot) (Q : State → Prop), Atx G Y d p s m args meth c R → (c0 → W p (gl G) e R s m args below meth c H locs cells slots Q (F0 m pc1 ls (st2.map (rho G)))) → (¬ c0 → W p (gl G) e R s m args below meth c H locs cells slots Q (F0 m pc2 ls (st2.map (rho G)))) → W p (gl G) e R s m args below meth c H locs cells slots Q (F0 m pc ls (st.map (rho G)))) (kt : c0 → EJ G Y cv d pc1 lv st2 M o1) (kf : ¬ c0 → EJ G Y cv d pc2 lv st2 M o2) : EJ G Y cv d pc lv st M (if c0 then o1 else o2) := by
  intro r M' ho
  by_cases hc0 : c0
  · rw [if_pos hc0] at ho
    obtain ⟨h1, h2, k⟩ := kt hc0 r M' ho
    exact ⟨h1, h2, fun p e s m args below meth c R H locs cells slots ls hA hR hS hl hc hs => h p e s m args below meth c R H locs cells slots ls _ hA (fun _ => k p e s m args below meth c R H locs cells slots ls hA hR hS hl hc hs) (fun q => absurd hc0 q)⟩
  · rw [if_neg hc0] at ho
    obtain ⟨h1, h2, k⟩ := kf hc0 r M' ho
    exact ⟨h1, h2, fun p e s m args below meth c R H locs cells slots ls hA hR hS hl hc hs => h p e s m args below meth c R H locs cells slots ls _ hA (fun q => absurd q hc0) (fun _ => k p e s m args below meth c R H locs cells slots ls hA hR hS hl hc hs)⟩
/-- the locals change -/
theorem EJ_loc {pc2 : Nat} {st2 : List Value} {lv2 : List (Nat × Value)} (h : ∀ (p : Program) (e : Env) (s : State) (m : MethodId) (args : Array Value) (below : List Frame) (meth : Method) (c : Code) (R : Room) (H : Heap) (locs : List Loc) (cells slots : Nat) (ls : Array Slot) (Q : State → Prop), Atx G Y d p s m args meth c R → lv_has ls Y.2.2.1 (lv.map (fun q => (q.1, rho G q.2))) → (∀ ls2 : Array Slot, lv_has ls2 Y.2.2.1 (lv2.map (fun q => (q.1, rho G q.2))) → W p (gl G) e R s m args below meth c H locs cells slots Q (F0 m pc2 ls2 (st2.map (rho G)))) → W p (gl G) e R s m args below meth c H locs cells slots Q (F0 m pc ls (st.map (rho G)))) (k : EJ G Y cv d pc2 lv2 st2 M o) : EJ G Y cv d pc lv st M o := by
  intro r M' ho
  obtain ⟨h1, h2, k⟩ := k r M' ho
  exact ⟨h1, h2, fun p e s m args below meth c R H locs cells slots ls hA hR hS hl hc hs => h p e s m args below meth c R H locs cells slots ls _ hA hl (fun ls2 hl2 => k p e s m args below meth c R H locs cells slots ls2 hA hR hS hl2 hc hs)⟩
/-- a cell changes -/
theorem EJ_mem {pc2 : Nat} {st2 : List Value} {M2 : Mm} (hZ : mZ M2 = mZ M) (hSs : mS M2 = mS M) (h : ∀ (p : Program) (e : Env) (s : State) (m : MethodId) (args : Array Value) (below : List Frame) (meth : Method) (c : Code) (R : Room) (H : Heap) (locs : List Loc) (cells slots : Nat) (ls : Array Slot) (Q : State → Prop), Atx G Y d p s m args meth c R → Rep G M H → va_S (Aq G) s.heap H locs → (∀ (H2 : Heap) (locs2 : List Loc), Rep G M2 H2 → va_S (Aq G) s.heap H2 locs2 → W p (gl G) e R s m args below meth c H2 locs2 cells slots Q (F0 m pc2 ls (st2.map (rho G)))) → W p (gl G) e R s m args below meth c H locs cells slots Q (F0 m pc ls (st.map (rho G)))) (k : EJ G Y cv d pc2 lv st2 M2 o) : EJ G Y cv d pc lv st M o := by
  intro r M' ho
  obtain ⟨h1, h2, k⟩ := k r M' ho
  rw [hZ] at h1
  rw [hSs] at h2
  exact ⟨h1, h2, fun p e s m args below meth c R H locs cells slots ls hA hR hS hl hc hs => h p e s m args below meth c R H locs cells slots ls _ hA hR hS (fun H2 locs2 hR2 hS2 => k p e s m args below meth c R H2 locs2 cells slots ls hA hR2 hS2 hl (by rw [hZ]; exact hc) (by rw [hSs]; exact hs))⟩
theorem EJ_ck {b : Bool} (k : b = true → EJ G Y cv d pc lv st M o) : EJ G Y cv d pc lv st M (ck b o) := by
  cases b with
  | true => exact k rfl
  | false => exact EJ_none
/-- fewer locals -/
theorem EJ_sub {lv2 : List (Nat × Value)} (h : ∀ q ∈ lv2, q ∈ lv) (k : EJ G Y cv d pc lv2 st M o) : EJ G Y cv d pc lv st M o :=
  EJ_loc (fun p e s m args below meth c R H locs cells slots ls Q hA hl w => w ls ⟨hl.1, hl.2.1, fun q hq => by
    obtain ⟨q0, h0, rfl⟩ := List.mem_map.mp hq
    exact hl.2.2 _ (List.mem_map.mpr ⟨q0, h q0 h0, rfl⟩)⟩) k
theorem EJ_pick (ks : List Nat) {lv2 : List (Nat × Value)} (h : ks.filterMap (fun k => lv[k]?) = lv2) (k : EJ G Y cv d pc lv2 st M o) : EJ G Y cv d pc lv st M o :=
  EJ_sub (fun q hq => by
    rw [← h] at hq
    obtain ⟨i, -, hi⟩ := List.mem_filterMap.mp hq
    exact List.mem_of_getElem? hi) k
/-- a value in the memory that may be null -/
theorem EJ_nn {r0 : Option Nat} {k : Nat → Option (ρ × Mm)} (h : ∀ a, r0 = some a → EJ G Y cv d pc lv st M (k a)) : EJ G Y cv d pc lv st M (nn r0 k) := by
  cases r0 with
  | none => exact EJ_none
  | some a => exact h a rfl
end EJ1
