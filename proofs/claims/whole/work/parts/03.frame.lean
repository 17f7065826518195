/-! The abstract memory (ints, longs, references, kinds, next place, slots), what it says of a heap, and the judgement EJ: from this place of this method, with these locals, this stack and this memory, the machine returns what the option says, if it says something. -/
abbrev Mm : Type := (Nat → Nat → Int32) × (Nat → Nat → Int64) × (Nat → Nat → Option Nat) × (Nat → Nat × Nat) × Nat × Nat
def mI (M : Mm) : Nat → Nat → Int32 := M.1
def mL (M : Mm) : Nat → Nat → Int64 := M.2.1
def mR (M : Mm) : Nat → Nat → Option Nat := M.2.2.1
def mK (M : Mm) : Nat → Nat × Nat := M.2.2.2.1
def mZ (M : Mm) : Nat := M.2.2.2.2.1
def mS (M : Mm) : Nat := M.2.2.2.2.2
def sI (M : Mm) (a k : Nat) (v : Int32) : Mm := (fun b j => if b = a ∧ j = k then v else mI M b j, mL M, mR M, mK M, mZ M, mS M)
def sL (M : Mm) (a k : Nat) (v : Int64) : Mm := (mI M, fun b j => if b = a ∧ j = k then v else mL M b j, mR M, mK M, mZ M, mS M)
def sR (M : Mm) (a k : Nat) (v : Option Nat) : Mm := (mI M, mL M, fun b j => if b = a ∧ j = k then v else mR M b j, mK M, mZ M, mS M)
def nw (M : Mm) (c n : Nat) : Mm := (fun b j => if b = mZ M then 0 else mI M b j, fun b j => if b = mZ M then 0 else mL M b j, fun b j => if b = mZ M then none else mR M b j, fun b => if b = mZ M then (c, n) else mK M b, mZ M + 1, mS M + n)
theorem mI_sI (M : Mm) (a k : Nat) (v : Int32) (b j : Nat) : mI (sI M a k v) b j = if b = a ∧ j = k then v else mI M b j := rfl
theorem mL_sL (M : Mm) (a k : Nat) (v : Int64) (b j : Nat) : mL (sL M a k v) b j = if b = a ∧ j = k then v else mL M b j := rfl
theorem mR_sR (M : Mm) (a k : Nat) (v : Option Nat) (b j : Nat) : mR (sR M a k v) b j = if b = a ∧ j = k then v else mR M b j := rfl
theorem mI_sL (M : Mm) (a k : Nat) (v : Int64) : mI (sL M a k v) = mI M := rfl
theorem mI_sR (M : Mm) (a k : Nat) (v : Option Nat) : mI (sR M a k v) = mI M := rfl
theorem mL_sI (M : Mm) (a k : Nat) (v : Int32) : mL (sI M a k v) = mL M := rfl
theorem mL_sR (M : Mm) (a k : Nat) (v : Option Nat) : mL (sR M a k v) = mL M := rfl
theorem mR_sI (M : Mm) (a k : Nat) (v : Int32) : mR (sI M a k v) = mR M := rfl
theorem mR_sL (M : Mm) (a k : Nat) (v : Int64) : mR (sL M a k v) = mR M := rfl
theorem mK_sI (M : Mm) (a k : Nat) (v : Int32) : mK (sI M a k v) = mK M := rfl
theorem mK_sL (M : Mm) (a k : Nat) (v : Int64) : mK (sL M a k v) = mK M := rfl
theorem mK_sR (M : Mm) (a k : Nat) (v : Option Nat) : mK (sR M a k v) = mK M := rfl
theorem mZ_sI (M : Mm) (a k : Nat) (v : Int32) : mZ (sI M a k v) = mZ M := rfl
theorem mZ_sL (M : Mm) (a k : Nat) (v : Int64) : mZ (sL M a k v) = mZ M := rfl
theorem mZ_sR (M : Mm) (a k : Nat) (v : Option Nat) : mZ (sR M a k v) = mZ M := rfl
theorem mS_sI (M : Mm) (a k : Nat) (v : Int32) : mS (sI M a k v) = mS M := rfl
theorem mS_sL (M : Mm) (a k : Nat) (v : Int64) : mS (sL M a k v) = mS M := rfl
theorem mS_sR (M : Mm) (a k : Nat) (v : Option Nat) : mS (sR M a k v) = mS M := rfl
theorem mI_nw (M : Mm) (c n b j : Nat) : mI (nw M c n) b j = if b = mZ M then 0 else mI M b j := rfl
theorem mL_nw (M : Mm) (c n b j : Nat) : mL (nw M c n) b j = if b = mZ M then 0 else mL M b j := rfl
theorem mR_nw (M : Mm) (c n b j : Nat) : mR (nw M c n) b j = if b = mZ M then none else mR M b j := rfl
theorem mK_nw (M : Mm) (c n b : Nat) : mK (nw M c n) b = if b = mZ M then (c, n) else mK M b := rfl
theorem mZ_nw (M : Mm) (c n : Nat) : mZ (nw M c n) = mZ M + 1 := rfl
theorem mS_nw (M : Mm) (c n : Nat) : mS (nw M c n) = mS M + n := rfl
/-! what functions are made of -/
def ck {α : Type} (b : Bool) (o : Option α) : Option α := match b with
  | true => o
  | false => none
def bd {α β : Type} (o : Option (α × Mm)) (k : α → Mm → Option β) : Option β := match o with
  | none => none
  | some q => k q.1 q.2
def nn {β : Type} (o : Option Nat) (k : Nat → Option β) : Option β := match o with
  | none => none
  | some a => k a
def nl {β : Type} (o : Option Nat) (k0 : Option β) (k : Nat → Option β) : Option β := match o with
  | none => k0
  | some a => k a
theorem ck_t {α : Type} (o : Option α) : ck true o = o := rfl
theorem bd_s {α β : Type} (r : α) (M : Mm) (k : α → Mm → Option β) : bd (some (r, M)) k = k r M := rfl
theorem nn_s {β : Type} (a : Nat) (k : Nat → Option β) : nn (some a) k = k a := rfl
theorem nl_s {β : Type} (a : Nat) (k0 : Option β) (k : Nat → Option β) : nl (some a) k0 k = k a := rfl
theorem nl_n {β : Type} (k0 : Option β) (k : Nat → Option β) : nl none k0 k = k0 := rfl
/-- is a at kind (c, n) -/
def kO (M : Mm) (a c n : Nat) : Bool := decide (mK M a = (c, n))
/-- is a an array of kind t with a place i -/
def kA (M : Mm) (a t : Nat) (i : Int32) : Bool := decide ((mK M a).1 = t) && (decide (0 ≤ i) && decide (i.toNatClampNeg < (mK M a).2))
def kT (M : Mm) (a t : Nat) : Bool := decide ((mK M a).1 = t)
def kZ (v : Int32) : Bool := decide (v = 0) || decide (v = 1)
abbrev ix (i : Int32) : Nat := i.toNatClampNeg
/-- the length of an array -/
def ln (M : Mm) (a : Nat) : Int32 := Int32.ofNat (mK M a).2
/-! the heap -/
abbrev Gx : Type := Launch × va_G × (Nat → ClassId) × Nat × (Nat → Nat) × Nat × (Nat → Int32)
def gl (G : Gx) : Launch := G.1
def gD (G : Gx) : va_G := G.2.1
def gC (G : Gx) : Nat → ClassId := G.2.2.1
def gB (G : Gx) : Nat := G.2.2.2.1
def gX (G : Gx) : Nat → Nat := G.2.2.2.2.1
def gN (G : Gx) : Nat := G.2.2.2.2.2.1
def gS (G : Gx) : Nat → Int32 := G.2.2.2.2.2.2
def adr (G : Gx) (a : Nat) : Nat := if a < 8 then gX G a else gB G + (a - 8)
def rho (G : Gx) : Value → Value
  | .ref a => .ref (adr G a)
  | v => v
theorem rho_cat (G : Gx) (v : Value) : (rho G v).category = v.category := by cases v <;> rfl
def arrT : Nat → FieldType
  | 0 => .int
  | 1 => .byte
  | 2 => .boolean
  | 3 => .long
  | 4 => .object "RiceHall$Person"
  | 5 => .object "RiceHall$Store"
  | 6 => .object "RiceHall$Session"
  | 7 => .object "RiceHall$Edict"
  | 8 => .object "RiceHall$Cry"
  | _ => .object "RiceHall$Bargain"
def gT (G : Gx) : List (ClassId × FieldType) := [(gC G 0, arrT 0), (gC G 1, arrT 1), (gC G 2, arrT 2), (gC G 3, arrT 3), (gC G 4, arrT 4), (gC G 5, arrT 5), (gC G 6, arrT 6), (gC G 7, arrT 7), (gC G 8, arrT 8), (gC G 9, arrT 9)]
def tyc : Nat → Nat → FieldType
  | 0 => tyX0
  | 1 => tyX1
  | 2 => tyX2
  | 3 => tyX3
  | 4 => tyX4
  | 5 => tyX5
  | 6 => tyX6
  | 7 => tyX7
  | 8 => tyX8
  | 9 => tyX9
  | 10 => tyX10
  | 11 => tyX11
  | _ => tyX12
def fvl (G : Gx) (M : Mm) (a k : Nat) : FieldType → Value
  | .long => .long (mL M a k)
  | .object _ => va_rf ((mR M a k).map (adr G))
  | .array _ => va_rf ((mR M a k).map (adr G))
  | _ => .int (mI M a k)
def fsl (G : Gx) (M : Mm) (a c N : Nat) : List Value := (List.range N).map (fun k => fvl G M a k (tyc c k))
def arl (G : Gx) (M : Mm) (a t : Nat) : (Nat → Int32) ⊕ (Nat → Int64) ⊕ (Nat → UInt32) ⊕ (Nat → UInt64) ⊕ (Nat → Option Nat) :=
  if t < 3 then .inl (mI M a) else if t = 3 then .inr (.inl (mL M a)) else .inr (.inr (.inr (.inr (fun j => (mR M a j).map (adr G)))))
def ent (G : Gx) (M : Mm) (a : Nat) : va_E :=
  if (mK M a).1 < 20 then .inr ((mK M a).1, fsl G M a (mK M a).1 (mK M a).2) else .inl (gC G ((mK M a).1 - 20), (mK M a).2, arl G M a ((mK M a).1 - 20))
def wsO (G : Gx) (M : Mm) : va_W := (List.range (mZ M - 8)).map (fun j => (gB G + j, ent G M (j + 8)))
def Aq (G : Gx) : Nat → Prop := fun q => gB G ≤ q
def Rep (G : Gx) (M : Mm) (H : Heap) : Prop := H.size + 8 = gB G + mZ M ∧ 8 ≤ mZ M ∧ va_P (gD G) vwCl (wsO G M) H ∧ ∀ a, ¬ (8 ≤ a ∧ a < mZ M) → mK M a = (99, 0)
theorem wsO_get (G : Gx) (M : Mm) {j : Nat} (h : j < mZ M - 8) : (wsO G M)[j]? = some (gB G + j, ent G M (j + 8)) := by
  unfold wsO
  rw [List.getElem?_map, List.getElem?_range h]
  rfl
theorem wsO_len (G : Gx) (M : Mm) : (wsO G M).length = mZ M - 8 := by unfold wsO; simp
theorem wsO_inv (G : Gx) (M : Mm) {j : Nat} {q : Nat × va_E} (h : (wsO G M)[j]? = some q) : j < mZ M - 8 ∧ q = (gB G + j, ent G M (j + 8)) := by
  have hl : j < mZ M - 8 := by rw [← wsO_len G M]; exact (List.getElem?_eq_some_iff.mp h).1
  refine ⟨hl, ?_⟩
  rw [wsO_get G M hl] at h
  exact (Option.some.inj h).symm
theorem wsO_D (G : Gx) (M : Mm) : va_D (Aq G) (wsO G M) := by
  refine ⟨fun i j p q hi hj e => ?_, fun k q hk => ?_⟩
  · obtain ⟨-, rfl⟩ := wsO_inv G M hi
    obtain ⟨-, rfl⟩ := wsO_inv G M hj
    have e : gB G + i = gB G + j := e
    omega
  · obtain ⟨-, rfl⟩ := wsO_inv G M hk
    exact Nat.le_add_right _ _
theorem adr_own (G : Gx) {a : Nat} (h : 8 ≤ a) : adr G a = gB G + (a - 8) := by unfold adr; rw [if_neg (by omega)]
theorem Rep.at {G : Gx} {M : Mm} {H : Heap} (h : Rep G M H) {a : Nat} (hk : (mK M a).1 ≠ 99) : 8 ≤ a ∧ a < mZ M ∧ (wsO G M)[a - 8]? = some (adr G a, ent G M a) := by
  have h1 : 8 ≤ a ∧ a < mZ M := by
    apply Classical.byContradiction
    intro q
    exact hk (by rw [h.2.2.2 a q])
  refine ⟨h1.1, h1.2, ?_⟩
  rw [wsO_get G M (by omega), adr_own G h1.1, show a - 8 + 8 = a by omega]
theorem map_set {N k : Nat} {f g : Nat → Value} {v : Value} (hk : g k = v) (ho : ∀ j, j ≠ k → g j = f j) : ((List.range N).map f).set k v = (List.range N).map g := by
  apply List.ext_getElem?
  intro i
  rw [List.getElem?_set]
  by_cases hi : i < N
  · by_cases e : k = i
    · subst e
      simp [hi, hk]
    · simp [hi, e, ho i (fun q => e q.symm)]
  · simp [hi]
    intro e; omega
theorem ent_O {G : Gx} {M : Mm} {a c N : Nat} (hk : mK M a = (c, N)) (hc : c < 20) : ent G M a = .inr (c, fsl G M a c N) := by
  unfold ent; rw [hk]; simp [hc]
theorem ent_A {G : Gx} {M : Mm} {a t : Nat} (hk : (mK M a).1 = 20 + t) : ent G M a = .inl (gC G t, (mK M a).2, arl G M a t) := by
  unfold ent; rw [hk]; simp
theorem ent_cong {G : Gx} {M M' : Mm} {b : Nat} (h1 : ∀ j, mI M' b j = mI M b j) (h2 : ∀ j, mL M' b j = mL M b j) (h3 : ∀ j, mR M' b j = mR M b j) (h4 : mK M' b = mK M b) : ent G M' b = ent G M b := by
  have e1 : mI M' b = mI M b := funext h1
  have e2 : mL M' b = mL M b := funext h2
  have e3 : mR M' b = mR M b := funext h3
  have e5 : fsl G M' b = fsl G M b := by
    funext c N
    unfold fsl
    congr 1
    funext k
    have hh : ∀ t : FieldType, fvl G M' b k t = fvl G M b k t := by
      intro t
      cases t <;> simp only [fvl, e1, e2, e3]
    exact hh _
  unfold ent arl
  rw [h4, e5, e1, e2, e3]
/-- one cell changes -/
theorem wsO_set {G : Gx} {M M' : Mm} {a : Nat} (ha : 8 ≤ a) (hz : a < mZ M) (hZ : mZ M' = mZ M) (ho : ∀ b, b ≠ a → ent G M' b = ent G M b) : (wsO G M).set (a - 8) (adr G a, ent G M' a) = wsO G M' := by
  apply List.ext_getElem?
  intro i
  rw [List.getElem?_set, wsO_len, adr_own G ha]
  by_cases hi : i < mZ M - 8
  · rw [wsO_get G M hi, wsO_get G M' (by omega)]
    by_cases e : a - 8 = i
    · rw [if_pos e, if_pos (by omega), e, show i + 8 = a by omega]
    · rw [if_neg e, ho (i + 8) (by omega)]
  · have h1 : (wsO G M)[i]? = none := by
      rw [List.getElem?_eq_none_iff, wsO_len]; omega
    have h2 : (wsO G M')[i]? = none := by
      rw [List.getElem?_eq_none_iff, wsO_len]; omega
    rw [h1, h2, if_neg (by omega)]
theorem wsO_push {G : Gx} {M : Mm} {c n : Nat} (h : 8 ≤ mZ M) : wsO G (nw M c n) = wsO G M ++ [(adr G (mZ M), ent G (nw M c n) (mZ M))] := by
  unfold wsO
  rw [mZ_nw, show mZ M + 1 - 8 = (mZ M - 8) + 1 by omega, List.range_succ, List.map_append]
  congr 1
  · apply List.map_congr_left
    intro j hj
    have hj : j < mZ M - 8 := List.mem_range.mp hj
    congr 1
    have hne : j + 8 ≠ mZ M := by omega
    refine ent_cong (fun _ => ?_) (fun _ => ?_) (fun _ => ?_) ?_
    · rw [mI_nw, if_neg hne]
    · rw [mL_nw, if_neg hne]
    · rw [mR_nw, if_neg hne]
    · rw [mK_nw, if_neg hne]
  · simp only [List.map_cons, List.map_nil]
    rw [adr_own G h, show mZ M - 8 + 8 = mZ M by omega]
theorem Rep.put {G : Gx} {M M' : Mm} {H H1 : Heap} {a : Nat} (h : Rep G M H) (ha : (mK M a).1 ≠ 99) (hZ : mZ M' = mZ M) (hK : mK M' = mK M) (hs : H1.size = H.size) (hP : va_P (gD G) vwCl ((wsO G M).set (a - 8) (adr G a, ent G M' a)) H1) (ho : ∀ b, b ≠ a → ent G M' b = ent G M b) : Rep G M' H1 := by
  obtain ⟨h1, h2, -⟩ := h.at ha
  rw [wsO_set h1 h2 hZ ho] at hP
  exact ⟨by rw [hs, hZ]; exact h.1, by rw [hZ]; exact h.2.1, hP, fun b hb => by rw [hK]; exact h.2.2.2 b (by rw [← hZ]; exact hb)⟩
