/-! THE CLAIM OUT OF ONE WALK OF THE LAW'S BODY. Your part is whole_start (and what it stands on); all else here is the same for every law, but numbers. -/
def R_law : String := "RiceHallLaw"
def lw_P (b : Addr) (xs : List Int32) (args : Array Value) (s : State) : Prop := args = #[.ref b] ∧ s.IntsAt b xs ∧ xs.length ≤ 3072 ∧ (Jvm.Cond.and given_1 narrow_1).before args s = true
def lw_Q (_ : Array Value) (s : State) (o : Outcome) (t : State) : Prop := o = .returned (some (.int 1)) ∧ Framed s o t [] 600000 7302250
def lw_Z (below : List Frame) (a : Array Value) (s : State) : State → Prop := fun t => ∃ o, t.status = .running ∧ Ended t below o ∧ lw_Q a s o t
/-- the law's own end, with 1 on the stack, nothing written that was there before, its room as the claim has it -/
theorem lw_ret {p : Program} {l : Launch} {e : Env} {s : State} {m : MethodId} {below : List Frame} {meth : Method} {c : Code} {b : Nat} (hx : p.tables.exec = Jvm.exec) (hb : c.code = code) (hr : meth.sig.returnType = ret) (hlocks : meth.locks = false) {pc : Nat} {H : Heap} {ls : Array Slot} (hdg : decode code pc = .ok (.ireturn, 1)) : W p l e room_1 s m #[Value.ref b] below meth c H [] 600000 7302250 (lw_Z below #[Value.ref b] s) (F0 m pc ls [.int 1]) := by
  intro T hT X
  obtain ⟨fs, hret, hrun, hended, hW, hframe⟩ := X.leave (v := some (.int 1)) (hlocks := hlocks) (fun h => by rw [hr] at h; cases h)
  have hmeth' : T.vm.method? m = some meth := X.method'
  refine ⟨T.setFrames fs, ?_, .returned (some (.int 1)), hrun, hended, rfl, ⟨_, rfl⟩, hW, hframe⟩
  jvm_step X.here [X.here.top, hx, hb, hdg, hmeth', hr, ret, narrow_b1]
  (try refine ⟨rfl, ?_⟩); (try refine ⟨rfl, ?_⟩)
  first | (intro acts; rw [hret _ acts rfl rfl rfl]) | rw [hret _ _ rfl rfl rfl]
  exact Steps.refl _
/-- what holds at the law's entry: the machine, the code, the tables' words (any of lw_tbl by 'hts w (by decide +kernel)'), the script of L ints xs at the cell b, what the Statement gives of the start (any of its parts by flat_of_before) -/
def lw_At (p : Program) (s : State) (m : MethodId) (meth : Method) (c : Code) (b L : Nat) (xs : Nat → Int32) : Prop :=
  p.tables.exec = Jvm.exec ∧ c.code = code ∧ meth.sig.returnType = ret ∧ c.maxLocals = 4 ∧ s.vm.findClass R_law = some m.cls ∧ (∀ w ∈ lw_tbl, w.before #[Value.ref b] s = true) ∧ va_X b L xs s s.heap ∧ b < s.heap.size ∧ meth.locks = false ∧ (Jvm.Cond.and given_1 narrow_1).before #[Value.ref b] s = true

def M0 : Mm := (fun _ _ => 0, fun _ _ => 0, fun _ _ => none, fun _ => (99, 0), 8, 0)
theorem known_of {s : State} {args : Array Value} (hg : ∀ w ∈ gd_tbl, w.before args s = true) {c N : Nat} {C : String} {T : u_T} {ty : Nat → FieldType} (cf : CFx c C T N ty) : ∃ (cC : ClassId) (iS : Nat → Nat), u_Kn s C T N cC iS := by
  obtain ⟨f1, f2, f3, f4, f5, f6, f7, f8, f9⟩ := cf
  exact u_known hg f3 (hg _ f8)
theorem known_all {s : State} {args : Array Value} (hg : ∀ w ∈ gd_tbl, w.before args s = true) : ∃ D : va_G, ∀ (c : Nat) (q : vw_C), vwCl[c]? = some q → u_Kn s q.1 q.2.1 q.2.2 (D.1 c) (D.2 c) := by
  have h0 : ∀ c : Nat, ∃ x : ClassId × (Nat → Nat), ∀ q : vw_C, vwCl[c]? = some q → u_Kn s q.1 q.2.1 q.2.2 x.1 x.2 := by
    intro c
    rcases Nat.eq_or_lt_of_le (show 0 ≤ c by omega) with h0 | h0
    · subst h0
      obtain ⟨x, i, h⟩ := known_of hg cf0
      exact ⟨(x, i), fun q hq => by rw [cf0.1] at hq; cases hq; exact h⟩
    rcases Nat.eq_or_lt_of_le (show 1 ≤ c by omega) with h1 | h1
    · subst h1
      obtain ⟨x, i, h⟩ := known_of hg cf1
      exact ⟨(x, i), fun q hq => by rw [cf1.1] at hq; cases hq; exact h⟩
    rcases Nat.eq_or_lt_of_le (show 2 ≤ c by omega) with h2 | h2
    · subst h2
      obtain ⟨x, i, h⟩ := known_of hg cf2
      exact ⟨(x, i), fun q hq => by rw [cf2.1] at hq; cases hq; exact h⟩
    rcases Nat.eq_or_lt_of_le (show 3 ≤ c by omega) with h3 | h3
    · subst h3
      obtain ⟨x, i, h⟩ := known_of hg cf3
      exact ⟨(x, i), fun q hq => by rw [cf3.1] at hq; cases hq; exact h⟩
    rcases Nat.eq_or_lt_of_le (show 4 ≤ c by omega) with h4 | h4
    · subst h4
      obtain ⟨x, i, h⟩ := known_of hg cf4
      exact ⟨(x, i), fun q hq => by rw [cf4.1] at hq; cases hq; exact h⟩
    rcases Nat.eq_or_lt_of_le (show 5 ≤ c by omega) with h5 | h5
    · subst h5
      obtain ⟨x, i, h⟩ := known_of hg cf5
      exact ⟨(x, i), fun q hq => by rw [cf5.1] at hq; cases hq; exact h⟩
    rcases Nat.eq_or_lt_of_le (show 6 ≤ c by omega) with h6 | h6
    · subst h6
      obtain ⟨x, i, h⟩ := known_of hg cf6
      exact ⟨(x, i), fun q hq => by rw [cf6.1] at hq; cases hq; exact h⟩
    rcases Nat.eq_or_lt_of_le (show 7 ≤ c by omega) with h7 | h7
    · subst h7
      obtain ⟨x, i, h⟩ := known_of hg cf7
      exact ⟨(x, i), fun q hq => by rw [cf7.1] at hq; cases hq; exact h⟩
    rcases Nat.eq_or_lt_of_le (show 8 ≤ c by omega) with h8 | h8
    · subst h8
      obtain ⟨x, i, h⟩ := known_of hg cf8
      exact ⟨(x, i), fun q hq => by rw [cf8.1] at hq; cases hq; exact h⟩
    rcases Nat.eq_or_lt_of_le (show 9 ≤ c by omega) with h9 | h9
    · subst h9
      obtain ⟨x, i, h⟩ := known_of hg cf9
      exact ⟨(x, i), fun q hq => by rw [cf9.1] at hq; cases hq; exact h⟩
    rcases Nat.eq_or_lt_of_le (show 10 ≤ c by omega) with h10 | h10
    · subst h10
      obtain ⟨x, i, h⟩ := known_of hg cf10
      exact ⟨(x, i), fun q hq => by rw [cf10.1] at hq; cases hq; exact h⟩
    rcases Nat.eq_or_lt_of_le (show 11 ≤ c by omega) with h11 | h11
    · subst h11
      obtain ⟨x, i, h⟩ := known_of hg cf11
      exact ⟨(x, i), fun q hq => by rw [cf11.1] at hq; cases hq; exact h⟩
    rcases Nat.eq_or_lt_of_le (show 12 ≤ c by omega) with h12 | h12
    · subst h12
      obtain ⟨x, i, h⟩ := known_of hg cf12
      exact ⟨(x, i), fun q hq => by rw [cf12.1] at hq; cases hq; exact h⟩
    · refine ⟨(0, fun _ => 0), fun q hq => ?_⟩
      have : vwCl[c]? = none := by
        rw [List.getElem?_eq_none_iff]
        show 13 ≤ c
        omega
      rw [this] at hq
      cases hq
  obtain ⟨f, hf⟩ := Classical.axiomOfChoice h0
  exact ⟨(fun c => (f c).1, fun c => (f c).2), fun c q hq => hf c q hq⟩
theorem arr_prim {s : State} {args : Array Value} {ty : FieldType} (h : (Cond.arrayClass ty).before args s = true) (hn : ∀ C, ty ≠ .object C) : ∃ cA : ClassId, ArrOfT s cA ty ∧ va_RA s cA ty := by
  obtain ⟨cA, k, comp, h1, h2, h3⟩ := Cond.arrayClass_spec h
  refine ⟨cA, fun n z => ⟨fun k h => (by cases h), k, h2, comp, h3⟩, ?_⟩
  cases ty <;> first | exact h1 | exact absurd rfl (hn _)
theorem arr_obj {s : State} {args : Array Value} {C : String} (h : (Cond.arrayOver (.object C)).before args s = true) : ∃ cA : ClassId, ArrOfT s cA (.object C) ∧ va_RA s cA (.object C) := by
  obtain ⟨comp, cA, k, h1, h2, h3, h4, h5⟩ := Cond.arrayOver_spec h
  exact ⟨cA, fun n z => ⟨fun k h => (by cases h), k, h3, comp, h4⟩, k, comp, h3, h4, h1, h5⟩
theorem arr_all {s : State} {args : Array Value} (hts : ∀ w ∈ lw_tbl, w.before args s = true) : ∃ gc : Nat → ClassId, ∀ t, t < 10 → ArrOfT s (gc t) (arrT t) ∧ va_RA s (gc t) (arrT t) := by
  have h0 : ∀ t : Nat, ∃ cA : ClassId, t < 10 → ArrOfT s cA (arrT t) ∧ va_RA s cA (arrT t) := by
    intro t
    by_cases ht : t < 10
    · rcases (show t = 0 ∨ t = 1 ∨ t = 2 ∨ t = 3 ∨ t = 4 ∨ t = 5 ∨ t = 6 ∨ t = 7 ∨ t = 8 ∨ t = 9 by omega) with rfl | rfl | rfl | rfl | rfl | rfl | rfl | rfl | rfl | rfl
      · obtain ⟨cA, h⟩ := arr_prim (hts _ (gd_lw tw_61)) (fun C => by intro h; cases h); exact ⟨cA, fun _ => h⟩
      · obtain ⟨cA, h⟩ := arr_prim (hts _ (gd_lw tw_119)) (fun C => by intro h; cases h); exact ⟨cA, fun _ => h⟩
      · obtain ⟨cA, h⟩ := arr_prim (hts _ (gd_lw tw_62)) (fun C => by intro h; cases h); exact ⟨cA, fun _ => h⟩
      · obtain ⟨cA, h⟩ := arr_prim (hts _ (gd_lw tw_171)) (fun C => by intro h; cases h); exact ⟨cA, fun _ => h⟩
      · obtain ⟨cA, h⟩ := arr_obj (hts _ tq_64); exact ⟨cA, fun _ => h⟩
      · obtain ⟨cA, h⟩ := arr_obj (hts _ tq_66); exact ⟨cA, fun _ => h⟩
      · obtain ⟨cA, h⟩ := arr_obj (hts _ tq_199); exact ⟨cA, fun _ => h⟩
      · obtain ⟨cA, h⟩ := arr_obj (hts _ tq_121); exact ⟨cA, fun _ => h⟩
      · obtain ⟨cA, h⟩ := arr_obj (hts _ tq_825); exact ⟨cA, fun _ => h⟩
      · obtain ⟨cA, h⟩ := arr_obj (hts _ tq_827); exact ⟨cA, fun _ => h⟩
    · exact ⟨0, fun h => absurd h ht⟩
  obtain ⟨f, hf⟩ := Classical.axiomOfChoice h0
  exact ⟨f, hf⟩
def tmS (i : Nat) : Term := if i = 0 then .string "RiceHall$Scribe" 87 else .string "RiceHall$Scribe" 75
def flt : List Cond := flatC (Cond.and given_1 narrow_1)
theorem fl_unt : ∀ j, j < 11 → flt[7 + j]? = some (Cond.eq (.elem (.static "RiceHall$Law" "UNTOLD" "[I") (.int (Int32.ofNat j))) (.int (untl j))) := by decide +kernel
theorem fl_s0 : ∀ j, j < 128 → flt[27 + j]? = some (Cond.eq (.elem (.field (.string "RiceHall$Scribe" 87) "java/lang/String" "value" "[B") (.int (Int32.ofNat j))) (.int ((bytS.getD 0 []).getD j 0))) := by decide +kernel
theorem fl_s1 : ∀ j, j < 6 → flt[159 + j]? = some (Cond.eq (.elem (.field (.string "RiceHall$Scribe" 75) "java/lang/String" "value" "[B") (.int (Int32.ofNat j))) (.int ((bytS.getD 1 []).getD j 0))) := by decide +kernel
theorem fl_a : flt[5]? = some (Cond.arrayOf (.static "RiceHall$Law" "UNTOLD" "[I") .int) ∧ flt[6]? = some (Cond.eq (.length (.static "RiceHall$Law" "UNTOLD" "[I")) (.int 11)) ∧ flt[18]? = some (Cond.eq (.static "java/lang/String" "COMPACT_STRINGS" "Z") (.int 1)) ∧ flt[19]? = some (Cond.isRef (.static "jdk/internal/util/Preconditions" "SIOOBE_FORMATTER" "Ljava/util/function/BiFunction;")) := by decide +kernel
theorem fl_b : flt[23]? = some (Cond.exactly (.string "RiceHall$Scribe" 87) "java/lang/String") ∧ flt[24]? = some (Cond.eq (.field (.string "RiceHall$Scribe" 87) "java/lang/String" "coder" "B") (.int 0)) ∧ flt[25]? = some (Cond.arrayOf (.field (.string "RiceHall$Scribe" 87) "java/lang/String" "value" "[B") .byte) ∧ flt[26]? = some (Cond.eq (.length (.field (.string "RiceHall$Scribe" 87) "java/lang/String" "value" "[B")) (.int 128)) := by decide +kernel
theorem fl_c : flt[155]? = some (Cond.exactly (.string "RiceHall$Scribe" 75) "java/lang/String") ∧ flt[156]? = some (Cond.eq (.field (.string "RiceHall$Scribe" 75) "java/lang/String" "coder" "B") (.int 0)) ∧ flt[157]? = some (Cond.arrayOf (.field (.string "RiceHall$Scribe" 75) "java/lang/String" "value" "[B") .byte) ∧ flt[158]? = some (Cond.eq (.length (.field (.string "RiceHall$Scribe" 75) "java/lang/String" "value" "[B")) (.int 6)) ∧ flt[165]? = some (Cond.not (Cond.eq (.string "RiceHall$Scribe" 87) (.string "RiceHall$Scribe" 75))) := by decide +kernel
theorem W.q {p : Program} {l : Launch} {e : Env} {R : Room} {s : State} {m : MethodId} {args : Array Value} {below : List Frame} {meth : Method} {c : Code} {H : Heap} {locs : List Loc} {cells slots : Nat} {Q Q2 : State → Prop} {g : JFrame} (h : ∀ t, Q t → Q2 t) (w : W p l e R s m args below meth c H locs cells slots Q g) : W p l e R s m args below meth c H locs cells slots Q2 g := by
  intro T hT X
  obtain ⟨t, a, b⟩ := w T hT X
  exact ⟨t, a, h t b⟩
set_option maxHeartbeats 4000000 in
set_option maxRecDepth 100000 in
/-- the law's walk, out of what its function says -/
theorem whole_of (hlaw : ∀ (xs : Nat → Int32) (n : Nat), n ≤ 3072 → ∃ M', Lw_law xs n M0 = some (1, M') ∧ mZ M' ≤ 600008 ∧ mS M' ≤ 7302250) {p : Program} {e : Env} {s : State} {m : MethodId} {below : List Frame} {meth : Method} {c : Code} (l : Launch) {b L : Nat} {xs : Nat → Int32} (hL : L ≤ 3072) (C0 : lw_At p s m meth c b L xs) : W p l e room_1 s m #[Value.ref b] below meth c s.heap [] 0 0 (lw_Z below #[Value.ref b] s) (entryFrame m ([Value.ref b] : List Value).toArray 4) := by
  obtain ⟨hx, hb, hr, hml, hown, hts, hX, hbl, hlocks, hgv⟩ := id C0
  have hs := flat_of_before _ hgv
  have hat : ∀ {i : Nat} {w : Cond}, flt[i]? = some w → w.before #[Value.ref b] s = true := fun {i w} h => hs w (List.mem_of_getElem? h)
  have hg : ∀ w ∈ gd_tbl, w.before #[Value.ref b] s = true := fun w h => hts w (gd_lw h)
  have hAn : ∀ a : Nat, a < s.heap.size → ¬ (fun q : Nat => s.heap.size ≤ q) a := fun a h => Nat.not_le.mpr h
  obtain ⟨D, hD⟩ := known_all hg
  obtain ⟨gc, hgc⟩ := arr_all hts
  obtain ⟨t0, ht0, hT0⟩ := va_Tof (N := 11) (f := fun j => Value.int (untl j)) (A := fun q : Nat => s.heap.size ≤ q) (by decide) (hat fl_a.1) (va_eqt (hat fl_a.2.1)) (fun j hj => va_eqt (hat (fl_unt j hj))) hAn
  have hZ0 := va_Zref (hts _ tq_541) (hg _ tw_4) ht0 hAn
  have hZC := va_Zof (A := fun q : Nat => s.heap.size ≤ q) (hts _ tq_657) (hg _ tw_13) (va_eqi (hat fl_a.2.2.1)) hAn
  obtain ⟨tf, hZF⟩ : ∃ tf : Nat, va_Z "jdk/internal/util/Preconditions" "SIOOBE_FORMATTER" "Ljava/util/function/BiFunction;" .null (fun q : Nat => s.heap.size ≤ q) s s.heap ∨ va_Z "jdk/internal/util/Preconditions" "SIOOBE_FORMATTER" "Ljava/util/function/BiFunction;" (.ref tf) (fun q : Nat => s.heap.size ≤ q) s s.heap := by
    rcases va_Zqof (A := fun q : Nat => s.heap.size ≤ q) (hts _ tq_673) (hg _ tw_15) (hat fl_a.2.2.2) hAn with h | ⟨t, h⟩
    · exact ⟨0, Or.inl h⟩
    · exact ⟨t, Or.inr h⟩
  have two : ∀ {i : Nat}, i < 2 → i = 0 ∨ i = 1 := fun {i} h => by omega
  obtain ⟨adK, adV, hSS, hSe⟩ := vk_Sof (args := #[Value.ref b]) (s := s) (N := 2) (tm := tmS) (len := lenS) (byt := bytS) (A := fun q : Nat => s.heap.size ≤ q)
    (fun i hi => by rcases two hi with rfl | rfl <;> decide)
    (fun i hi => by rcases two hi with rfl | rfl; exact hat fl_b.1; exact hat fl_c.1)
    (fun i hi => by rcases two hi with rfl | rfl; exact hat fl_b.2.1; exact hat fl_c.2.1)
    (fun i hi => by rcases two hi with rfl | rfl; exact hat fl_b.2.2.1; exact hat fl_c.2.2.1)
    (fun i hi => by rcases two hi with rfl | rfl; exact hat fl_b.2.2.2; exact hat fl_c.2.2.2.1)
    (fun i hi j hj => by rcases two hi with rfl | rfl; exact hat (fl_s0 j hj); exact hat (fl_s1 j hj))
    (fun i j hi hj hij => by
      rcases two hi with rfl | rfl <;> rcases two hj with rfl | rfl
      · exact absurd rfl hij
      · exact Or.inl (hat fl_c.2.2.2.2)
      · exact Or.inr (hat fl_c.2.2.2.2)
      · exact absurd rfl hij)
    hAn
  let X : Nat → Nat := fun i => match i with
    | 0 => t0
    | 1 => adK 0
    | 2 => adK 1
    | 3 => b
    | 4 => adV 0
    | 5 => adV 1
    | _ => tf
  let G : Gx := (l, D, gc, s.heap.size, X, L, xs)
  have hK : va_K (gD G) vwCl (gT G) s := by
    refine ⟨hD, fun k q hk => ?_⟩
    have hk10 : k < 10 := (List.getElem?_eq_some_iff.mp hk).1
    rw [gT_at hk10] at hk
    cases hk
    exact hgc k hk10
  have hE : Exh G s s.heap := by
    refine ⟨hZ0, hT0, ⟨fun i hi => ?_, fun i j hi hj e => ?_⟩, hZC, hZF, hX, hbl, hbl⟩
    · rcases two hi with rfl | rfl
      · exact hSS.1 0 (by decide)
      · exact hSS.1 1 (by decide)
    · rcases two hi with rfl | rfl <;> rcases two hj with rfl | rfl
      · rfl
      · exact hSS.2 0 1 (by decide) (by decide) e
      · exact hSS.2 1 0 (by decide) (by decide) e
      · rfl
  have hEu : Exu G s := ⟨vk_R.of (hts _ tq_647) (hSe 0 (by decide)), vk_R.of (hts _ tq_699) (hSe 1 (by decide)), va_AO.of (hts _ tq_64), va_AO.of (hts _ tq_66), va_AO.of (hts _ tq_199), va_AO.of (hts _ tq_121), va_AO.of (hts _ tq_825), va_AO.of (hts _ tq_827), va_Nw.of rfl (hts _ tq_275), va_Nw.of rfl (hts _ tq_1159), va_Nw.of rfl (hts _ tq_770)⟩
  have hR : Rep G M0 s.heap := by
    refine ⟨rfl, Nat.le_refl _, fun k q hk => ?_, fun a _ => rfl⟩
    have h1 := (wsO_inv G M0 hk).1
    exact absurd h1 (by show ¬ k < 8 - 8; omega)
  obtain ⟨M', hM, hz, hsl⟩ := hlaw xs L hL
  obtain ⟨g1, g2, hw⟩ := e_Lw_law (G := G) rfl rfl M0 1 M' hM
  have hl := lv_entry ([.ref b]) (n := 4) (Nat.le_of_ble_eq_true rfl)
  rw [lg_entry_eq]
  generalize (lg_sl ([.ref b]) ++ List.replicate (4 - (lg_sl ([.ref b])).length) Slot.unset).toArray = ls at hl ⊢
  have hl : lv_has ls 4 [(0, .ref b)] := hl
  have hA : Atx G Y_Lw_law 50 p s m #[Value.ref b] meth c room_1 := ⟨hx, hb, hml, hown, hg, hK, hE, hEu, hr, hlocks, fun h => absurd h (by decide), by decide, by decide, Nat.le_refl _⟩
  refine W.widen (k := 600000 - (mZ M' - 8)) (n := 7302250 - mS M') (Nat.zero_le _) (Nat.zero_le _) ?_
  refine W.q ?_ (hw p e s m #[Value.ref b] below meth c room_1 s.heap [] _ _ ls hA hR va_S.rf hl ?_ ?_)
  · rintro t ⟨o, h1, h2, ⟨h3, h4, h5⟩, LL, ⟨h6, h7, h8⟩, h9⟩
    refine ⟨o, h1, h2, h3, h6, h7, ?_⟩
    refine h8.weaken (fun y hy hlt => ?_) (Nat.le_refl _) (Nat.le_refl _)
    exact absurd hlt (Nat.not_lt.mpr (h9 y hy))
  · show 600000 - (mZ M' - 8) + (mZ M' - 8) = 600000
    omega
  · show 7302250 - mS M' + (mS M' - 0) = 7302250
    omega
