theorem arrV_cong {cI : ClassId} {N : Nat} {f g : Nat → Value} (h : ∀ j, j < N → f j = g j) : arrV cI N f = arrV cI N g := by
  unfold arrV
  congr 1
  apply Array.ext
  · simp
  · intro i h1 h2
    simp at h1
    simp [h i h1]
def Str_len (i : Nat) (M : Mm) : Option (Int32 × Mm) := some (Int32.ofNat (lenS.getD i 0), M)
def Str_chr (i : Nat) (M : Mm) (x : Int32) : Option (Int32 × Mm) := ck (kS (lenS.getD i 0) x) (some ((bytS.getD i []).getD (ix x) 0, M))
theorem s_Str_len (G : Gx) (M : Mm) (i : Nat) (hi : i < 2) : FnS G Y_Str_length cvI 2 [.ref (i + 1)] M (Str_len i M) := s_Str_length G M i hi rfl
theorem s_Str_chr (G : Gx) (M : Mm) (i : Nat) (hi : i < 2) (x : Int32) : FnS G Y_Str_charAt cvI 4 [.ref (i + 1), .int x] M (Str_chr i M x) := by
  unfold Str_chr
  cases h : kS (lenS.getD i 0) x with
  | false => intro r M' q; cases q
  | true =>
    obtain ⟨h0, h1, h2⟩ := kS_two hi h
    have := s_Str_charAt G M i hi x h h0 h1
    rw [tx_ok i hi _ h2] at this
    exact this
/-- the first n places of a come into b -/
def cpy (M : Mm) (a b n : Nat) : Mm := (fun c j => if c = b ∧ j < n then mI M a j else mI M c j, mL M, mR M, mK M, mZ M, mS M)
theorem mI_cpy (M : Mm) (a b n c j : Nat) : mI (cpy M a b n) c j = if c = b ∧ j < n then mI M a j else mI M c j := rfl
theorem mL_cpy (M : Mm) (a b n : Nat) : mL (cpy M a b n) = mL M := rfl
theorem mR_cpy (M : Mm) (a b n : Nat) : mR (cpy M a b n) = mR M := rfl
theorem mK_cpy (M : Mm) (a b n : Nat) : mK (cpy M a b n) = mK M := rfl
theorem mZ_cpy (M : Mm) (a b n : Nat) : mZ (cpy M a b n) = mZ M := rfl
theorem mS_cpy (M : Mm) (a b n : Nat) : mS (cpy M a b n) = mS M := rfl
theorem tn_arraycopy : Cond.native arraycopyName ∈ gd_tbl := gd_of tq_775 rfl
theorem tn_clone : Cond.native (⟨"java/lang/Object", "clone", "()Ljava/lang/Object;"⟩ : MethodName) ∈ gd_tbl := gd_of tq_767 rfl
theorem tn_same : Cond.sameMethod "[I" "java/lang/Object" "clone" "()Ljava/lang/Object;" ∈ gd_tbl := gd_of tq_766 rfl
section EJ7
variable {G : Gx} {Y : Ym} {ρ : Type} {cv : ρ → Option Value} {d pc : Nat} {lv : List (Nat × Value)} {st : List Value} {M : Mm} {o o1 o2 : Option (ρ × Mm)}
/-- System.arraycopy of ints, from the first place to the first place -/
theorem EJ_acopy (pc2 : Nat) {a b : Nat} {n : Int32} (ha : kT M a 20 = true) (hb2 : kT M b 20 = true) (hn : ¬ n < 0) (h4 : n.toNatClampNeg ≤ (mK M a).2) (h5 : n.toNatClampNeg ≤ (mK M b).2) (dd : decode Y.2.1 pc = .ok (.invokestatic 150, 3)) (hp : pc + 3 = pc2) (hY : Y.1.cls = "java/util/Arrays") (hd : 1 ≤ d) (hst : st = []) (kk : EJ G Y cv d pc2 lv st (cpy M a b (ix n)) o) : EJ G Y cv d pc lv (.int n :: .int 0 :: .ref b :: .int 0 :: .ref a :: st) M o := by
  subst hp; subst hst
  have h1 : (mK M a).1 = 20 := by simpa [kT] using ha
  have h2 : (mK M b).1 = 20 := by simpa [kT] using hb2
  intro r M' ho
  obtain ⟨g1, g2, k⟩ := kk r M' ho
  refine ⟨g1, g2, fun p e s m args below meth c R H locs cells slots ls hA hR hS hl hc hs => ?_⟩
  obtain ⟨hx, hb, hml, hown, hts, hK, hE, hEu, hr, hlk, hnm, hfr, hlo, hB⟩ := id hA
  intro T hT X
  have z0 : (0 : Int32).toNatClampNeg = 0 := by decide
  have i0 : (0 : Int32).toInt = 0 := by decide
  have nn : n.toInt = (n.toNatClampNeg : Int) := by
    have hz0 : (0 : Int) ≤ n.toInt := by
      have := Int32.not_lt.mp hn
      simpa using Int32.le_iff_toInt_le.mp this
    show n.toInt = ((n.toInt.toNat : Nat) : Int)
    omega
  have earl : ∀ c, arl G M c 0 = .inl (mI M c) := fun c => by unfold arl; rw [if_pos (by omega)]
  have hPa := hR.arr (t := 0) h1 (by decide)
  have hPb := hR.arr (t := 0) h2 (by decide)
  rw [earl] at hPa hPb
  have hc0 : H[adr G a]? = some (arrV (gC G 0) (mK M a).2 (fun j => .int (mI M a j))) := hR.2.2.1 _ _ hPa
  have hc1 : H[adr G b]? = some (arrV (gC G 0) (mK M b).2 (fun j => .int (mI M b j))) := hR.2.2.1 _ _ hPb
  obtain ⟨-, k0, hk0, cm0, hkk0⟩ := (hK.2 0 _ (gT_at (by decide))).1 (mK M a).2 (fun j => .int (mI M a j))
  obtain ⟨-, k1, hk1, cm1, hkk1⟩ := (hK.2 0 _ (gT_at (by decide))).1 (mK M b).2 (fun j => .int (mI M b j))
  have hw9 : nativeFrameWords "java/lang/System" "arraycopy" 5 + 11 ≤ 100 := by decide
  have hwords : 2 * (F0 m pc ls (.int n :: .int 0 :: .ref (adr G b) :: .int 0 :: .ref (adr G a) :: [])).monitorRoom + (([] : List Value).map fun v => v.category).sum + (nativeFrameWords "java/lang/System" "arraycopy" 5 + 11) ≤ R.locals := by
    show 2 * 0 + 0 + (nativeFrameWords "java/lang/System" "arraycopy" 5 + 11) ≤ R.locals
    omega
  obtain ⟨vm', X', step⟩ := X.arraycopy hx hown (hts _ (by rw [hY]; exact tw_773)) (hts _ tn_arraycopy) (hts _ tw_774) (hts _ tw_17) (src := adr G a) (dst := adr G b) (srcPos := 0) (destPos := 0) (n := n) (by rw [hT]; exact hc0) (by rw [hT]; exact hc1)
    (fun _ h => by cases h) (fun _ h => by cases h) (fun h => by cases h) (fun h => by cases h) hk0 hk1 hkk0 hkk1 (by simp [arrT, refKind]) (by decide) (by decide) hn
    (by rw [i0, nn, arrV_size]; omega)
    (by rw [i0, nn, arrV_size]; omega)
    (fun vm₁ _ i hi => by
      have e : (arrV (gC G 0) (mK M a).2 (fun j => .int (mI M a j))).slots.getD ((0 : Int32).toNatClampNeg + i) .null = .int (mI M a i) := by
        rw [Array.getD_eq_getD_getElem?, z0, Nat.zero_add, arrV_read _ _ (by omega)]
        rfl
      refine ⟨?_, ?_⟩
      · rw [e]; rfl
      · rw [e]; exact trivial)
    (g := F0 m pc ls (.int n :: .int 0 :: .ref (adr G b) :: .int 0 :: .ref (adr G a) :: [])) rfl (by rw [hml]; exact hl.1) (rest := []) rfl (by rw [hb]; exact dd) (by omega) hwords
  have e1 : copied (arrV (gC G 0) (mK M a).2 (fun j => .int (mI M a j))) (arrV (gC G 0) (mK M b).2 (fun j => .int (mI M b j))) 0 0 n = arrV (gC G 0) (mK M b).2 (fun j => .int (mI (cpy M a b (ix n)) b j)) := by
    have e2 := va_copied (n1 := (mK M b).2) (dp := 0) (fun z => Value.int z) (gC G 0) (gC G 0) (mI M a) (mI M b) (sp := 0) (n := n.toNatClampNeg) (n0 := (mK M a).2) (by omega)
    refine Eq.trans ?_ (e2.trans ?_)
    · rfl
    · congr 1
      funext j
      rw [mI_cpy]
      unfold va_cpy
      by_cases hj : j < n.toNatClampNeg
      · rw [if_pos ⟨Nat.zero_le j, by omega⟩, if_pos ⟨rfl, hj⟩]
        congr 2
        omega
      · rw [if_neg (fun q => hj (by omega)), if_neg (fun q => hj q.2)]
  rw [e1] at X' step
  have hlt : adr G b < H.size := (Array.getElem?_eq_some_iff.mp hc1).1
  have oq : ∀ q : Nat, q ≠ adr G b → (H.setIfInBounds (adr G b) (arrV (gC G 0) (mK M b).2 (fun j => .int (mI (cpy M a b (ix n)) b j))))[q]? = H[q]? := fun q hq => by simp [Array.getElem?_setIfInBounds, Ne.symm hq]
  have hR2 : Rep G (cpy M a b (ix n)) (H.setIfInBounds (adr G b) (arrV (gC G 0) (mK M b).2 (fun j => .int (mI (cpy M a b (ix n)) b j)))) := by
    refine hR.ast (t := 0) h2 (by decide) rfl rfl (fun q hq => ?_) ?_ (by simp) oq
    · exact ent_cong (fun j => by rw [mI_cpy, if_neg (fun z => hq z.1)]) (fun _ => rfl) (fun _ => rfl) rfl
    · have earl2 : arl G (cpy M a b (ix n)) b 0 = .inl (mI (cpy M a b (ix n)) b) := by unfold arl; rw [if_pos (by omega)]
      rw [earl2]
      show (H.setIfInBounds (adr G b) (arrV (gC G 0) (mK M b).2 (fun j => .int (mI (cpy M a b (ix n)) b j))))[adr G b]? = some (arrV (gC G 0) (mK M b).2 (fun j => .int (mI (cpy M a b (ix n)) b j)))
      simp [Array.getElem?_setIfInBounds, hlt]
  have hb8 : Aq G (adr G b) := (wsO_D G M).2 _ _ hPb
  have hS2 : ∀ L : List Loc, (∀ q ∈ L, q.base = adr G b) → va_S (Aq G) s.heap (H.setIfInBounds (adr G b) (arrV (gC G 0) (mK M b).2 (fun j => .int (mI (cpy M a b (ix n)) b j)))) (locs ++ L) := by
    intro L hL
    refine ⟨by simp; exact hS.1, fun q g1 g2 => ?_, fun q hq => ?_⟩
    · rw [oq q (fun e => g2 (by rw [e]; exact hb8))]
      exact hS.2.1 q g1 g2
    · rcases List.mem_append.mp hq with h | h
      · exact hS.2.2 q h
      · rw [hL q h]; exact hb8
  obtain ⟨t, a1, b1⟩ := k p e s m args below meth c R _ _ cells slots ls hA hR2 (hS2 _ (fun q hq => by
      obtain ⟨z, -, hz⟩ := List.mem_map.mp hq
      rw [← hz])) hl hc hs _ (by rw [← hT]; rfl) X'
  exact ⟨t, step t a1, b1⟩
/-- a cell more, with what it holds -/
theorem EJ_moreG {pc2 n : Nat} {st2 : List Value} {M2 : Mm} (hZ : mZ M2 = mZ M + 1) (hSs : mS M2 = mS M + n) (h : ∀ (p : Program) (e : Env) (s : State) (m : MethodId) (args : Array Value) (below : List Frame) (meth : Method) (c0 : Code) (R : Room) (H : Heap) (locs : List Loc) (cells slots : Nat) (ls : Array Slot) (Q : State → Prop), Atx G Y d p s m args meth c0 R → Rep G M H → va_S (Aq G) s.heap H locs → lv_has ls Y.2.2.1 (lv.map (fun q => (q.1, rho G q.2))) → cells + 1 ≤ R.cells → slots + n ≤ R.slots → (∀ H2 : Heap, Rep G M2 H2 → va_S (Aq G) s.heap H2 locs → W p (gl G) e R s m args below meth c0 H2 locs (cells + 1) (slots + n) Q (F0 m pc2 ls (st2.map (rho G)))) → W p (gl G) e R s m args below meth c0 H locs cells slots Q (F0 m pc ls (st.map (rho G)))) (k : EJ G Y cv d pc2 lv st2 M2 o) : EJ G Y cv d pc lv st M o := by
  intro r M' ho
  obtain ⟨h1, h2, k⟩ := k r M' ho
  refine ⟨by omega, by omega, fun p e s m args below meth c0 R H locs cells slots ls hA hR hS hl hc hs => h p e s m args below meth c0 R H locs cells slots ls _ hA hR hS hl (by omega) (by omega) (fun H2 hR2 hS2 => k p e s m args below meth c0 R H2 locs (cells + 1) (slots + n) ls hA hR2 hS2 hl ?_ ?_)⟩
  · omega
  · omega
theorem EJ_clone (pc2 : Nat) {a : Nat} (ha : kT M a 20 = true) (dd : decode Y.2.1 pc = .ok (.invokevirtual 316, 3)) (hp : pc + 3 = pc2) (hY : Y.1.cls = "java/util/Arrays") (hd : 1 ≤ d) (hst : st = []) (kk : EJ G Y cv d pc2 lv (.ref (mZ M) :: st) (cpy (nw M 20 (mK M a).2) a (mZ M) (mK M a).2) o) : EJ G Y cv d pc lv (.ref a :: st) M o := by
  subst hp; subst hst
  have h1 : (mK M a).1 = 20 := by simpa [kT] using ha
  refine EJ_moreG (n := (mK M a).2) rfl rfl (fun p e s m args below meth c R H locs cells slots ls Q hA hR hS hl hcl hsl w => ?_) kk
  obtain ⟨hx, hb, hml, hown, hts, hK, hE, hEu, hr, hlk, hnm, hfr, hlo, hB⟩ := id hA
  intro T hT X
  obtain ⟨b8, bz, -⟩ := hR.at (a := a) (by rw [h1]; decide)
  have earl : ∀ c, arl G M c 0 = .inl (mI M c) := fun c => by unfold arl; rw [if_pos (by omega)]
  have hPa := hR.arr (t := 0) h1 (by decide)
  rw [earl] at hPa
  have hc0 : H[adr G a]? = some (arrV (gC G 0) (mK M a).2 (fun j => .int (mI M a j))) := hR.2.2.1 _ _ hPa
  have hsz : (arrV (gC G 0) (mK M a).2 (fun j => .int (mI M a j))).slots.size = (mK M a).2 := arrV_size _ _ _
  obtain ⟨c0, t0', f1, f2, f3⟩ := Cond.castable_spec (va_Nw.use (A := args) rfl hEu.2.2.2.2.2.2.2.2.2.2)
  have hnmI : s.vm.findClass "[I" = some (gC G 0) := (hK.2 0 _ (gT_at (by decide))).2
  cases hnmI.symm.trans f1
  obtain ⟨-, kA, hkA, comp, hkind⟩ := State.isArrayOf_alike X.warmed.alike ((hK.2 0 _ (gT_at (by decide))).1 0 (fun _ => .null))
  obtain ⟨-, kS, hkS, compS, hkindS⟩ := (hK.2 0 _ (gT_at (by decide))).1 0 (fun _ => .null)
  obtain ⟨vm', X', stp⟩ := X.cloneArray hx hown (hts _ (by rw [hY]; exact tw_765)) (hts _ tn_same) (hts _ tn_clone) (hts _ tw_768) (hts _ tw_769) (a := adr G a) (cell := arrV (gC G 0) (mK M a).2 (fun j => .int (mI M a j))) (by rw [hT]; exact hc0) (fun k h => by cases h) (fun h => by cases h) hnmI f2 f3
    (fun i v hv => by
      have hk' : T.vm.classes[gC G 0]? = some kA := hkA
      have hv2 : ∃ z : Int32, v = .int z := by
        by_cases hi : i < (mK M a).2
        · rw [arrV_read _ _ hi] at hv
          exact ⟨_, (Option.some.inj hv).symm⟩
        · have := (Array.getElem?_eq_some_iff.mp hv).1
          rw [arrV_size] at this
          omega
      obtain ⟨z, rfl⟩ := hv2
      show State.fitsSlot _ (gC G 0) _ _ _ = true
      have hkind2 : kA.kind = .array comp .int := hkind
      simp [State.fitsSlot, State.slotType?, hk', hkind2, fits])
    (g := F0 m pc ls [.ref (adr G a)]) rfl (by rw [hml]; exact hl.1) rfl (by rw [hb]; exact dd) (by omega) (by show 2 * 0 + 0 + 14 ≤ _; omega) hcl (by rw [hsz]; exact hsl) (hloader := Vm.clonesLoader_of_array hkS hkindS)
  rw [hsz] at X'
  have hcellE : ({ cls := (arrV (gC G 0) (mK M a).2 (fun j => .int (mI M a j))).cls, slots := (arrV (gC G 0) (mK M a).2 (fun j => .int (mI M a j))).slots } : Cell) = arrV (gC G 0) (mK M a).2 (fun j => .int (mI M a j)) := rfl
  rw [hcellE] at X' stp
  generalize hH1 : H.push (arrV (gC G 0) (mK M a).2 (fun j => .int (mI M a j))) = H1
  have z1 : H1.size = H.size + 1 := by rw [← hH1, Array.size_push]
  have e1 : H1[H.size]? = some (arrV (gC G 0) (mK M a).2 (fun j => .int (mI M a j))) := by rw [← hH1, Array.getElem?_push_size]
  have q1 : ∀ q : Nat, q < H.size → H1[q]? = H[q]? := fun q hq => by rw [← hH1, Array.getElem?_push, if_neg (Nat.ne_of_lt hq)]
  have hR2 : Rep G (cpy (nw M 20 (mK M a).2) a (mZ M) (mK M a).2) H1 := by
    have hne : a ≠ mZ M := by omega
    have ew : wsO G (cpy (nw M 20 (mK M a).2) a (mZ M) (mK M a).2) = wsO G M ++ [(adr G (mZ M), ent G (cpy (nw M 20 (mK M a).2) a (mZ M) (mK M a).2) (mZ M))] := by
      have e5 := wsO_push (G := G) (M := M) (c := 20) (n := (mK M a).2) hR.2.1
      have e6 : (wsO G (nw M 20 (mK M a).2)).set (mZ M - 8) (adr G (mZ M), ent G (cpy (nw M 20 (mK M a).2) a (mZ M) (mK M a).2) (mZ M)) = wsO G (cpy (nw M 20 (mK M a).2) a (mZ M) (mK M a).2) := by
        refine wsO_set hR.2.1 (by rw [mZ_nw]; omega) rfl (fun q hq => ?_)
        exact ent_cong (fun j => by rw [mI_cpy, if_neg (fun z => hq z.1)]) (fun _ => rfl) (fun _ => rfl) rfl
      rw [← e6, e5]
      have hlen : (wsO G M).length = mZ M - 8 := wsO_len G M
      rw [List.set_append, if_neg (by omega), hlen, Nat.sub_self]
      rfl
    refine ⟨by rw [z1]; show H.size + 1 + 8 = gB G + (mZ M + 1); have := hR.1; omega, by show 8 ≤ mZ M + 1; have := hR.2.1; omega, ?_, fun q hq => ?_⟩
    · rw [ew]
      refine (hR.2.2.1.kept (fun k q hk => q1 q.1 ((hR.2.2.1 k q hk).lt))).app (fun k q hk => ?_)
      have hz : k < 1 := (List.getElem?_eq_some_iff.mp hk).1
      rw [show k = 0 by omega] at hk
      cases hk
      have hk2 : mK (cpy (nw M 20 (mK M a).2) a (mZ M) (mK M a).2) (mZ M) = (20, (mK M a).2) := by rw [mK_cpy]; exact mK_new _ _ _
      rw [ent_A (t := 0) (by rw [hk2]), hk2, ← hR.adr]
      show H1[H.size]? = some (vp_cell (gC G 0) _)
      rw [e1]
      have e7 : arl G (cpy (nw M 20 (mK M a).2) a (mZ M) (mK M a).2) (mZ M) 0 = .inl (mI (cpy (nw M 20 (mK M a).2) a (mZ M) (mK M a).2) (mZ M)) := by unfold arl; rw [if_pos (by omega)]
      rw [e7]
      show some (arrV (gC G 0) (mK M a).2 (fun j => .int (mI M a j))) = some (arrV (gC G 0) (mK M a).2 (fun j => .int (mI (cpy (nw M 20 (mK M a).2) a (mZ M) (mK M a).2) (mZ M) j)))
      congr 1
      apply arrV_cong
      intro j hj
      rw [mI_cpy, if_pos ⟨rfl, hj⟩, mI_nw, if_neg hne]
    · have hq : ¬ (8 ≤ q ∧ q < mZ M + 1) := hq
      rw [mK_cpy, mK_nw, if_neg (by have := hR.2.1; omega)]
      exact hR.2.2.2 q (by omega)
  have hS2 := hS.more z1 q1
  have e2 : (([.ref (mZ M)] : List Value).map (rho G)) = [.ref H.size] := by rw [hR.adr]; rfl
  have w2 := w H1 hR2 hS2
  rw [e2] at w2
  obtain ⟨t, b1, b2⟩ := w2 ((T.setVm vm').pushCell (arrV (gC G 0) (mK M a).2 (fun j => .int (mI M a j)))) (by rw [← hH1, ← hT]; rfl) X'
  refine ⟨t, stp t ?_, b2⟩
  rw [hT]
  exact b1
/-- checkcast to int[] -/
theorem EJ_castI (pc2 : Nat) {a : Nat} (ha : kT M a 20 = true) (dd : decode Y.2.1 pc = .ok (.checkcast 317, 3)) (hp : pc + 3 = pc2) (hY : Y.1.cls = "java/util/Arrays") (kk : EJ G Y cv d pc2 lv (.ref a :: st) M o) : EJ G Y cv d pc lv (.ref a :: st) M o := by
  subst hp
  have h1 : (mK M a).1 = 20 := by simpa [kT] using ha
  refine EJ_step (fun p e s m args below meth c R H locs cells slots ls Q hA hR hS hl w => ?_) kk
  obtain ⟨hx, hb, hml, hown, hts, hK, hE, hEu, -⟩ := id hA
  exact va_castA hx hb hown (hts _ (by rw [hY]; exact tw_771)) hR.2.2.1 (a - 8) (hR.arr (t := 0) h1 (by decide)) (hK.2 0 _ (gT_at (by decide))).2 dd w
end EJ7
