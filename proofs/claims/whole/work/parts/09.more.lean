theorem cf0 : CFx 0 RX0 TX0 14 tyX0 := ⟨rfl, by decide, inX0, tyX0_ok, nmX0, rfl, by decide +kernel, tw_935, tw_20⟩
theorem cf1 : CFx 1 RX1 TX1 6 tyX1 := ⟨rfl, by decide, inX1, tyX1_ok, nmX1, rfl, by decide +kernel, tw_878, tw_19⟩
theorem cf2 : CFx 2 RX2 TX2 5 tyX2 := ⟨rfl, by decide, inX2, tyX2_ok, nmX2, rfl, by decide +kernel, tw_534, tw_12⟩
theorem cf3 : CFx 3 RX3 TX3 7 tyX3 := ⟨rfl, by decide, inX3, tyX3_ok, nmX3, rfl, by decide +kernel, tw_141, tw_6⟩
theorem cf4 : CFx 4 RX4 TX4 7 tyX4 := ⟨rfl, by decide, inX4, tyX4_ok, nmX4, rfl, by decide +kernel, tw_30, tw_2⟩
theorem cf5 : CFx 5 RX5 TX5 5 tyX5 := ⟨rfl, by decide, inX5, tyX5_ok, nmX5, rfl, by decide +kernel, tw_68, tw_4⟩
theorem cf6 : CFx 6 RX6 TX6 9 tyX6 := ⟨rfl, by decide, inX6, tyX6_ok, nmX6, rfl, by decide +kernel, tw_332, tw_10⟩
theorem cf7 : CFx 7 RX7 TX7 5 tyX7 := ⟨rfl, by decide, inX7, tyX7_ok, nmX7, rfl, by decide +kernel, tw_173, tw_7⟩
theorem cf8 : CFx 8 RX8 TX8 11 tyX8 := ⟨rfl, by decide, inX8, tyX8_ok, nmX8, rfl, by decide +kernel, tw_74, tw_5⟩
theorem cf9 : CFx 9 RX9 TX9 11 tyX9 := ⟨rfl, by decide, inX9, tyX9_ok, nmX9, rfl, by decide +kernel, tw_819, tw_18⟩
theorem cf10 : CFx 10 RX10 TX10 14 tyX10 := ⟨rfl, by decide, inX10, tyX10_ok, nmX10, rfl, by decide +kernel, tw_395, tw_11⟩
theorem cf11 : CFx 11 RX11 TX11 18 tyX11 := ⟨rfl, by decide, inX11, tyX11_ok, nmX11, rfl, by decide +kernel, tw_22, tw_1⟩
theorem cf12 : CFx 12 RX12 TX12 107 tyX12 := ⟨rfl, by decide, inX12, tyX12_ok, nmX12, rfl, by decide +kernel, tw_1193, tw_8⟩
def fu : Nat := 1000000
theorem mK_new (M : Mm) (c n : Nat) : mK (nw M c n) (mZ M) = (c, n) := if_pos rfl
theorem narZ {v : Int32} (h : kZ v = true) : narrow .boolean (.int v) = .int v := by
  have hx : v = 0 ∨ v = 1 := by simpa [kZ] using h
  rcases hx with rfl | rfl <;> rfl
abbrev rm (x y : Int32) : Int32 := x - x / y * y
abbrev us (x : Int64) (y : Int32) : Int64 := (x.toUInt64 >>> (y.toInt64.toUInt64 &&& Int64.toUInt64 63)).toInt64
abbrev i2b (x : Int32) : Int32 := x.toInt8.toInt32
def kS (n : Nat) (i : Int32) : Bool := decide (0 ≤ i) && decide (i.toNatClampNeg < n)
theorem kS_spec {n : Nat} {i : Int32} (h : kS n i = true) : vp_in i n := by
  simp only [kS, Bool.and_eq_true, decide_eq_true_eq] at h
  intro q
  rcases q with q | q
  · exact absurd q (Int32.not_lt.mpr h.1)
  · omega
theorem tabOut {x : Int32} {lo hi : Int} (h : ∀ k : Int, lo ≤ k → k ≤ hi → ¬ x = Int32.ofInt k) : x.toInt < lo ∨ hi < x.toInt := by
  apply Classical.byContradiction
  intro q
  have q : lo ≤ x.toInt ∧ x.toInt ≤ hi := by omega
  exact h x.toInt q.1 q.2 (Int32.ofInt_toInt x).symm
def tx1 (j : Nat) : Int32 := (bytS.getD 0 []).getD j 0
def tx2 (j : Nat) : Int32 := (bytS.getD 1 []).getD j 0
theorem kp_I {M : Mm} {a k b : Nat} {v : Int32} {x : Nat × Nat} (h : mK M b = x) : mK (sI M a k v) b = x := h
theorem kp_L {M : Mm} {a k b : Nat} {v : Int64} {x : Nat × Nat} (h : mK M b = x) : mK (sL M a k v) b = x := h
theorem kp_R {M : Mm} {a k b : Nat} {v : Option Nat} {x : Nat × Nat} (h : mK M b = x) : mK (sR M a k v) b = x := h
theorem ka_I {M : Mm} {a k b t : Nat} {v i : Int32} (h : kA M b t i = true) : kA (sI M a k v) b t i = true := h
theorem ka_L {M : Mm} {a k b t : Nat} {v : Int64} {i : Int32} (h : kA M b t i = true) : kA (sL M a k v) b t i = true := h
theorem ka_R {M : Mm} {a k b t : Nat} {v : Option Nat} {i : Int32} (h : kA M b t i = true) : kA (sR M a k v) b t i = true := h
section EJ5
variable {G : Gx} {Y : Ym} {ρ : Type} {cv : ρ → Option Value} {d pc : Nat} {lv : List (Nat × Value)} {st : List Value} {M : Mm} {o o1 o2 : Option (ρ × Mm)}
theorem EJ_callVi {q1 : Option (Int32 × Mm)} {k : Int32 → Mm → Option (ρ × Mm)} {Y2 : Ym} (pc2 : Nat) {d2 i n b c N : Nat} {C : String} {T : u_T} {ty : Nat → FieldType} {As rest : List Value} (cf : CFx c C T N ty) (hf : FnS G Y2 cvI d2 (.ref b :: As) M q1) (hm : mK M b = (c, N)) (hst : st = As.reverse ++ .ref b :: rest) (dd : decode Y.2.1 pc = .ok (.invokevirtual i, 3)) (hp : pc + 3 = pc2) (w1 : Cond.methodLink Y.1.cls i Y2.1 ∈ gd_tbl) (w2 : Cond.instanceMethod Y2.1 ∈ gd_tbl) (w3 : Cond.selects C Y2.1 Y2.1 ∈ gd_tbl) (w4 : Cond.code Y2.1 Y2.2.1 Y2.2.2.1 Y2.2.2.2 ∈ gd_tbl) (hd : Y2.1.cls = C ∧ Y2.1.cls ≠ "java/lang/invoke/MethodHandle" ∧ Y2.1.cls ≠ "java/lang/invoke/VarHandle" ∧ (parseMethodDescriptor Y2.1.desc).map (fun d => d.parameters.length) = some n) (hn : As.length = n) (hroom : d2 + 1 ≤ d ∧ Y2.2.2.1 ≤ 81) (hW : (rest.map fun v => v.category).sum ≤ 8) (kk : ∀ r1 M1, EJ G Y cv d pc2 lv (.int r1 :: rest) M1 (k r1 M1)) : EJ G Y cv d pc lv st M (bd q1 k) := by
  subst hp
  exact EJ_callV cf hf hm hst dd w1 w2 w3 w4 hd hn hroom hW kk
theorem EJ_callVl {q1 : Option (Int64 × Mm)} {k : Int64 → Mm → Option (ρ × Mm)} {Y2 : Ym} (pc2 : Nat) {d2 i n b c N : Nat} {C : String} {T : u_T} {ty : Nat → FieldType} {As rest : List Value} (cf : CFx c C T N ty) (hf : FnS G Y2 cvL d2 (.ref b :: As) M q1) (hm : mK M b = (c, N)) (hst : st = As.reverse ++ .ref b :: rest) (dd : decode Y.2.1 pc = .ok (.invokevirtual i, 3)) (hp : pc + 3 = pc2) (w1 : Cond.methodLink Y.1.cls i Y2.1 ∈ gd_tbl) (w2 : Cond.instanceMethod Y2.1 ∈ gd_tbl) (w3 : Cond.selects C Y2.1 Y2.1 ∈ gd_tbl) (w4 : Cond.code Y2.1 Y2.2.1 Y2.2.2.1 Y2.2.2.2 ∈ gd_tbl) (hd : Y2.1.cls = C ∧ Y2.1.cls ≠ "java/lang/invoke/MethodHandle" ∧ Y2.1.cls ≠ "java/lang/invoke/VarHandle" ∧ (parseMethodDescriptor Y2.1.desc).map (fun d => d.parameters.length) = some n) (hn : As.length = n) (hroom : d2 + 1 ≤ d ∧ Y2.2.2.1 ≤ 81) (hW : (rest.map fun v => v.category).sum ≤ 8) (kk : ∀ r1 M1, EJ G Y cv d pc2 lv (.long r1 :: rest) M1 (k r1 M1)) : EJ G Y cv d pc lv st M (bd q1 k) := by
  subst hp
  exact EJ_callV cf hf hm hst dd w1 w2 w3 w4 hd hn hroom hW kk
theorem EJ_callVv {q1 : Option (Unit × Mm)} {k : Unit → Mm → Option (ρ × Mm)} {Y2 : Ym} (pc2 : Nat) {d2 i n b c N : Nat} {C : String} {T : u_T} {ty : Nat → FieldType} {As rest : List Value} (cf : CFx c C T N ty) (hf : FnS G Y2 cvV d2 (.ref b :: As) M q1) (hm : mK M b = (c, N)) (hst : st = As.reverse ++ .ref b :: rest) (dd : decode Y.2.1 pc = .ok (.invokevirtual i, 3)) (hp : pc + 3 = pc2) (w1 : Cond.methodLink Y.1.cls i Y2.1 ∈ gd_tbl) (w2 : Cond.instanceMethod Y2.1 ∈ gd_tbl) (w3 : Cond.selects C Y2.1 Y2.1 ∈ gd_tbl) (w4 : Cond.code Y2.1 Y2.2.1 Y2.2.2.1 Y2.2.2.2 ∈ gd_tbl) (hd : Y2.1.cls = C ∧ Y2.1.cls ≠ "java/lang/invoke/MethodHandle" ∧ Y2.1.cls ≠ "java/lang/invoke/VarHandle" ∧ (parseMethodDescriptor Y2.1.desc).map (fun d => d.parameters.length) = some n) (hn : As.length = n) (hroom : d2 + 1 ≤ d ∧ Y2.2.2.1 ≤ 81) (hW : (rest.map fun v => v.category).sum ≤ 8) (kk : ∀ r1 M1, EJ G Y cv d pc2 lv (rest) M1 (k r1 M1)) : EJ G Y cv d pc lv st M (bd q1 k) := by
  subst hp
  exact EJ_callV cf hf hm hst dd w1 w2 w3 w4 hd hn hroom hW kk
theorem EJ_callVr {q1 : Option (Nat × Mm)} {k : Nat → Mm → Option (ρ × Mm)} {Y2 : Ym} (pc2 : Nat) {d2 i n b c N : Nat} {C : String} {T : u_T} {ty : Nat → FieldType} {As rest : List Value} (cf : CFx c C T N ty) (hf : FnS G Y2 cvR d2 (.ref b :: As) M q1) (hm : mK M b = (c, N)) (hst : st = As.reverse ++ .ref b :: rest) (dd : decode Y.2.1 pc = .ok (.invokevirtual i, 3)) (hp : pc + 3 = pc2) (w1 : Cond.methodLink Y.1.cls i Y2.1 ∈ gd_tbl) (w2 : Cond.instanceMethod Y2.1 ∈ gd_tbl) (w3 : Cond.selects C Y2.1 Y2.1 ∈ gd_tbl) (w4 : Cond.code Y2.1 Y2.2.1 Y2.2.2.1 Y2.2.2.2 ∈ gd_tbl) (hd : Y2.1.cls = C ∧ Y2.1.cls ≠ "java/lang/invoke/MethodHandle" ∧ Y2.1.cls ≠ "java/lang/invoke/VarHandle" ∧ (parseMethodDescriptor Y2.1.desc).map (fun d => d.parameters.length) = some n) (hn : As.length = n) (hroom : d2 + 1 ≤ d ∧ Y2.2.2.1 ≤ 81) (hW : (rest.map fun v => v.category).sum ≤ 8) (kk : ∀ r1 M1, EJ G Y cv d pc2 lv (.ref r1 :: rest) M1 (k r1 M1)) : EJ G Y cv d pc lv st M (bd q1 k) := by
  subst hp
  exact EJ_callV cf hf hm hst dd w1 w2 w3 w4 hd hn hroom hW kk
theorem EJ_callIv {q1 : Option (Unit × Mm)} {k : Unit → Mm → Option (ρ × Mm)} {Y2 : Ym} (pc2 : Nat) {d2 i n b : Nat} {As rest : List Value} (hf : FnS G Y2 cvV d2 (.ref b :: As) M q1) (hst : st = As.reverse ++ .ref b :: rest) (dd : decode Y.2.1 pc = .ok (.invokespecial i, 3)) (hp : pc + 3 = pc2) (hret : Y2.2.2.2 = none) (w1 : Cond.methodLink Y.1.cls i Y2.1 ∈ gd_tbl) (w2 : Cond.instanceMethod Y2.1 ∈ gd_tbl) (w3 : Cond.initialized Y2.1.cls ∈ gd_tbl) (w4 : Cond.code Y2.1 Y2.2.1 Y2.2.2.1 Y2.2.2.2 ∈ gd_tbl) (hini : Y2.1.name = "<init>") (hd : Y2.1.cls ≠ "java/lang/invoke/MethodHandle" ∧ Y2.1.cls ≠ "java/lang/invoke/VarHandle" ∧ (parseMethodDescriptor Y2.1.desc).map (fun d => d.parameters.length) = some n) (hn : As.length = n) (hroom : d2 + 1 ≤ d ∧ Y2.2.2.1 ≤ 81) (hW : (rest.map fun v => v.category).sum ≤ 8) (kk : ∀ r1 M1, EJ G Y cv d pc2 lv (rest) M1 (k r1 M1)) : EJ G Y cv d pc lv st M (bd q1 k) := by
  subst hp
  exact EJ_callI hf hst dd hret w1 w2 w3 w4 hini hd hn hroom hW kk
theorem EJ_callSi {q1 : Option (Int32 × Mm)} {k : Int32 → Mm → Option (ρ × Mm)} {Y2 : Ym} (pc2 : Nat) {d2 i n : Nat} {As rest : List Value} (hf : FnS G Y2 cvI d2 As M q1) (hst : st = As.reverse ++ rest) (dd : decode Y.2.1 pc = .ok (.invokestatic i, 3)) (hp : pc + 3 = pc2) (w1 : Cond.methodLink Y.1.cls i Y2.1 ∈ gd_tbl) (w2 : Cond.static Y2.1 ∈ gd_tbl) (w3 : Cond.initialized Y2.1.cls ∈ gd_tbl) (w4 : Cond.code Y2.1 Y2.2.1 Y2.2.2.1 Y2.2.2.2 ∈ gd_tbl) (hd : Y2.1.cls ≠ "java/lang/invoke/MethodHandle" ∧ Y2.1.cls ≠ "java/lang/invoke/VarHandle" ∧ (parseMethodDescriptor Y2.1.desc).map (fun d => d.parameters.length) = some n) (hn : As.length = n) (hroom : d2 + 1 ≤ d ∧ Y2.2.2.1 ≤ 81) (hW : (rest.map fun v => v.category).sum ≤ 8) (kk : ∀ r1 M1, EJ G Y cv d pc2 lv (.int r1 :: rest) M1 (k r1 M1)) : EJ G Y cv d pc lv st M (bd q1 k) := by
  subst hp
  exact EJ_callS hf hst dd w1 w2 w3 w4 hd hn hroom hW kk
theorem EJ_callSl {q1 : Option (Int64 × Mm)} {k : Int64 → Mm → Option (ρ × Mm)} {Y2 : Ym} (pc2 : Nat) {d2 i n : Nat} {As rest : List Value} (hf : FnS G Y2 cvL d2 As M q1) (hst : st = As.reverse ++ rest) (dd : decode Y.2.1 pc = .ok (.invokestatic i, 3)) (hp : pc + 3 = pc2) (w1 : Cond.methodLink Y.1.cls i Y2.1 ∈ gd_tbl) (w2 : Cond.static Y2.1 ∈ gd_tbl) (w3 : Cond.initialized Y2.1.cls ∈ gd_tbl) (w4 : Cond.code Y2.1 Y2.2.1 Y2.2.2.1 Y2.2.2.2 ∈ gd_tbl) (hd : Y2.1.cls ≠ "java/lang/invoke/MethodHandle" ∧ Y2.1.cls ≠ "java/lang/invoke/VarHandle" ∧ (parseMethodDescriptor Y2.1.desc).map (fun d => d.parameters.length) = some n) (hn : As.length = n) (hroom : d2 + 1 ≤ d ∧ Y2.2.2.1 ≤ 81) (hW : (rest.map fun v => v.category).sum ≤ 8) (kk : ∀ r1 M1, EJ G Y cv d pc2 lv (.long r1 :: rest) M1 (k r1 M1)) : EJ G Y cv d pc lv st M (bd q1 k) := by
  subst hp
  exact EJ_callS hf hst dd w1 w2 w3 w4 hd hn hroom hW kk
theorem EJ_callSv {q1 : Option (Unit × Mm)} {k : Unit → Mm → Option (ρ × Mm)} {Y2 : Ym} (pc2 : Nat) {d2 i n : Nat} {As rest : List Value} (hf : FnS G Y2 cvV d2 As M q1) (hst : st = As.reverse ++ rest) (dd : decode Y.2.1 pc = .ok (.invokestatic i, 3)) (hp : pc + 3 = pc2) (w1 : Cond.methodLink Y.1.cls i Y2.1 ∈ gd_tbl) (w2 : Cond.static Y2.1 ∈ gd_tbl) (w3 : Cond.initialized Y2.1.cls ∈ gd_tbl) (w4 : Cond.code Y2.1 Y2.2.1 Y2.2.2.1 Y2.2.2.2 ∈ gd_tbl) (hd : Y2.1.cls ≠ "java/lang/invoke/MethodHandle" ∧ Y2.1.cls ≠ "java/lang/invoke/VarHandle" ∧ (parseMethodDescriptor Y2.1.desc).map (fun d => d.parameters.length) = some n) (hn : As.length = n) (hroom : d2 + 1 ≤ d ∧ Y2.2.2.1 ≤ 81) (hW : (rest.map fun v => v.category).sum ≤ 8) (kk : ∀ r1 M1, EJ G Y cv d pc2 lv (rest) M1 (k r1 M1)) : EJ G Y cv d pc lv st M (bd q1 k) := by
  subst hp
  exact EJ_callS hf hst dd w1 w2 w3 w4 hd hn hroom hW kk
theorem EJ_callSr {q1 : Option (Nat × Mm)} {k : Nat → Mm → Option (ρ × Mm)} {Y2 : Ym} (pc2 : Nat) {d2 i n : Nat} {As rest : List Value} (hf : FnS G Y2 cvR d2 As M q1) (hst : st = As.reverse ++ rest) (dd : decode Y.2.1 pc = .ok (.invokestatic i, 3)) (hp : pc + 3 = pc2) (w1 : Cond.methodLink Y.1.cls i Y2.1 ∈ gd_tbl) (w2 : Cond.static Y2.1 ∈ gd_tbl) (w3 : Cond.initialized Y2.1.cls ∈ gd_tbl) (w4 : Cond.code Y2.1 Y2.2.1 Y2.2.2.1 Y2.2.2.2 ∈ gd_tbl) (hd : Y2.1.cls ≠ "java/lang/invoke/MethodHandle" ∧ Y2.1.cls ≠ "java/lang/invoke/VarHandle" ∧ (parseMethodDescriptor Y2.1.desc).map (fun d => d.parameters.length) = some n) (hn : As.length = n) (hroom : d2 + 1 ≤ d ∧ Y2.2.2.1 ≤ 81) (hW : (rest.map fun v => v.category).sum ≤ 8) (kk : ∀ r1 M1, EJ G Y cv d pc2 lv (.ref r1 :: rest) M1 (k r1 M1)) : EJ G Y cv d pc lv st M (bd q1 k) := by
  subst hp
  exact EJ_callS hf hst dd w1 w2 w3 w4 hd hn hroom hW kk
theorem EJ_callNi {q1 : Option (Int32 × Mm)} {k : Int32 → Mm → Option (ρ × Mm)} {Y2 : Ym} (pc2 : Nat) {d2 i n : Nat} {host : String} {As rest : List Value} (hf : FnS G Y2 cvI d2 As M q1) (hst : st = As.reverse ++ rest) (dd : decode Y.2.1 pc = .ok (.invokestatic i, 3)) (hp : pc + 3 = pc2) (w1 : ∀ U, Exu G U → va_Nw (.methodLinkNest Y.1.cls i Y2.1 host) U) (w2 : Cond.static Y2.1 ∈ gd_tbl) (w3 : Cond.initialized Y2.1.cls ∈ gd_tbl) (w4 : Cond.code Y2.1 Y2.2.1 Y2.2.2.1 Y2.2.2.2 ∈ gd_tbl) (hd : Y2.1.cls ≠ "java/lang/invoke/MethodHandle" ∧ Y2.1.cls ≠ "java/lang/invoke/VarHandle" ∧ (parseMethodDescriptor Y2.1.desc).map (fun d => d.parameters.length) = some n) (hn : As.length = n) (hroom : d2 + 1 ≤ d ∧ Y2.2.2.1 ≤ 81) (hW : (rest.map fun v => v.category).sum ≤ 8) (kk : ∀ r1 M1, EJ G Y cv d pc2 lv (.int r1 :: rest) M1 (k r1 M1)) : EJ G Y cv d pc lv st M (bd q1 k) := by
  subst hp
  exact EJ_callN hf hst dd w1 w2 w3 w4 hd hn hroom hW kk
theorem EJ_gsU (pc2 : Nat) (dd : decode Y.2.1 pc = .ok (.getstatic 70, 3)) (hp : pc + 3 = pc2) (hY : Y.1.cls = "RiceHall$Law") (kk : EJ G Y cv d pc2 lv (.ref 0 :: st) M o) : EJ G Y cv d pc lv st M o := by
  subst hp
  refine EJ_step (fun p e s m args below meth c R H locs cells slots ls Q hA hR hS hl w => ?_) kk
  obtain ⟨hx, hb, hml, hown, hts, hK, hE, hEu, -⟩ := id hA
  exact va_gets hx hb hE.1 hS hown (hts _ (by rw [hY]; exact tw_540)) (fun _ h => h) dd w
theorem EJ_uld (pc2 : Nat) {i : Int32} (hk : kS 11 i = true) (dd : decode Y.2.1 pc = .ok (.iaload, 1)) (hp : pc + 1 = pc2) (kk : EJ G Y cv d pc2 lv (.int (untl (ix i)) :: st) M o) : EJ G Y cv d pc lv (.int i :: .ref 0 :: st) M o := by
  subst hp
  refine EJ_step (fun p e s m args below meth c R H locs cells slots ls Q hA hR hS hl w => ?_) kk
  obtain ⟨hx, hb, hml, hown, hts, hK, hE, hEu, -⟩ := id hA
  exact va_ti hx hb hE.2.1 hS (kS_spec hk) rfl dd w
theorem EJ_ulen (pc2 : Nat) (dd : decode Y.2.1 pc = .ok (.arraylength, 1)) (hp : pc + 1 = pc2) (kk : EJ G Y cv d pc2 lv (.int 11 :: st) M o) : EJ G Y cv d pc lv (.ref 0 :: st) M o := by
  subst hp
  refine EJ_step (fun p e s m args below meth c R H locs cells slots ls Q hA hR hS hl w => ?_) kk
  obtain ⟨hx, hb, hml, hown, hts, hK, hE, hEu, -⟩ := id hA
  exact va_tlen hx hb hE.2.1 hS (v := 11) (by decide) dd w
theorem EJ_sld {xs : Nat → Int32} {nx : Nat} (hxs : gS G = xs) (hnx : gN G = nx) (pc2 : Nat) {i : Int32} (hk : kS nx i = true) (dd : decode Y.2.1 pc = .ok (.iaload, 1)) (hp : pc + 1 = pc2) (kk : EJ G Y cv d pc2 lv (.int (xs (ix i)) :: st) M o) : EJ G Y cv d pc lv (.int i :: .ref 3 :: st) M o := by
  subst hp; subst hxs; subst hnx
  refine EJ_step (fun p e s m args below meth c R H locs cells slots ls Q hA hR hS hl w => ?_) kk
  obtain ⟨hx, hb, hml, hown, hts, hK, hE, hEu, -⟩ := id hA
  obtain ⟨-, -, -, -, -, hX, h7, h8⟩ := hE
  exact va_sld hx hb hX h7 (Nat.not_le.mpr h8) hS (kS_spec hk) dd w
theorem EJ_slen {nx : Nat} (hnx : gN G = nx) (pc2 : Nat) (dd : decode Y.2.1 pc = .ok (.arraylength, 1)) (hp : pc + 1 = pc2) (kk : EJ G Y cv d pc2 lv (.int (Int32.ofNat nx) :: st) M o) : EJ G Y cv d pc lv (.ref 3 :: st) M o := by
  subst hp; subst hnx
  refine EJ_step (fun p e s m args below meth c R H locs cells slots ls Q hA hR hS hl w => ?_) kk
  obtain ⟨hx, hb, hml, hown, hts, hK, hE, hEu, -⟩ := id hA
  obtain ⟨-, -, -, -, -, hX, h7, h8⟩ := hE
  exact va_slen hx hb hX h7 (Nat.not_le.mpr h8) hS dd w
theorem EJ_ldcS1 (pc2 : Nat) (dd : decode Y.2.1 pc = .ok (.ldc 87, 2)) (hp : pc + 2 = pc2) (hY : Y.1.cls = "RiceHall$Scribe") (kk : EJ G Y cv d pc2 lv (.ref 1 :: st) M o) : EJ G Y cv d pc lv st M o := by
  subst hp
  refine EJ_step (fun p e s m args below meth c R H locs cells slots ls Q hA hR hS hl w => ?_) kk
  obtain ⟨hx, hb, hml, hown, hts, hK, hE, hEu, -⟩ := id hA
  rw [hY] at hown
  exact va_ldcS hx hb hown hEu.1 dd w
theorem EJ_ldcS2 (pc2 : Nat) (dd : decode Y.2.1 pc = .ok (.ldc 75, 2)) (hp : pc + 2 = pc2) (hY : Y.1.cls = "RiceHall$Scribe") (kk : EJ G Y cv d pc2 lv (.ref 2 :: st) M o) : EJ G Y cv d pc lv st M o := by
  subst hp
  refine EJ_step (fun p e s m args below meth c R H locs cells slots ls Q hA hR hS hl w => ?_) kk
  obtain ⟨hx, hb, hml, hown, hts, hK, hE, hEu, -⟩ := id hA
  rw [hY] at hown
  exact va_ldcS hx hb hown hEu.2.1 dd w
theorem EJ_strVal (i : Nat) (hi : i < 2) (pc2 : Nat) (dd : decode Y.2.1 pc = .ok (.getfield 9, 3)) (hp : pc + 3 = pc2) (hY : Y.1.cls = "java/lang/String") (kk : EJ G Y cv d pc2 lv (.ref (i + 4) :: st) M o) : EJ G Y cv d pc lv (.ref (i + 1) :: st) M o := by
  subst hp
  refine EJ_step (fun p e s m args below meth c R H locs cells slots ls Q hA hR hS hl w => ?_) kk
  obtain ⟨hx, hb, hml, hown, hts, hK, hE, hEu, -⟩ := id hA
  have e1 : adr G (i + 1) = gX G (i + 1) := by unfold adr; rw [if_pos (by omega)]
  have e2 : adr G (i + 4) = gX G (i + 4) := by unfold adr; rw [if_pos (by omega)]
  have w2 : W p (gl G) e R s m args below meth c H locs cells slots Q (F0 m (pc + 3) ls (.ref (gX G (i + 4)) :: st.map (rho G))) := by rw [← e2]; exact w
  show W p (gl G) e R s m args below meth c H locs cells slots Q (F0 m pc ls (.ref (adr G (i + 1)) :: st.map (rho G)))
  rw [e1]
  exact vk_getf hx hb (hE.2.2.1.1 i hi).2.2.1 hS hown (hts _ (by rw [hY]; exact tw_1893)) (fun _ h => h) dd w2
theorem EJ_strCod (i : Nat) (hi : i < 2) (pc2 : Nat) (dd : decode Y.2.1 pc = .ok (.getfield 15, 3)) (hp : pc + 3 = pc2) (hY : Y.1.cls = "java/lang/String") (kk : EJ G Y cv d pc2 lv (.int 0 :: st) M o) : EJ G Y cv d pc lv (.ref (i + 1) :: st) M o := by
  subst hp
  refine EJ_step (fun p e s m args below meth c R H locs cells slots ls Q hA hR hS hl w => ?_) kk
  obtain ⟨hx, hb, hml, hown, hts, hK, hE, hEu, -⟩ := id hA
  have e1 : adr G (i + 1) = gX G (i + 1) := by unfold adr; rw [if_pos (by omega)]
  show W p (gl G) e R s m args below meth c H locs cells slots Q (F0 m pc ls (.ref (adr G (i + 1)) :: st.map (rho G)))
  rw [e1]
  exact vk_getf hx hb (hE.2.2.1.1 i hi).2.1 hS hown (hts _ (by rw [hY]; exact tw_1894)) (fun _ h => h) dd w
theorem EJ_gsC (pc2 : Nat) (dd : decode Y.2.1 pc = .ok (.getstatic 38, 3)) (hp : pc + 3 = pc2) (hY : Y.1.cls = "java/lang/String") (kk : EJ G Y cv d pc2 lv (.int 1 :: st) M o) : EJ G Y cv d pc lv st M o := by
  subst hp
  refine EJ_step (fun p e s m args below meth c R H locs cells slots ls Q hA hR hS hl w => ?_) kk
  obtain ⟨hx, hb, hml, hown, hts, hK, hE, hEu, -⟩ := id hA
  exact va_gets hx hb hE.2.2.2.1 hS hown (hts _ (by rw [hY]; exact tw_656)) (fun _ h => h) dd w
theorem EJ_gsF (pc2 : Nat) (dd : decode Y.2.1 pc = .ok (.getstatic 1053, 3)) (hp : pc + 3 = pc2) (hY : Y.1.cls = "java/lang/String") (k0 : EJ G Y cv d pc2 lv (.null :: st) M o) (k1 : EJ G Y cv d pc2 lv (.ref 7 :: st) M o) : EJ G Y cv d pc lv st M o := by
  subst hp
  intro r M' ho
  obtain ⟨h1, h2, a0⟩ := k0 r M' ho
  obtain ⟨-, -, a1⟩ := k1 r M' ho
  refine ⟨h1, h2, fun p e s m args below meth c R H locs cells slots ls hA hR hS hl hc hs => ?_⟩
  obtain ⟨hx, hb, hml, hown, hts, hK, hE, hEu, -⟩ := id hA
  rcases hE.2.2.2.2.1 with hZ | hZ
  · exact va_gets hx hb hZ hS hown (hts _ (by rw [hY]; exact tw_672)) (fun _ h => h) dd (a0 p e s m args below meth c R H locs cells slots ls hA hR hS hl hc hs)
  · exact va_gets hx hb hZ hS hown (hts _ (by rw [hY]; exact tw_672)) (fun _ h => h) dd (a1 p e s m args below meth c R H locs cells slots ls hA hR hS hl hc hs)
theorem EJ_tln (i : Nat) (hi : i < 2) (pc2 : Nat) {v : Int32} (hv : Int32.ofNat (lenS.getD i 0) = v) (dd : decode Y.2.1 pc = .ok (.arraylength, 1)) (hp : pc + 1 = pc2) (kk : EJ G Y cv d pc2 lv (.int v :: st) M o) : EJ G Y cv d pc lv (.ref (i + 4) :: st) M o := by
  subst hp
  refine EJ_step (fun p e s m args below meth c R H locs cells slots ls Q hA hR hS hl w => ?_) kk
  obtain ⟨hx, hb, hml, hown, hts, hK, hE, hEu, -⟩ := id hA
  have e1 : adr G (i + 4) = gX G (i + 4) := by unfold adr; rw [if_pos (by omega)]
  show W p (gl G) e R s m args below meth c H locs cells slots Q (F0 m pc ls (.ref (adr G (i + 4)) :: st.map (rho G)))
  rw [e1]
  exact va_tlen hx hb (hE.2.2.1.1 i hi).2.2.2 hS hv dd w
theorem EJ_tbl (i : Nat) (hi : i < 2) (pc2 : Nat) {j : Int32} (hj : kS (lenS.getD i 0) j = true) (dd : decode Y.2.1 pc = .ok (.baload, 1)) (hp : pc + 1 = pc2) (kk : EJ G Y cv d pc2 lv (.int ((bytS.getD i []).getD (ix j) 0) :: st) M o) : EJ G Y cv d pc lv (.int j :: .ref (i + 4) :: st) M o := by
  subst hp
  refine EJ_step (fun p e s m args below meth c R H locs cells slots ls Q hA hR hS hl w => ?_) kk
  obtain ⟨hx, hb, hml, hown, hts, hK, hE, hEu, -⟩ := id hA
  have e1 : adr G (i + 4) = gX G (i + 4) := by unfold adr; rw [if_pos (by omega)]
  show W p (gl G) e R s m args below meth c H locs cells slots Q (F0 m pc ls (.int j :: .ref (adr G (i + 4)) :: st.map (rho G)))
  rw [e1]
  exact va_tb hx hb (hE.2.2.1.1 i hi).2.2.2 hS (kS_spec hj) rfl dd w
theorem EJ_nret {ty : FieldType} (hr : Y.2.2.2 = some ty) {v : Int32} (hz : narrow ty (.int v) = .int v) (dd : decode Y.2.1 pc = .ok (.ireturn, 1)) : EJ G Y cvI d pc lv [.int v] M (some (v, M)) := by
  intro r M' ho
  cases ho
  refine ⟨Nat.le_refl _, Nat.le_refl _, fun p e s m args below meth c R H locs cells slots ls hA hR hS hl hc hs => ?_⟩
  have hc : R.cells = cells := by omega
  have hs : R.slots = slots := by omega
  rw [hc, hs]
  exact W.zret hA.1 hA.2.1 (hA.2.2.2.2.2.2.2.2.1.trans hr) hz (fun t ht hW => ⟨rfl, by rw [ht]; exact hR, hS.F ht⟩) hS.2.2 dd hA.2.2.2.2.2.2.2.2.2.1
/-- a call on a String literal -/
theorem EJ_callT {q1 : Option (Int32 × Mm)} {k : Int32 → Mm → Option (ρ × Mm)} {Y2 : Ym} (pc2 : Nat) {d2 i n b : Nat} {As rest : List Value} (hb2 : b < 2) (hf : FnS G Y2 cvI d2 (.ref (b + 1) :: As) M q1) (hst : st = As.reverse ++ .ref (b + 1) :: rest) (dd : decode Y.2.1 pc = .ok (.invokevirtual i, 3)) (hp : pc + 3 = pc2) (w1 : Cond.methodLink Y.1.cls i Y2.1 ∈ gd_tbl) (w2 : Cond.instanceMethod Y2.1 ∈ gd_tbl) (w3 : Cond.selects "java/lang/String" Y2.1 Y2.1 ∈ gd_tbl) (w4 : Cond.code Y2.1 Y2.2.1 Y2.2.2.1 Y2.2.2.2 ∈ gd_tbl) (hd : Y2.1.cls = "java/lang/String" ∧ Y2.1.cls ≠ "java/lang/invoke/MethodHandle" ∧ Y2.1.cls ≠ "java/lang/invoke/VarHandle" ∧ (parseMethodDescriptor Y2.1.desc).map (fun d => d.parameters.length) = some n) (hn : As.length = n) (hroom : d2 + 1 ≤ d ∧ Y2.2.2.1 ≤ 81) (hW : (rest.map fun v => v.category).sum ≤ 8) (kk : ∀ r1 M1, EJ G Y cv d pc2 lv (.int r1 :: rest) M1 (k r1 M1)) : EJ G Y cv d pc lv st M (bd q1 k) := by
  subst hp
  refine EJ_run (cv1 := cvI) (rest := rest) (a := ((.ref (b + 1) :: As).map (rho G)).toArray) (fun r1 M1 hq => ?_) kk
  obtain ⟨a1, a2, hM⟩ := hf r1 M1 hq
  refine ⟨a1, a2, fun p e s m args below meth c0 R H locs cells slots ls hA hR hS hl hc hs => ?_⟩
  obtain ⟨hx, hb, hml, hown, hts, hK, hE, hEu, hr, hlk, hnm, hfr, hlo, hB⟩ := id hA
  have e1 : adr G (b + 1) = gX G (b + 1) := by unfold adr; rw [if_pos (by omega)]
  have hcw : CallW R s args Y.1.cls "java/lang/String" i Y2.1 Y2.2.1 Y2.2.2.1 Y2.2.2.2 (wsY Y2) (rmd d2 (mZ M1 - mZ M) (mS M1 - mS M)) (mZ M1 - mZ M) (mS M1 - mS M) n :=
    ⟨callB_of n hts (gd_good w4) rfl rfl rfl (hts _ (by rw [hd.1]; exact tw_13)) (hts _ w1) hd.2 ⟨by show d2 + 1 ≤ _; omega, by show 8 + (Y2.2.2.1 + 11) + 100 * d2 ≤ _; omega⟩, hts _ w2, hts _ w3⟩
  refine va_runV (b := adr G (b + 1)) (As := As.map (rho G)) (rest := rest.map (rho G)) ⟨hx, hb, hml, hown, hts⟩ hM hcw ⟨Px_blind _, by rw [e1]; exact vk_recv (i := b) hE.2.2.1 hb2 hS, fun U hU hW => ?_⟩ rfl (by rw [List.length_map]; exact hn) hl.1 ?_ ?_ dd ⟨hc, hs⟩
  · exact Px_at hA hR hS (.ref (b + 1) :: As) U hU hW
  · show st.map (rho G) = _
    rw [hst]
    simp [rho]
  · exact lv_room (by rw [cat_sum]; exact hW)
theorem EJ_newa' (t : Nat) (pc2 : Nat) {c N : Nat} {atype : ArrayType} {n : Int32} (ht : t < 4) (hty : newarray.typeOf atype = arrT t) (hw : Cond.arrayClass (arrT t) ∈ gd_tbl) (hc : 20 + t = c) (hN : ix n = N) (hn : kL n = true) (dd : decode Y.2.1 pc = .ok (.newarray atype, 2)) (hp : pc + 2 = pc2) (kk : EJ G Y cv d pc2 lv (.ref (mZ M) :: st) (nw M c N) o) : EJ G Y cv d pc lv (.int n :: st) M o := by
  subst hc; subst hN
  exact EJ_newa t pc2 ht hty hw hn dd hp kk
theorem EJ_newq' (t : Nat) (pc2 : Nat) {c N i : Nat} {C : String} {n : Int32} (ht : t < 10) (ht4 : 4 ≤ t) (hC : arrT t = .object C) (hw : Cond.classLink Y.1.cls i C ∈ gd_tbl) (hov : ∀ U, Exu G U → va_AO C U) (hc : 20 + t = c) (hN : ix n = N) (hn : kL n = true) (dd : decode Y.2.1 pc = .ok (.anewarray i, 3)) (hp : pc + 3 = pc2) (kk : EJ G Y cv d pc2 lv (.ref (mZ M) :: st) (nw M c N) o) : EJ G Y cv d pc lv (.int n :: st) M o := by
  subst hc; subst hN
  exact EJ_newq t pc2 ht ht4 hC hw hov hn dd hp kk
end EJ5
