abbrev Y_Mod_debts : Ym := (⟨"RiceHallModel", "debts", "(I)J"⟩, prog_14_method_82_code, 5, (some FieldType.long))
theorem bc_Mod_debts_0 : bts prog_14_method_82_code 0 [42, 180, 0, 51, 27, 47, 9, 148, 156, 0, 13, 42, 180, 0, 51, 27, 47, 117, 167, 0, 4, 9, 65, 3, 54, 4, 21, 4, 42, 180, 1, 13] := bts_of (by decide +kernel)
theorem bc_Mod_debts_1 : bts prog_14_method_82_code 32 [162, 0, 25, 32, 42, 180, 0, 236, 16, 16, 27, 104, 21, 4, 96, 46, 133, 97, 65, 132, 4, 1, 167, 255, 228, 32, 173] := bts_of (by decide +kernel)
theorem hd_Mod_debts : Y_Mod_debts.1.cls = RX12 ∧ Y_Mod_debts.1.cls ≠ "java/lang/invoke/MethodHandle" ∧ Y_Mod_debts.1.cls ≠ "java/lang/invoke/VarHandle" ∧ (parseMethodDescriptor Y_Mod_debts.1.desc).map (fun d => d.parameters.length) = some 1 := by decide +kernel
def Mod_debts_B26 (k26 : Nat → Int32 → Int64 → Int32 → Mm → Option (Int64 × Mm)) (x0 : Nat) (x1 : Int32) (x2 : Int64) (x4 : Int32) (M : Mm) : Option (Int64 × Mm) :=
  ck (kO M x0 12 107) (
  if (mI M x0 9) ≤ x4 then (
    some (x2, M))
  else (
    nn (mR M x0 103) (fun b5 =>
    ck (kA M b5 20 ((16 * x1) + x4)) (
    let v7 : Int64 := x2 + (Int32.toInt64 (mI M b5 (ix ((16 * x1) + x4))))
    let v8 : Int32 := x4 + 1
    k26 x0 x1 v7 v8 M))))
set_option maxRecDepth 100000 in
set_option maxHeartbeats 4000000 in
theorem e_Mod_debts_B26 {G : Gx} (k26 : Nat → Int32 → Int64 → Int32 → Mm → Option (Int64 × Mm)) (hk26 : ∀ (x0 : Nat) (x1 : Int32) (x2 : Int64) (x4 : Int32) (M : Mm), EJ G Y_Mod_debts cvL 1 26 [(0, .ref x0), (1, .int x1), (2, .long x2), (4, .int x4)] [] M (k26 x0 x1 x2 x4 M)) (x0 : Nat) (x1 : Int32) (x2 : Int64) (x4 : Int32) (M : Mm) : EJ G Y_Mod_debts cvL 1 26 [(0, .ref x0), (1, .int x1), (2, .long x2), (4, .int x4)] [] M (Mod_debts_B26 k26 x0 x1 x2 x4 M) := by
  unfold Mod_debts_B26
  refine EJ_iload 28 3 (dk_21 (bt bc_Mod_debts_0 26 rfl) (bt bc_Mod_debts_0 27 rfl)) rfl rfl ?_
  refine EJ_aload_n 29 0 (dk_42 (bt bc_Mod_debts_0 28 rfl)) rfl rfl ?_
  refine EJ_ck (fun h4 => ?_)
  refine EJ_getI cf12 9 (by decide) 32 tw_1207 (fun _ _ _ => rfl) (dk_180 (bt bc_Mod_debts_0 29 rfl) (bt bc_Mod_debts_0 30 rfl) (bt bc_Mod_debts_0 31 rfl) (n := 269) rfl) rfl (of_decide_eq_true h4) ?_
  refine EJ_icmp_ge 57 35 (dk_162 (bt bc_Mod_debts_1 0 rfl) (bt bc_Mod_debts_1 1 rfl) (bt bc_Mod_debts_1 2 rfl) (n := 25) rfl) (by decide) rfl (fun _ => ?_) (fun _ => ?_)
  · refine EJ_lload_n 58 2 (dk_32 (bt bc_Mod_debts_1 25 rfl)) rfl rfl ?_
    exact EJ_lret rfl (dk_173 (bt bc_Mod_debts_1 26 rfl))
  · refine EJ_lload_n 36 2 (dk_32 (bt bc_Mod_debts_1 3 rfl)) rfl rfl ?_
    refine EJ_aload_n 37 0 (dk_42 (bt bc_Mod_debts_1 4 rfl)) rfl rfl ?_
    refine EJ_getR cf12 103 (by decide) 40 tw_1301 (fun _ _ _ => rfl) (dk_180 (bt bc_Mod_debts_1 5 rfl) (bt bc_Mod_debts_1 6 rfl) (bt bc_Mod_debts_1 7 rfl) (n := 236) rfl) rfl (of_decide_eq_true h4) (fun b5 => ?_)
    refine EJ_bipush 42 (dk_16 (bt bc_Mod_debts_1 8 rfl) (bt bc_Mod_debts_1 9 rfl) (n := 16) rfl) rfl (v := 16) kB_16 ?_
    refine EJ_iload_n 43 1 (dk_27 (bt bc_Mod_debts_1 10 rfl)) rfl rfl ?_
    refine EJ_imul 44 (dk_104 (bt bc_Mod_debts_1 11 rfl)) rfl ?_
    refine EJ_iload 46 3 (dk_21 (bt bc_Mod_debts_1 12 rfl) (bt bc_Mod_debts_1 13 rfl)) rfl rfl ?_
    refine EJ_iadd 47 (dk_96 (bt bc_Mod_debts_1 14 rfl)) rfl ?_
    refine EJ_ck (fun h6 => ?_)
    refine EJ_iald 48 h6 (dk_46 (bt bc_Mod_debts_1 15 rfl)) rfl ?_
    refine EJ_i2l 49 (dk_133 (bt bc_Mod_debts_1 16 rfl)) rfl ?_
    refine EJ_ladd 50 (dk_97 (bt bc_Mod_debts_1 17 rfl)) rfl ?_
    refine EJ_lstore_n 51 (lv2 := [(2, .long _), (0, .ref _), (1, .int _), (4, .int _)]) (dk_65 (bt bc_Mod_debts_1 18 rfl)) rfl (by decide) rfl ?_
    refine EJ_iinc 54 3 (lv2 := [(4, .int _), (2, .long _), (0, .ref _), (1, .int _)]) (dk_132 (bt bc_Mod_debts_1 19 rfl) (bt bc_Mod_debts_1 20 rfl) (bt bc_Mod_debts_1 21 rfl) (n := 1) rfl) rfl (by decide) rfl (v := 1) kI_1 rfl ?_
    refine EJ_goto 26 (dk_167 (bt bc_Mod_debts_1 22 rfl) (bt bc_Mod_debts_1 23 rfl) (bt bc_Mod_debts_1 24 rfl) (n := -28) rfl) (by decide) ?_
    exact EJ_pick (lv2 := [(0, .ref _), (1, .int _), (2, .long _), (4, .int _)]) [2, 3, 1, 0] rfl (hk26 _ _ _ _ _)
def Mod_debts_L26 (n : Nat) : Nat → Int32 → Int64 → Int32 → Mm → Option (Int64 × Mm) :=
  match n with
  | 0 => fun _ _ _ _ _ => none
  | n + 1 => Mod_debts_B26 (Mod_debts_L26 n)
theorem e_Mod_debts_L26 {G : Gx} : ∀ (n : Nat) (x0 : Nat) (x1 : Int32) (x2 : Int64) (x4 : Int32) (M : Mm), EJ G Y_Mod_debts cvL 1 26 [(0, .ref x0), (1, .int x1), (2, .long x2), (4, .int x4)] [] M (Mod_debts_L26 n x0 x1 x2 x4 M) := by
  intro n
  induction n with
  | zero => intros; exact EJ_none
  | succ n ih => intro x0 x1 x2 x4 M; exact e_Mod_debts_B26 _ ih x0 x1 x2 x4 M
def Mod_debts_J22 (x0 : Nat) (x1 : Int32) (s0 : Int64) (M : Mm) : Option (Int64 × Mm) :=
  Mod_debts_L26 fu x0 x1 s0 0 M
set_option maxRecDepth 100000 in
set_option maxHeartbeats 4000000 in
theorem e_Mod_debts_J22 {G : Gx} (x0 : Nat) (x1 : Int32) (s0 : Int64) (M : Mm) : EJ G Y_Mod_debts cvL 1 22 [(0, .ref x0), (1, .int x1)] [.long s0] M (Mod_debts_J22 x0 x1 s0 M) := by
  unfold Mod_debts_J22
  refine EJ_lstore_n 23 (lv2 := [(2, .long _), (0, .ref _), (1, .int _)]) (dk_65 (bt bc_Mod_debts_0 22 rfl)) rfl (by decide) rfl ?_
  refine EJ_iconst 24 (dk_3 (bt bc_Mod_debts_0 23 rfl)) rfl (v := 0) kI_0 ?_
  refine EJ_istore 26 (lv2 := [(4, .int _), (2, .long _), (0, .ref _), (1, .int _)]) (dk_54 (bt bc_Mod_debts_0 24 rfl) (bt bc_Mod_debts_0 25 rfl)) rfl (by decide) rfl ?_
  exact EJ_pick (lv2 := [(0, .ref _), (1, .int _), (2, .long _), (4, .int _)]) [2, 3, 1, 0] rfl (e_Mod_debts_L26 fu _ _ _ _ _)
def Mod_debts (M : Mm) (a0 : Nat) (a1 : Int32) : Option (Int64 × Mm) :=
  ck (kO M a0 12 107) (
  nn (mR M a0 16) (fun b2 =>
  ck (kA M b2 23 a1) (
  if 0 ≤ (mL M b2 (ix a1)) then (
    Mod_debts_J22 a0 a1 0 M)
  else (
    nn (mR M a0 16) (fun b9 =>
    ck (kA M b9 23 a1) (
    Mod_debts_J22 a0 a1 (-(mL M b9 (ix a1))) M))))))
set_option maxRecDepth 100000 in
set_option maxHeartbeats 4000000 in
theorem s_Mod_debts (G : Gx) (M : Mm) (a0 : Nat) (a1 : Int32) : FnS G Y_Mod_debts cvL 1 [.ref a0, .int a1] M (Mod_debts M a0 a1) := by
  refine FnS.ofE (by decide) (Nat.le_of_ble_eq_true rfl) ?_
  show EJ G Y_Mod_debts cvL 1 0 [(0, .ref a0), (1, .int a1)] [] M _
  unfold Mod_debts
  refine EJ_aload_n 1 0 (dk_42 (bt bc_Mod_debts_0 0 rfl)) rfl rfl ?_
  refine EJ_ck (fun h1 => ?_)
  refine EJ_getR cf12 16 (by decide) 4 tw_1214 (fun _ _ _ => rfl) (dk_180 (bt bc_Mod_debts_0 1 rfl) (bt bc_Mod_debts_0 2 rfl) (bt bc_Mod_debts_0 3 rfl) (n := 51) rfl) rfl (of_decide_eq_true h1) (fun b2 => ?_)
  refine EJ_iload_n 5 1 (dk_27 (bt bc_Mod_debts_0 4 rfl)) rfl rfl ?_
  refine EJ_ck (fun h3 => ?_)
  refine EJ_lald 6 h3 (dk_47 (bt bc_Mod_debts_0 5 rfl)) rfl ?_
  refine EJ_lconst 7 (dk_9 (bt bc_Mod_debts_0 6 rfl)) rfl (v := 0) (by decide) ?_
  refine EJ_lcmp_ge 21 11 (dk_148 (bt bc_Mod_debts_0 7 rfl)) (dk_156 (bt bc_Mod_debts_0 8 rfl) (bt bc_Mod_debts_0 9 rfl) (bt bc_Mod_debts_0 10 rfl) (n := 13) rfl) (by decide) rfl (fun _ => ?_) (fun _ => ?_)
  · refine EJ_lconst 22 (dk_9 (bt bc_Mod_debts_0 21 rfl)) rfl (v := 0) (by decide) ?_
    exact EJ_pick (lv2 := [(0, .ref _), (1, .int _)]) [0, 1] rfl (e_Mod_debts_J22 _ _ _ _)
  · refine EJ_aload_n 12 0 (dk_42 (bt bc_Mod_debts_0 11 rfl)) rfl rfl ?_
    refine EJ_getR cf12 16 (by decide) 15 tw_1214 (fun _ _ _ => rfl) (dk_180 (bt bc_Mod_debts_0 12 rfl) (bt bc_Mod_debts_0 13 rfl) (bt bc_Mod_debts_0 14 rfl) (n := 51) rfl) rfl (of_decide_eq_true h1) (fun b9 => ?_)
    refine EJ_iload_n 16 1 (dk_27 (bt bc_Mod_debts_0 15 rfl)) rfl rfl ?_
    refine EJ_ck (fun h10 => ?_)
    refine EJ_lald 17 h10 (dk_47 (bt bc_Mod_debts_0 16 rfl)) rfl ?_
    refine EJ_lneg 18 (dk_117 (bt bc_Mod_debts_0 17 rfl)) rfl ?_
    refine EJ_goto 22 (dk_167 (bt bc_Mod_debts_0 18 rfl) (bt bc_Mod_debts_0 19 rfl) (bt bc_Mod_debts_0 20 rfl) (n := 4) rfl) (by decide) ?_
    exact EJ_pick (lv2 := [(0, .ref _), (1, .int _)]) [0, 1] rfl (e_Mod_debts_J22 _ _ _ _)
abbrev Y_Mod_fails : Ym := (⟨"RiceHallModel", "fails", "(II)I"⟩, prog_14_method_83_code, 12, (some FieldType.int))
theorem bc_Mod_fails_0 : bts prog_14_method_83_code 0 [42, 27, 182, 1, 22, 153, 0, 12, 28, 3, 6, 184, 0, 252, 154, 0, 5, 2, 172, 3, 62, 29, 42, 180, 1, 13, 162, 0, 24, 42, 180, 0] := bts_of (by decide +kernel)
theorem bc_Mod_fails_1 : bts prog_14_method_83_code 32 [239, 29, 3, 79, 42, 180, 0, 242, 29, 16, 100, 79, 132, 3, 1, 167, 255, 230, 3, 62, 3, 54, 4, 4, 54, 5, 4, 54, 6, 21, 5, 153] := bts_of (by decide +kernel)
theorem bc_Mod_fails_2 : bts prog_14_method_83_code 64 [0, 113, 3, 54, 5, 3, 54, 7, 21, 7, 42, 180, 1, 13, 162, 0, 83, 42, 180, 0, 239, 21, 7, 46, 158, 0, 6, 167, 0, 64, 42, 21] := bts_of (by decide +kernel)
theorem bc_Mod_fails_3 : bts prog_14_method_83_code 96 [7, 21, 6, 182, 2, 35, 55, 8, 42, 21, 7, 182, 2, 39, 55, 10, 22, 8, 22, 10, 148, 155, 0, 6, 167, 0, 35, 42, 180, 0, 239, 21] := bts_of (by decide +kernel)
theorem bc_Mod_fails_4 : bts prog_14_method_83_code 128 [7, 21, 6, 79, 42, 180, 0, 242, 21, 7, 22, 8, 20, 1, 52, 105, 22, 10, 109, 136, 79, 132, 3, 1, 4, 54, 5, 132, 7, 1, 167, 255] := bts_of (by decide +kernel)
theorem bc_Mod_fails_5 : bts prog_14_method_83_code 160 [170, 21, 5, 153, 0, 7, 21, 6, 54, 4, 132, 6, 1, 167, 255, 144, 28, 154, 0, 12, 42, 180, 0, 239, 27, 46, 167, 0, 28, 28, 4, 160] := bts_of (by decide +kernel)
theorem bc_Mod_fails_6 : bts prog_14_method_83_code 192 [0, 12, 42, 180, 0, 242, 27, 46, 167, 0, 14, 28, 5, 160, 0, 7, 29, 167, 0, 5, 21, 4, 172] := bts_of (by decide +kernel)
theorem hd_Mod_fails : Y_Mod_fails.1.cls = RX12 ∧ Y_Mod_fails.1.cls ≠ "java/lang/invoke/MethodHandle" ∧ Y_Mod_fails.1.cls ≠ "java/lang/invoke/VarHandle" ∧ (parseMethodDescriptor Y_Mod_fails.1.desc).map (fun d => d.parameters.length) = some 2 := by decide +kernel
def Mod_fails_J170 (k61 : Nat → Int32 → Int32 → Int32 → Int32 → Int32 → Int32 → Mm → Option (Int32 × Mm)) (x0 : Nat) (x1 : Int32) (x2 : Int32) (x3 : Int32) (x4 : Int32) (x5 : Int32) (x6 : Int32) (M : Mm) : Option (Int32 × Mm) :=
  let v14 : Int32 := x6 + 1
  k61 x0 x1 x2 x3 x4 x5 v14 M
set_option maxRecDepth 100000 in
set_option maxHeartbeats 4000000 in
theorem e_Mod_fails_J170 {G : Gx} (k61 : Nat → Int32 → Int32 → Int32 → Int32 → Int32 → Int32 → Mm → Option (Int32 × Mm)) (hk61 : ∀ (x0 : Nat) (x1 : Int32) (x2 : Int32) (x3 : Int32) (x4 : Int32) (x5 : Int32) (x6 : Int32) (M : Mm), EJ G Y_Mod_fails cvI 4 61 [(0, .ref x0), (1, .int x1), (2, .int x2), (3, .int x3), (4, .int x4), (5, .int x5), (6, .int x6)] [] M (k61 x0 x1 x2 x3 x4 x5 x6 M)) (x0 : Nat) (x1 : Int32) (x2 : Int32) (x3 : Int32) (x4 : Int32) (x5 : Int32) (x6 : Int32) (M : Mm) : EJ G Y_Mod_fails cvI 4 170 [(0, .ref x0), (1, .int x1), (2, .int x2), (3, .int x3), (4, .int x4), (5, .int x5), (6, .int x6)] [] M (Mod_fails_J170 k61 x0 x1 x2 x3 x4 x5 x6 M) := by
  unfold Mod_fails_J170
  refine EJ_iinc 173 6 (lv2 := [(6, .int _), (0, .ref _), (1, .int _), (2, .int _), (3, .int _), (4, .int _), (5, .int _)]) (dk_132 (bt bc_Mod_fails_5 10 rfl) (bt bc_Mod_fails_5 11 rfl) (bt bc_Mod_fails_5 12 rfl) (n := 1) rfl) rfl (by decide) rfl (v := 1) kI_1 rfl ?_
  refine EJ_goto 61 (dk_167 (bt bc_Mod_fails_5 13 rfl) (bt bc_Mod_fails_5 14 rfl) (bt bc_Mod_fails_5 15 rfl) (n := -112) rfl) (by decide) ?_
  exact EJ_pick (lv2 := [(0, .ref _), (1, .int _), (2, .int _), (3, .int _), (4, .int _), (5, .int _), (6, .int _)]) [1, 2, 3, 4, 5, 6, 0] rfl (hk61 _ _ _ _ _ _ _ _)
def Mod_fails_J155 (k61 : Nat → Int32 → Int32 → Int32 → Int32 → Int32 → Int32 → Mm → Option (Int32 × Mm)) (k72 : Nat → Int32 → Int32 → Int32 → Int32 → Int32 → Int32 → Int32 → Mm → Option (Int32 × Mm)) (x0 : Nat) (x1 : Int32) (x2 : Int32) (x3 : Int32) (x4 : Int32) (x5 : Int32) (x6 : Int32) (x7 : Int32) (M : Mm) : Option (Int32 × Mm) :=
  let v31 : Int32 := x7 + 1
  k72 x0 x1 x2 x3 x4 x5 x6 v31 M
set_option maxRecDepth 100000 in
set_option maxHeartbeats 4000000 in
theorem e_Mod_fails_J155 {G : Gx} (k61 : Nat → Int32 → Int32 → Int32 → Int32 → Int32 → Int32 → Mm → Option (Int32 × Mm)) (k72 : Nat → Int32 → Int32 → Int32 → Int32 → Int32 → Int32 → Int32 → Mm → Option (Int32 × Mm)) (hk61 : ∀ (x0 : Nat) (x1 : Int32) (x2 : Int32) (x3 : Int32) (x4 : Int32) (x5 : Int32) (x6 : Int32) (M : Mm), EJ G Y_Mod_fails cvI 4 61 [(0, .ref x0), (1, .int x1), (2, .int x2), (3, .int x3), (4, .int x4), (5, .int x5), (6, .int x6)] [] M (k61 x0 x1 x2 x3 x4 x5 x6 M)) (hk72 : ∀ (x0 : Nat) (x1 : Int32) (x2 : Int32) (x3 : Int32) (x4 : Int32) (x5 : Int32) (x6 : Int32) (x7 : Int32) (M : Mm), EJ G Y_Mod_fails cvI 4 72 [(0, .ref x0), (1, .int x1), (2, .int x2), (3, .int x3), (4, .int x4), (5, .int x5), (6, .int x6), (7, .int x7)] [] M (k72 x0 x1 x2 x3 x4 x5 x6 x7 M)) (x0 : Nat) (x1 : Int32) (x2 : Int32) (x3 : Int32) (x4 : Int32) (x5 : Int32) (x6 : Int32) (x7 : Int32) (M : Mm) : EJ G Y_Mod_fails cvI 4 155 [(0, .ref x0), (1, .int x1), (2, .int x2), (3, .int x3), (4, .int x4), (5, .int x5), (6, .int x6), (7, .int x7)] [] M (Mod_fails_J155 k61 k72 x0 x1 x2 x3 x4 x5 x6 x7 M) := by
  unfold Mod_fails_J155
  refine EJ_iinc 158 7 (lv2 := [(7, .int _), (0, .ref _), (1, .int _), (2, .int _), (3, .int _), (4, .int _), (5, .int _), (6, .int _)]) (dk_132 (bt bc_Mod_fails_4 27 rfl) (bt bc_Mod_fails_4 28 rfl) (bt bc_Mod_fails_4 29 rfl) (n := 1) rfl) rfl (by decide) rfl (v := 1) kI_1 rfl ?_
  refine EJ_goto 72 (dk_167 (bt bc_Mod_fails_4 30 rfl) (bt bc_Mod_fails_4 31 rfl) (bt bc_Mod_fails_5 0 rfl) (n := -86) rfl) (by decide) ?_
  exact EJ_pick (lv2 := [(0, .ref _), (1, .int _), (2, .int _), (3, .int _), (4, .int _), (5, .int _), (6, .int _), (7, .int _)]) [1, 2, 3, 4, 5, 6, 7, 0] rfl (hk72 _ _ _ _ _ _ _ _ _)
def Mod_fails_B72 (k61 : Nat → Int32 → Int32 → Int32 → Int32 → Int32 → Int32 → Mm → Option (Int32 × Mm)) (k72 : Nat → Int32 → Int32 → Int32 → Int32 → Int32 → Int32 → Int32 → Mm → Option (Int32 × Mm)) (x0 : Nat) (x1 : Int32) (x2 : Int32) (x3 : Int32) (x4 : Int32) (x5 : Int32) (x6 : Int32) (x7 : Int32) (M : Mm) : Option (Int32 × Mm) :=
  ck (kO M x0 12 107) (
  if (mI M x0 9) ≤ x7 then (
    if x5 = 0 then (
      Mod_fails_J170 k61 x0 x1 x2 x3 x4 x5 x6 M)
    else (
      Mod_fails_J170 k61 x0 x1 x2 x3 x6 x5 x6 M))
  else (
    nn (mR M x0 104) (fun b15 =>
    ck (kA M b15 20 x7) (
    if (mI M b15 (ix x7)) ≤ 0 then (
      bd (Mod_assets M x0 x7 x6) (fun r17 M18 =>
      ck (kO M18 x0 12 107) (
      bd (Mod_debts M18 x0 x7) (fun r20 M21 =>
      if r17 < r20 then (
        ck (kO M21 x0 12 107) (
        nn (mR M21 x0 104) (fun b23 =>
        ck (kA M21 b23 20 x7) (
        let M25 := sI M21 b23 (ix x7) x6
        nn (mR M25 x0 105) (fun b26 =>
        ck (!decide (r20 = 0)) (
        ck (kA M25 b26 20 x7) (
        let M29 := sI M25 b26 (ix x7) (Int64.toInt32 ((r17 * 100) / r20))
        let v30 : Int32 := x3 + 1
        Mod_fails_J155 k61 k72 x0 x1 x2 v30 x4 1 x6 x7 M29)))))))
      else (
        Mod_fails_J155 k61 k72 x0 x1 x2 x3 x4 x5 x6 x7 M21)))))
    else (
      Mod_fails_J155 k61 k72 x0 x1 x2 x3 x4 x5 x6 x7 M)))))
set_option maxRecDepth 100000 in
set_option maxHeartbeats 4000000 in
theorem e_Mod_fails_B72 {G : Gx} (k61 : Nat → Int32 → Int32 → Int32 → Int32 → Int32 → Int32 → Mm → Option (Int32 × Mm)) (k72 : Nat → Int32 → Int32 → Int32 → Int32 → Int32 → Int32 → Int32 → Mm → Option (Int32 × Mm)) (hk61 : ∀ (x0 : Nat) (x1 : Int32) (x2 : Int32) (x3 : Int32) (x4 : Int32) (x5 : Int32) (x6 : Int32) (M : Mm), EJ G Y_Mod_fails cvI 4 61 [(0, .ref x0), (1, .int x1), (2, .int x2), (3, .int x3), (4, .int x4), (5, .int x5), (6, .int x6)] [] M (k61 x0 x1 x2 x3 x4 x5 x6 M)) (hk72 : ∀ (x0 : Nat) (x1 : Int32) (x2 : Int32) (x3 : Int32) (x4 : Int32) (x5 : Int32) (x6 : Int32) (x7 : Int32) (M : Mm), EJ G Y_Mod_fails cvI 4 72 [(0, .ref x0), (1, .int x1), (2, .int x2), (3, .int x3), (4, .int x4), (5, .int x5), (6, .int x6), (7, .int x7)] [] M (k72 x0 x1 x2 x3 x4 x5 x6 x7 M)) (x0 : Nat) (x1 : Int32) (x2 : Int32) (x3 : Int32) (x4 : Int32) (x5 : Int32) (x6 : Int32) (x7 : Int32) (M : Mm) : EJ G Y_Mod_fails cvI 4 72 [(0, .ref x0), (1, .int x1), (2, .int x2), (3, .int x3), (4, .int x4), (5, .int x5), (6, .int x6), (7, .int x7)] [] M (Mod_fails_B72 k61 k72 x0 x1 x2 x3 x4 x5 x6 x7 M) := by
  unfold Mod_fails_B72
  refine EJ_iload 74 7 (dk_21 (bt bc_Mod_fails_2 8 rfl) (bt bc_Mod_fails_2 9 rfl)) rfl rfl ?_
  refine EJ_aload_n 75 0 (dk_42 (bt bc_Mod_fails_2 10 rfl)) rfl rfl ?_
  refine EJ_ck (fun h13 => ?_)
  refine EJ_getI cf12 9 (by decide) 78 tw_1207 (fun _ _ _ => rfl) (dk_180 (bt bc_Mod_fails_2 11 rfl) (bt bc_Mod_fails_2 12 rfl) (bt bc_Mod_fails_2 13 rfl) (n := 269) rfl) rfl (of_decide_eq_true h13) ?_
  refine EJ_icmp_ge 161 81 (dk_162 (bt bc_Mod_fails_2 14 rfl) (bt bc_Mod_fails_2 15 rfl) (bt bc_Mod_fails_2 16 rfl) (n := 83) rfl) (by decide) rfl (fun _ => ?_) (fun _ => ?_)
  · refine EJ_iload 163 5 (dk_21 (bt bc_Mod_fails_5 1 rfl) (bt bc_Mod_fails_5 2 rfl)) rfl rfl ?_
    refine EJ_if_eq 170 166 (dk_153 (bt bc_Mod_fails_5 3 rfl) (bt bc_Mod_fails_5 4 rfl) (bt bc_Mod_fails_5 5 rfl) (n := 7) rfl) (by decide) rfl (fun _ => ?_) (fun _ => ?_)
    · exact EJ_pick (lv2 := [(0, .ref _), (1, .int _), (2, .int _), (3, .int _), (4, .int _), (5, .int _), (6, .int _)]) [0, 1, 2, 3, 4, 5, 6] rfl (e_Mod_fails_J170 k61 hk61 _ _ _ _ _ _ _ _)
    · refine EJ_iload 168 6 (dk_21 (bt bc_Mod_fails_5 6 rfl) (bt bc_Mod_fails_5 7 rfl)) rfl rfl ?_
      refine EJ_istore 170 (lv2 := [(4, .int _), (0, .ref _), (1, .int _), (2, .int _), (3, .int _), (5, .int _), (6, .int _), (7, .int _)]) (dk_54 (bt bc_Mod_fails_5 8 rfl) (bt bc_Mod_fails_5 9 rfl)) rfl (by decide) rfl ?_
      exact EJ_pick (lv2 := [(0, .ref _), (1, .int _), (2, .int _), (3, .int _), (4, .int _), (5, .int _), (6, .int _)]) [1, 2, 3, 4, 0, 5, 6] rfl (e_Mod_fails_J170 k61 hk61 _ _ _ _ _ _ _ _)
  · refine EJ_aload_n 82 0 (dk_42 (bt bc_Mod_fails_2 17 rfl)) rfl rfl ?_
    refine EJ_getR cf12 104 (by decide) 85 tw_1302 (fun _ _ _ => rfl) (dk_180 (bt bc_Mod_fails_2 18 rfl) (bt bc_Mod_fails_2 19 rfl) (bt bc_Mod_fails_2 20 rfl) (n := 239) rfl) rfl (of_decide_eq_true h13) (fun b15 => ?_)
    refine EJ_iload 87 7 (dk_21 (bt bc_Mod_fails_2 21 rfl) (bt bc_Mod_fails_2 22 rfl)) rfl rfl ?_
    refine EJ_ck (fun h16 => ?_)
    refine EJ_iald 88 h16 (dk_46 (bt bc_Mod_fails_2 23 rfl)) rfl ?_
    refine EJ_if_le 94 91 (dk_158 (bt bc_Mod_fails_2 24 rfl) (bt bc_Mod_fails_2 25 rfl) (bt bc_Mod_fails_2 26 rfl) (n := 6) rfl) (by decide) rfl (fun _ => ?_) (fun _ => ?_)
    · refine EJ_aload_n 95 0 (dk_42 (bt bc_Mod_fails_2 30 rfl)) rfl rfl ?_
      refine EJ_iload 97 7 (dk_21 (bt bc_Mod_fails_2 31 rfl) (bt bc_Mod_fails_3 0 rfl)) rfl rfl ?_
      refine EJ_iload 99 6 (dk_21 (bt bc_Mod_fails_3 1 rfl) (bt bc_Mod_fails_3 2 rfl)) rfl rfl ?_
      refine EJ_callVl (Y2 := Y_Mod_assets) 102 cf12 (s_Mod_assets G _ _ _ _) (of_decide_eq_true h13) rfl (dk_182 (bt bc_Mod_fails_3 3 rfl) (bt bc_Mod_fails_3 4 rfl) (bt bc_Mod_fails_3 5 rfl) (n := 547) rfl) rfl tw_1865 tw_1867 ts_75 tw_1868 hd_Mod_assets rfl (by decide) (Nat.le_of_ble_eq_true rfl) (fun r17 M18 => ?_)
      refine EJ_lstore 104 (lv2 := [(8, .long _), (0, .ref _), (1, .int _), (2, .int _), (3, .int _), (4, .int _), (5, .int _), (6, .int _), (7, .int _)]) (dk_55 (bt bc_Mod_fails_3 6 rfl) (bt bc_Mod_fails_3 7 rfl)) rfl (by decide) rfl ?_
      refine EJ_aload_n 105 1 (dk_42 (bt bc_Mod_fails_3 8 rfl)) rfl rfl ?_
      refine EJ_iload 107 8 (dk_21 (bt bc_Mod_fails_3 9 rfl) (bt bc_Mod_fails_3 10 rfl)) rfl rfl ?_
      refine EJ_ck (fun h19 => ?_)
      refine EJ_callVl (Y2 := Y_Mod_debts) 110 cf12 (s_Mod_debts G _ _ _) (of_decide_eq_true h19) rfl (dk_182 (bt bc_Mod_fails_3 11 rfl) (bt bc_Mod_fails_3 12 rfl) (bt bc_Mod_fails_3 13 rfl) (n := 551) rfl) rfl tw_1869 tw_1871 ts_76 tw_1872 hd_Mod_debts rfl (by decide) (Nat.le_of_ble_eq_true rfl) (fun r20 M21 => ?_)
      refine EJ_lstore 112 (lv2 := [(10, .long _), (8, .long _), (0, .ref _), (1, .int _), (2, .int _), (3, .int _), (4, .int _), (5, .int _), (6, .int _), (7, .int _)]) (dk_55 (bt bc_Mod_fails_3 14 rfl) (bt bc_Mod_fails_3 15 rfl)) rfl (by decide) rfl ?_
      refine EJ_lload 114 1 (dk_22 (bt bc_Mod_fails_3 16 rfl) (bt bc_Mod_fails_3 17 rfl)) rfl rfl ?_
      refine EJ_lload 116 0 (dk_22 (bt bc_Mod_fails_3 18 rfl) (bt bc_Mod_fails_3 19 rfl)) rfl rfl ?_
      refine EJ_lcmp_lt 123 120 (dk_148 (bt bc_Mod_fails_3 20 rfl)) (dk_155 (bt bc_Mod_fails_3 21 rfl) (bt bc_Mod_fails_3 22 rfl) (bt bc_Mod_fails_3 23 rfl) (n := 6) rfl) (by decide) rfl (fun _ => ?_) (fun _ => ?_)
      · refine EJ_aload_n 124 2 (dk_42 (bt bc_Mod_fails_3 27 rfl)) rfl rfl ?_
        refine EJ_ck (fun h22 => ?_)
        refine EJ_getR cf12 104 (by decide) 127 tw_1302 (fun _ _ _ => rfl) (dk_180 (bt bc_Mod_fails_3 28 rfl) (bt bc_Mod_fails_3 29 rfl) (bt bc_Mod_fails_3 30 rfl) (n := 239) rfl) rfl (of_decide_eq_true h22) (fun b23 => ?_)
        refine EJ_iload 129 9 (dk_21 (bt bc_Mod_fails_3 31 rfl) (bt bc_Mod_fails_4 0 rfl)) rfl rfl ?_
        refine EJ_iload 131 8 (dk_21 (bt bc_Mod_fails_4 1 rfl) (bt bc_Mod_fails_4 2 rfl)) rfl rfl ?_
        refine EJ_ck (fun h24 => ?_)
        refine EJ_iast 132 h24 (dk_79 (bt bc_Mod_fails_4 3 rfl)) rfl ?_
        refine EJ_aload_n 133 2 (dk_42 (bt bc_Mod_fails_4 4 rfl)) rfl rfl ?_
        refine EJ_getR cf12 105 (by decide) 136 tw_1303 (fun _ _ _ => rfl) (dk_180 (bt bc_Mod_fails_4 5 rfl) (bt bc_Mod_fails_4 6 rfl) (bt bc_Mod_fails_4 7 rfl) (n := 242) rfl) rfl (kp_I (of_decide_eq_true h22)) (fun b26 => ?_)
        refine EJ_iload 138 9 (dk_21 (bt bc_Mod_fails_4 8 rfl) (bt bc_Mod_fails_4 9 rfl)) rfl rfl ?_
        refine EJ_lload 140 1 (dk_22 (bt bc_Mod_fails_4 10 rfl) (bt bc_Mod_fails_4 11 rfl)) rfl rfl ?_
        refine EJ_ldc2 143 (dk_20 (bt bc_Mod_fails_4 12 rfl) (bt bc_Mod_fails_4 13 rfl) (bt bc_Mod_fails_4 14 rfl) (n := 308) rfl) rfl tw_1646 ?_
        refine EJ_lmul 144 (dk_105 (bt bc_Mod_fails_4 15 rfl)) rfl ?_
        refine EJ_lload 146 0 (dk_22 (bt bc_Mod_fails_4 16 rfl) (bt bc_Mod_fails_4 17 rfl)) rfl rfl ?_
        refine EJ_ck (fun h27 => ?_)
        refine EJ_ldiv 147 (dk_109 (bt bc_Mod_fails_4 18 rfl)) rfl (by simpa using h27) ?_
        refine EJ_l2i 148 (dk_136 (bt bc_Mod_fails_4 19 rfl)) rfl ?_
        refine EJ_ck (fun h28 => ?_)
        refine EJ_iast 149 h28 (dk_79 (bt bc_Mod_fails_4 20 rfl)) rfl ?_
        refine EJ_iinc 152 5 (lv2 := [(3, .int _), (10, .long _), (8, .long _), (0, .ref _), (1, .int _), (2, .int _), (4, .int _), (5, .int _), (6, .int _), (7, .int _)]) (dk_132 (bt bc_Mod_fails_4 21 rfl) (bt bc_Mod_fails_4 22 rfl) (bt bc_Mod_fails_4 23 rfl) (n := 1) rfl) rfl (by decide) rfl (v := 1) kI_1 rfl ?_
        refine EJ_iconst 153 (dk_4 (bt bc_Mod_fails_4 24 rfl)) rfl (v := 1) kI_1 ?_
        refine EJ_istore 155 (lv2 := [(5, .int _), (3, .int _), (10, .long _), (8, .long _), (0, .ref _), (1, .int _), (2, .int _), (4, .int _), (6, .int _), (7, .int _)]) (dk_54 (bt bc_Mod_fails_4 25 rfl) (bt bc_Mod_fails_4 26 rfl)) rfl (by decide) rfl ?_
        exact EJ_pick (lv2 := [(0, .ref _), (1, .int _), (2, .int _), (3, .int _), (4, .int _), (5, .int _), (6, .int _), (7, .int _)]) [4, 5, 6, 1, 7, 0, 8, 9] rfl (e_Mod_fails_J155 k61 k72 hk61 hk72 _ _ _ _ _ _ _ _ _)
      · refine EJ_goto 155 (dk_167 (bt bc_Mod_fails_3 24 rfl) (bt bc_Mod_fails_3 25 rfl) (bt bc_Mod_fails_3 26 rfl) (n := 35) rfl) (by decide) ?_
        exact EJ_pick (lv2 := [(0, .ref _), (1, .int _), (2, .int _), (3, .int _), (4, .int _), (5, .int _), (6, .int _), (7, .int _)]) [2, 3, 4, 5, 6, 7, 8, 9] rfl (e_Mod_fails_J155 k61 k72 hk61 hk72 _ _ _ _ _ _ _ _ _)
    · refine EJ_goto 155 (dk_167 (bt bc_Mod_fails_2 27 rfl) (bt bc_Mod_fails_2 28 rfl) (bt bc_Mod_fails_2 29 rfl) (n := 64) rfl) (by decide) ?_
      exact EJ_pick (lv2 := [(0, .ref _), (1, .int _), (2, .int _), (3, .int _), (4, .int _), (5, .int _), (6, .int _), (7, .int _)]) [0, 1, 2, 3, 4, 5, 6, 7] rfl (e_Mod_fails_J155 k61 k72 hk61 hk72 _ _ _ _ _ _ _ _ _)
def Mod_fails_L72 (k61 : Nat → Int32 → Int32 → Int32 → Int32 → Int32 → Int32 → Mm → Option (Int32 × Mm)) (n : Nat) : Nat → Int32 → Int32 → Int32 → Int32 → Int32 → Int32 → Int32 → Mm → Option (Int32 × Mm) :=
  match n with
  | 0 => fun _ _ _ _ _ _ _ _ _ => none
  | n + 1 => Mod_fails_B72 k61 (Mod_fails_L72 k61 n)
theorem e_Mod_fails_L72 {G : Gx} (k61 : Nat → Int32 → Int32 → Int32 → Int32 → Int32 → Int32 → Mm → Option (Int32 × Mm)) (hk61 : ∀ (x0 : Nat) (x1 : Int32) (x2 : Int32) (x3 : Int32) (x4 : Int32) (x5 : Int32) (x6 : Int32) (M : Mm), EJ G Y_Mod_fails cvI 4 61 [(0, .ref x0), (1, .int x1), (2, .int x2), (3, .int x3), (4, .int x4), (5, .int x5), (6, .int x6)] [] M (k61 x0 x1 x2 x3 x4 x5 x6 M)) : ∀ (n : Nat) (x0 : Nat) (x1 : Int32) (x2 : Int32) (x3 : Int32) (x4 : Int32) (x5 : Int32) (x6 : Int32) (x7 : Int32) (M : Mm), EJ G Y_Mod_fails cvI 4 72 [(0, .ref x0), (1, .int x1), (2, .int x2), (3, .int x3), (4, .int x4), (5, .int x5), (6, .int x6), (7, .int x7)] [] M (Mod_fails_L72 k61 n x0 x1 x2 x3 x4 x5 x6 x7 M) := by
  intro n
  induction n with
  | zero => intros; exact EJ_none
  | succ n ih => intro x0 x1 x2 x3 x4 x5 x6 x7 M; exact e_Mod_fails_B72 k61 _ hk61 ih x0 x1 x2 x3 x4 x5 x6 x7 M
def Mod_fails_B61 (k61 : Nat → Int32 → Int32 → Int32 → Int32 → Int32 → Int32 → Mm → Option (Int32 × Mm)) (x0 : Nat) (x1 : Int32) (x2 : Int32) (x3 : Int32) (x4 : Int32) (x5 : Int32) (x6 : Int32) (M : Mm) : Option (Int32 × Mm) :=
  if x5 = 0 then (
    if x2 = 0 then (
      ck (kO M x0 12 107) (
      nn (mR M x0 104) (fun b11 =>
      ck (kA M b11 20 x1) (
      some (mI M b11 (ix x1), M)))))
    else (
      if x2 = 1 then (
        ck (kO M x0 12 107) (
        nn (mR M x0 105) (fun b8 =>
        ck (kA M b8 20 x1) (
        some (mI M b8 (ix x1), M)))))
      else (
        if x2 = 2 then (
          some (x3, M))
        else (
          some (x4, M)))))
  else (
    Mod_fails_L72 k61 fu x0 x1 x2 x3 x4 0 x6 0 M)
set_option maxRecDepth 100000 in
set_option maxHeartbeats 4000000 in
theorem e_Mod_fails_B61 {G : Gx} (k61 : Nat → Int32 → Int32 → Int32 → Int32 → Int32 → Int32 → Mm → Option (Int32 × Mm)) (hk61 : ∀ (x0 : Nat) (x1 : Int32) (x2 : Int32) (x3 : Int32) (x4 : Int32) (x5 : Int32) (x6 : Int32) (M : Mm), EJ G Y_Mod_fails cvI 4 61 [(0, .ref x0), (1, .int x1), (2, .int x2), (3, .int x3), (4, .int x4), (5, .int x5), (6, .int x6)] [] M (k61 x0 x1 x2 x3 x4 x5 x6 M)) (x0 : Nat) (x1 : Int32) (x2 : Int32) (x3 : Int32) (x4 : Int32) (x5 : Int32) (x6 : Int32) (M : Mm) : EJ G Y_Mod_fails cvI 4 61 [(0, .ref x0), (1, .int x1), (2, .int x2), (3, .int x3), (4, .int x4), (5, .int x5), (6, .int x6)] [] M (Mod_fails_B61 k61 x0 x1 x2 x3 x4 x5 x6 M) := by
  unfold Mod_fails_B61
  refine EJ_iload 63 5 (dk_21 (bt bc_Mod_fails_1 29 rfl) (bt bc_Mod_fails_1 30 rfl)) rfl rfl ?_
  refine EJ_if_eq 176 66 (dk_153 (bt bc_Mod_fails_1 31 rfl) (bt bc_Mod_fails_2 0 rfl) (bt bc_Mod_fails_2 1 rfl) (n := 113) rfl) (by decide) rfl (fun _ => ?_) (fun _ => ?_)
  · refine EJ_iload_n 177 2 (dk_28 (bt bc_Mod_fails_5 16 rfl)) rfl rfl ?_
    refine EJ_if_ne 189 180 (dk_154 (bt bc_Mod_fails_5 17 rfl) (bt bc_Mod_fails_5 18 rfl) (bt bc_Mod_fails_5 19 rfl) (n := 12) rfl) (by decide) rfl (fun _ => ?_) (fun _ => ?_)
    · refine EJ_iload_n 190 2 (dk_28 (bt bc_Mod_fails_5 29 rfl)) rfl rfl ?_
      refine EJ_iconst 191 (dk_4 (bt bc_Mod_fails_5 30 rfl)) rfl (v := 1) kI_1 ?_
      refine EJ_icmp_ne 203 194 (dk_160 (bt bc_Mod_fails_5 31 rfl) (bt bc_Mod_fails_6 0 rfl) (bt bc_Mod_fails_6 1 rfl) (n := 12) rfl) (by decide) rfl (fun _ => ?_) (fun _ => ?_)
      · refine EJ_iload_n 204 2 (dk_28 (bt bc_Mod_fails_6 11 rfl)) rfl rfl ?_
        refine EJ_iconst 205 (dk_5 (bt bc_Mod_fails_6 12 rfl)) rfl (v := 2) kI_2 ?_
        refine EJ_icmp_ne 212 208 (dk_160 (bt bc_Mod_fails_6 13 rfl) (bt bc_Mod_fails_6 14 rfl) (bt bc_Mod_fails_6 15 rfl) (n := 7) rfl) (by decide) rfl (fun _ => ?_) (fun _ => ?_)
        · refine EJ_iload 214 4 (dk_21 (bt bc_Mod_fails_6 20 rfl) (bt bc_Mod_fails_6 21 rfl)) rfl rfl ?_
          exact EJ_iret rfl (dk_172 (bt bc_Mod_fails_6 22 rfl))
        · refine EJ_iload_n 209 3 (dk_29 (bt bc_Mod_fails_6 16 rfl)) rfl rfl ?_
          refine EJ_goto 214 (dk_167 (bt bc_Mod_fails_6 17 rfl) (bt bc_Mod_fails_6 18 rfl) (bt bc_Mod_fails_6 19 rfl) (n := 5) rfl) (by decide) ?_
          exact EJ_iret rfl (dk_172 (bt bc_Mod_fails_6 22 rfl))
      · refine EJ_aload_n 195 0 (dk_42 (bt bc_Mod_fails_6 2 rfl)) rfl rfl ?_
        refine EJ_ck (fun h7 => ?_)
        refine EJ_getR cf12 105 (by decide) 198 tw_1303 (fun _ _ _ => rfl) (dk_180 (bt bc_Mod_fails_6 3 rfl) (bt bc_Mod_fails_6 4 rfl) (bt bc_Mod_fails_6 5 rfl) (n := 242) rfl) rfl (of_decide_eq_true h7) (fun b8 => ?_)
        refine EJ_iload_n 199 1 (dk_27 (bt bc_Mod_fails_6 6 rfl)) rfl rfl ?_
        refine EJ_ck (fun h9 => ?_)
        refine EJ_iald 200 h9 (dk_46 (bt bc_Mod_fails_6 7 rfl)) rfl ?_
        refine EJ_goto 214 (dk_167 (bt bc_Mod_fails_6 8 rfl) (bt bc_Mod_fails_6 9 rfl) (bt bc_Mod_fails_6 10 rfl) (n := 14) rfl) (by decide) ?_
        exact EJ_iret rfl (dk_172 (bt bc_Mod_fails_6 22 rfl))
    · refine EJ_aload_n 181 0 (dk_42 (bt bc_Mod_fails_5 20 rfl)) rfl rfl ?_
      refine EJ_ck (fun h10 => ?_)
      refine EJ_getR cf12 104 (by decide) 184 tw_1302 (fun _ _ _ => rfl) (dk_180 (bt bc_Mod_fails_5 21 rfl) (bt bc_Mod_fails_5 22 rfl) (bt bc_Mod_fails_5 23 rfl) (n := 239) rfl) rfl (of_decide_eq_true h10) (fun b11 => ?_)
      refine EJ_iload_n 185 1 (dk_27 (bt bc_Mod_fails_5 24 rfl)) rfl rfl ?_
      refine EJ_ck (fun h12 => ?_)
      refine EJ_iald 186 h12 (dk_46 (bt bc_Mod_fails_5 25 rfl)) rfl ?_
      refine EJ_goto 214 (dk_167 (bt bc_Mod_fails_5 26 rfl) (bt bc_Mod_fails_5 27 rfl) (bt bc_Mod_fails_5 28 rfl) (n := 28) rfl) (by decide) ?_
      exact EJ_iret rfl (dk_172 (bt bc_Mod_fails_6 22 rfl))
  · refine EJ_iconst 67 (dk_3 (bt bc_Mod_fails_2 2 rfl)) rfl (v := 0) kI_0 ?_
    refine EJ_istore 69 (lv2 := [(5, .int _), (0, .ref _), (1, .int _), (2, .int _), (3, .int _), (4, .int _), (6, .int _)]) (dk_54 (bt bc_Mod_fails_2 3 rfl) (bt bc_Mod_fails_2 4 rfl)) rfl (by decide) rfl ?_
    refine EJ_iconst 70 (dk_3 (bt bc_Mod_fails_2 5 rfl)) rfl (v := 0) kI_0 ?_
    refine EJ_istore 72 (lv2 := [(7, .int _), (5, .int _), (0, .ref _), (1, .int _), (2, .int _), (3, .int _), (4, .int _), (6, .int _)]) (dk_54 (bt bc_Mod_fails_2 6 rfl) (bt bc_Mod_fails_2 7 rfl)) rfl (by decide) rfl ?_
    exact EJ_pick (lv2 := [(0, .ref _), (1, .int _), (2, .int _), (3, .int _), (4, .int _), (5, .int _), (6, .int _), (7, .int _)]) [2, 3, 4, 5, 6, 1, 7, 0] rfl (e_Mod_fails_L72 k61 hk61 fu _ _ _ _ _ _ _ _ _)
def Mod_fails_L61 (n : Nat) : Nat → Int32 → Int32 → Int32 → Int32 → Int32 → Int32 → Mm → Option (Int32 × Mm) :=
  match n with
  | 0 => fun _ _ _ _ _ _ _ _ => none
  | n + 1 => Mod_fails_B61 (Mod_fails_L61 n)
theorem e_Mod_fails_L61 {G : Gx} : ∀ (n : Nat) (x0 : Nat) (x1 : Int32) (x2 : Int32) (x3 : Int32) (x4 : Int32) (x5 : Int32) (x6 : Int32) (M : Mm), EJ G Y_Mod_fails cvI 4 61 [(0, .ref x0), (1, .int x1), (2, .int x2), (3, .int x3), (4, .int x4), (5, .int x5), (6, .int x6)] [] M (Mod_fails_L61 n x0 x1 x2 x3 x4 x5 x6 M) := by
  intro n
  induction n with
  | zero => intros; exact EJ_none
  | succ n ih => intro x0 x1 x2 x3 x4 x5 x6 M; exact e_Mod_fails_B61 _ ih x0 x1 x2 x3 x4 x5 x6 M
def Mod_fails_B21 (k21 : Nat → Int32 → Int32 → Int32 → Mm → Option (Int32 × Mm)) (x0 : Nat) (x1 : Int32) (x2 : Int32) (x3 : Int32) (M : Mm) : Option (Int32 × Mm) :=
  ck (kO M x0 12 107) (
  if (mI M x0 9) ≤ x3 then (
    Mod_fails_L61 fu x0 x1 x2 0 0 1 1 M)
  else (
    nn (mR M x0 104) (fun b32 =>
    ck (kA M b32 20 x3) (
    let M34 := sI M b32 (ix x3) 0
    nn (mR M34 x0 105) (fun b35 =>
    ck (kA M34 b35 20 x3) (
    let M37 := sI M34 b35 (ix x3) 100
    let v38 : Int32 := x3 + 1
    k21 x0 x1 x2 v38 M37))))))
set_option maxRecDepth 100000 in
set_option maxHeartbeats 4000000 in
theorem e_Mod_fails_B21 {G : Gx} (k21 : Nat → Int32 → Int32 → Int32 → Mm → Option (Int32 × Mm)) (hk21 : ∀ (x0 : Nat) (x1 : Int32) (x2 : Int32) (x3 : Int32) (M : Mm), EJ G Y_Mod_fails cvI 4 21 [(0, .ref x0), (1, .int x1), (2, .int x2), (3, .int x3)] [] M (k21 x0 x1 x2 x3 M)) (x0 : Nat) (x1 : Int32) (x2 : Int32) (x3 : Int32) (M : Mm) : EJ G Y_Mod_fails cvI 4 21 [(0, .ref x0), (1, .int x1), (2, .int x2), (3, .int x3)] [] M (Mod_fails_B21 k21 x0 x1 x2 x3 M) := by
  unfold Mod_fails_B21
  refine EJ_iload_n 22 3 (dk_29 (bt bc_Mod_fails_0 21 rfl)) rfl rfl ?_
  refine EJ_aload_n 23 0 (dk_42 (bt bc_Mod_fails_0 22 rfl)) rfl rfl ?_
  refine EJ_ck (fun h6 => ?_)
  refine EJ_getI cf12 9 (by decide) 26 tw_1207 (fun _ _ _ => rfl) (dk_180 (bt bc_Mod_fails_0 23 rfl) (bt bc_Mod_fails_0 24 rfl) (bt bc_Mod_fails_0 25 rfl) (n := 269) rfl) rfl (of_decide_eq_true h6) ?_
  refine EJ_icmp_ge 50 29 (dk_162 (bt bc_Mod_fails_0 26 rfl) (bt bc_Mod_fails_0 27 rfl) (bt bc_Mod_fails_0 28 rfl) (n := 24) rfl) (by decide) rfl (fun _ => ?_) (fun _ => ?_)
  · refine EJ_iconst 51 (dk_3 (bt bc_Mod_fails_1 18 rfl)) rfl (v := 0) kI_0 ?_
    refine EJ_istore_n 52 (lv2 := [(3, .int _), (0, .ref _), (1, .int _), (2, .int _)]) (dk_62 (bt bc_Mod_fails_1 19 rfl)) rfl (by decide) rfl ?_
    refine EJ_iconst 53 (dk_3 (bt bc_Mod_fails_1 20 rfl)) rfl (v := 0) kI_0 ?_
    refine EJ_istore 55 (lv2 := [(4, .int _), (3, .int _), (0, .ref _), (1, .int _), (2, .int _)]) (dk_54 (bt bc_Mod_fails_1 21 rfl) (bt bc_Mod_fails_1 22 rfl)) rfl (by decide) rfl ?_
    refine EJ_iconst 56 (dk_4 (bt bc_Mod_fails_1 23 rfl)) rfl (v := 1) kI_1 ?_
    refine EJ_istore 58 (lv2 := [(5, .int _), (4, .int _), (3, .int _), (0, .ref _), (1, .int _), (2, .int _)]) (dk_54 (bt bc_Mod_fails_1 24 rfl) (bt bc_Mod_fails_1 25 rfl)) rfl (by decide) rfl ?_
    refine EJ_iconst 59 (dk_4 (bt bc_Mod_fails_1 26 rfl)) rfl (v := 1) kI_1 ?_
    refine EJ_istore 61 (lv2 := [(6, .int _), (5, .int _), (4, .int _), (3, .int _), (0, .ref _), (1, .int _), (2, .int _)]) (dk_54 (bt bc_Mod_fails_1 27 rfl) (bt bc_Mod_fails_1 28 rfl)) rfl (by decide) rfl ?_
    exact EJ_pick (lv2 := [(0, .ref _), (1, .int _), (2, .int _), (3, .int _), (4, .int _), (5, .int _), (6, .int _)]) [4, 5, 6, 3, 2, 1, 0] rfl (e_Mod_fails_L61 fu _ _ _ _ _ _ _ _)
  · refine EJ_aload_n 30 0 (dk_42 (bt bc_Mod_fails_0 29 rfl)) rfl rfl ?_
    refine EJ_getR cf12 104 (by decide) 33 tw_1302 (fun _ _ _ => rfl) (dk_180 (bt bc_Mod_fails_0 30 rfl) (bt bc_Mod_fails_0 31 rfl) (bt bc_Mod_fails_1 0 rfl) (n := 239) rfl) rfl (of_decide_eq_true h6) (fun b32 => ?_)
    refine EJ_iload_n 34 3 (dk_29 (bt bc_Mod_fails_1 1 rfl)) rfl rfl ?_
    refine EJ_iconst 35 (dk_3 (bt bc_Mod_fails_1 2 rfl)) rfl (v := 0) kI_0 ?_
    refine EJ_ck (fun h33 => ?_)
    refine EJ_iast 36 h33 (dk_79 (bt bc_Mod_fails_1 3 rfl)) rfl ?_
    refine EJ_aload_n 37 0 (dk_42 (bt bc_Mod_fails_1 4 rfl)) rfl rfl ?_
    refine EJ_getR cf12 105 (by decide) 40 tw_1303 (fun _ _ _ => rfl) (dk_180 (bt bc_Mod_fails_1 5 rfl) (bt bc_Mod_fails_1 6 rfl) (bt bc_Mod_fails_1 7 rfl) (n := 242) rfl) rfl (kp_I (of_decide_eq_true h6)) (fun b35 => ?_)
    refine EJ_iload_n 41 3 (dk_29 (bt bc_Mod_fails_1 8 rfl)) rfl rfl ?_
    refine EJ_bipush 43 (dk_16 (bt bc_Mod_fails_1 9 rfl) (bt bc_Mod_fails_1 10 rfl) (n := 100) rfl) rfl (v := 100) kB_100 ?_
    refine EJ_ck (fun h36 => ?_)
    refine EJ_iast 44 h36 (dk_79 (bt bc_Mod_fails_1 11 rfl)) rfl ?_
    refine EJ_iinc 47 3 (lv2 := [(3, .int _), (0, .ref _), (1, .int _), (2, .int _)]) (dk_132 (bt bc_Mod_fails_1 12 rfl) (bt bc_Mod_fails_1 13 rfl) (bt bc_Mod_fails_1 14 rfl) (n := 1) rfl) rfl (by decide) rfl (v := 1) kI_1 rfl ?_
    refine EJ_goto 21 (dk_167 (bt bc_Mod_fails_1 15 rfl) (bt bc_Mod_fails_1 16 rfl) (bt bc_Mod_fails_1 17 rfl) (n := -26) rfl) (by decide) ?_
    exact EJ_pick (lv2 := [(0, .ref _), (1, .int _), (2, .int _), (3, .int _)]) [1, 2, 3, 0] rfl (hk21 _ _ _ _ _)
def Mod_fails_L21 (n : Nat) : Nat → Int32 → Int32 → Int32 → Mm → Option (Int32 × Mm) :=
  match n with
  | 0 => fun _ _ _ _ _ => none
  | n + 1 => Mod_fails_B21 (Mod_fails_L21 n)
theorem e_Mod_fails_L21 {G : Gx} : ∀ (n : Nat) (x0 : Nat) (x1 : Int32) (x2 : Int32) (x3 : Int32) (M : Mm), EJ G Y_Mod_fails cvI 4 21 [(0, .ref x0), (1, .int x1), (2, .int x2), (3, .int x3)] [] M (Mod_fails_L21 n x0 x1 x2 x3 M) := by
  intro n
  induction n with
  | zero => intros; exact EJ_none
  | succ n ih => intro x0 x1 x2 x3 M; exact e_Mod_fails_B21 _ ih x0 x1 x2 x3 M
def Mod_fails (M : Mm) (a0 : Nat) (a1 : Int32) (a2 : Int32) : Option (Int32 × Mm) :=
  ck (kO M a0 12 107) (
  bd (Mod_isPerson M a0 a1) (fun r2 M3 =>
  if r2 = 0 then (
    some ((-1), M3))
  else (
    bd (Mod_in M3 a2 0 3) (fun r4 M5 =>
    if r4 = 0 then (
      some ((-1), M5))
    else (
      Mod_fails_L21 fu a0 a1 a2 0 M5)))))
set_option maxRecDepth 100000 in
set_option maxHeartbeats 4000000 in
theorem s_Mod_fails (G : Gx) (M : Mm) (a0 : Nat) (a1 : Int32) (a2 : Int32) : FnS G Y_Mod_fails cvI 4 [.ref a0, .int a1, .int a2] M (Mod_fails M a0 a1 a2) := by
  refine FnS.ofE (by decide) (Nat.le_of_ble_eq_true rfl) ?_
  show EJ G Y_Mod_fails cvI 4 0 [(0, .ref a0), (1, .int a1), (2, .int a2)] [] M _
  unfold Mod_fails
  refine EJ_aload_n 1 0 (dk_42 (bt bc_Mod_fails_0 0 rfl)) rfl rfl ?_
  refine EJ_iload_n 2 1 (dk_27 (bt bc_Mod_fails_0 1 rfl)) rfl rfl ?_
  refine EJ_ck (fun h1 => ?_)
  refine EJ_callVi (Y2 := Y_Mod_isPerson) 5 cf12 (s_Mod_isPerson G _ _ _) (of_decide_eq_true h1) rfl (dk_182 (bt bc_Mod_fails_0 2 rfl) (bt bc_Mod_fails_0 3 rfl) (bt bc_Mod_fails_0 4 rfl) (n := 278) rfl) rfl tw_1576 tw_1578 ts_41 tw_1579 hd_Mod_isPerson rfl (by decide) (Nat.le_of_ble_eq_true rfl) (fun r2 M3 => ?_)
  refine EJ_if_eq 17 8 (dk_153 (bt bc_Mod_fails_0 5 rfl) (bt bc_Mod_fails_0 6 rfl) (bt bc_Mod_fails_0 7 rfl) (n := 12) rfl) (by decide) rfl (fun _ => ?_) (fun _ => ?_)
  · refine EJ_iconst 18 (dk_2 (bt bc_Mod_fails_0 17 rfl)) rfl (v := (-1)) kI_m1 ?_
    exact EJ_iret rfl (dk_172 (bt bc_Mod_fails_0 18 rfl))
  · refine EJ_iload_n 9 2 (dk_28 (bt bc_Mod_fails_0 8 rfl)) rfl rfl ?_
    refine EJ_iconst 10 (dk_3 (bt bc_Mod_fails_0 9 rfl)) rfl (v := 0) kI_0 ?_
    refine EJ_iconst 11 (dk_6 (bt bc_Mod_fails_0 10 rfl)) rfl (v := 3) kI_3 ?_
    refine EJ_callSi (Y2 := Y_Mod_in) 14 (s_Mod_in G _ _ _ _) rfl (dk_184 (bt bc_Mod_fails_0 11 rfl) (bt bc_Mod_fails_0 12 rfl) (bt bc_Mod_fails_0 13 rfl) (n := 252) rfl) rfl tw_1532 tw_1533 tw_8 tw_1534 hd_Mod_in rfl (by decide) (Nat.le_of_ble_eq_true rfl) (fun r4 M5 => ?_)
    refine EJ_if_ne 19 17 (dk_154 (bt bc_Mod_fails_0 14 rfl) (bt bc_Mod_fails_0 15 rfl) (bt bc_Mod_fails_0 16 rfl) (n := 5) rfl) (by decide) rfl (fun _ => ?_) (fun _ => ?_)
    · refine EJ_iconst 20 (dk_3 (bt bc_Mod_fails_0 19 rfl)) rfl (v := 0) kI_0 ?_
      refine EJ_istore_n 21 (lv2 := [(3, .int _), (0, .ref _), (1, .int _), (2, .int _)]) (dk_62 (bt bc_Mod_fails_0 20 rfl)) rfl (by decide) rfl ?_
      exact EJ_pick (lv2 := [(0, .ref _), (1, .int _), (2, .int _), (3, .int _)]) [1, 2, 3, 0] rfl (e_Mod_fails_L21 fu _ _ _ _ _)
    · refine EJ_iconst 18 (dk_2 (bt bc_Mod_fails_0 17 rfl)) rfl (v := (-1)) kI_m1 ?_
      exact EJ_iret rfl (dk_172 (bt bc_Mod_fails_0 18 rfl))
abbrev Y_Mod_other : Ym := (⟨"RiceHallModel", "other", "(III)I"⟩, prog_14_method_84_code, 11, (some FieldType.int))
theorem bc_Mod_other_0 : bts prog_14_method_84_code 0 [27, 155, 0, 42, 27, 42, 180, 2, 1, 162, 0, 34, 42, 180, 0, 152, 27, 46, 155, 0, 25, 28, 3, 19, 1, 45, 184, 0, 252, 153, 0, 14] := bts_of (by decide +kernel)
theorem bc_Mod_other_1 : bts prog_14_method_84_code 32 [29, 3, 19, 1, 45, 184, 0, 252, 154, 0, 5, 2, 172, 42, 180, 1, 254, 153, 0, 33, 3, 54, 4, 21, 4, 16, 60, 162, 0, 23, 42, 180] := bts_of (by decide +kernel)
theorem bc_Mod_other_2 : bts prog_14_method_84_code 64 [0, 245, 21, 4, 42, 180, 0, 227, 21, 4, 46, 79, 132, 4, 1, 167, 255, 232, 3, 54, 4, 21, 4, 16, 60, 162, 0, 17, 42, 180, 0, 227] := bts_of (by decide +kernel)
theorem bc_Mod_other_3 : bts prog_14_method_84_code 96 [21, 4, 3, 79, 132, 4, 1, 167, 255, 238, 2, 54, 4, 2, 54, 5, 3, 54, 6, 21, 6, 42, 180, 0, 170, 27, 46, 162, 0, 202, 42, 180] := bts_of (by decide +kernel)
theorem bc_Mod_other_4 : bts prog_14_method_84_code 128 [0, 188, 16, 120, 27, 104, 21, 6, 96, 46, 54, 7, 21, 7, 16, 100, 161, 0, 17, 42, 180, 0, 227, 21, 7, 16, 100, 100, 3, 79, 167, 0] := bts_of (by decide +kernel)
theorem bc_Mod_other_5 : bts prog_14_method_84_code 160 [161, 16, 60, 27, 104, 21, 7, 96, 54, 8, 42, 180, 0, 182, 21, 8, 46, 28, 161, 0, 141, 42, 180, 0, 182, 21, 8, 46, 29, 164, 0, 6] := bts_of (by decide +kernel)
theorem bc_Mod_other_6 : bts prog_14_method_84_code 192 [167, 0, 127, 42, 180, 0, 227, 21, 7, 42, 180, 0, 179, 21, 8, 46, 79, 42, 27, 21, 7, 21, 7, 182, 2, 7, 54, 9, 21, 9, 155, 0] := bts_of (by decide +kernel)
theorem bc_Mod_other_7 : bts prog_14_method_84_code 224 [97, 42, 180, 0, 227, 21, 7, 46, 42, 180, 0, 227, 21, 9, 46, 184, 1, 38, 54, 10, 42, 180, 0, 227, 21, 7, 92, 46, 21, 10, 100, 79] := bts_of (by decide +kernel)
theorem bc_Mod_other_8 : bts prog_14_method_84_code 256 [42, 180, 0, 227, 21, 9, 92, 46, 21, 10, 100, 79, 42, 180, 0, 182, 16, 60, 27, 104, 21, 9, 96, 46, 54, 4, 42, 180, 0, 185, 21, 8] := bts_of (by decide +kernel)
theorem bc_Mod_other_9 : bts prog_14_method_84_code 288 [46, 54, 5, 42, 180, 0, 227, 21, 7, 46, 154, 0, 7, 2, 167, 0, 12, 42, 27, 21, 7, 21, 7, 182, 2, 7, 54, 9, 167, 255, 160, 132] := bts_of (by decide +kernel)
theorem bc_Mod_other_10 : bts prog_14_method_84_code 320 [6, 1, 167, 255, 49, 3, 54, 6, 21, 6, 16, 60, 162, 0, 34, 42, 180, 0, 227, 21, 6, 42, 180, 1, 254, 153, 0, 13, 42, 180, 0, 245] := bts_of (by decide +kernel)
theorem bc_Mod_other_11 : bts prog_14_method_84_code 352 [21, 6, 46, 167, 0, 4, 3, 79, 132, 6, 1, 167, 255, 221, 21, 4, 155, 0, 26, 21, 5, 42, 180, 0, 152, 27, 46, 42, 180, 0, 158, 27] := bts_of (by decide +kernel)
theorem bc_Mod_other_12 : bts prog_14_method_84_code 384 [46, 100, 161, 0, 8, 21, 4, 167, 0, 4, 2, 172] := bts_of (by decide +kernel)
theorem hd_Mod_other : Y_Mod_other.1.cls = RX12 ∧ Y_Mod_other.1.cls ≠ "java/lang/invoke/MethodHandle" ∧ Y_Mod_other.1.cls ≠ "java/lang/invoke/VarHandle" ∧ (parseMethodDescriptor Y_Mod_other.1.desc).map (fun d => d.parameters.length) = some 3 := by decide +kernel
def Mod_other_J359 (k328 : Nat → Int32 → Int32 → Int32 → Int32 → Mm → Option (Int32 × Mm)) (x0 : Nat) (x1 : Int32) (x4 : Int32) (x5 : Int32) (x6 : Int32) (s0 : Int32) (s1 : Int32) (s2 : Nat) (M : Mm) : Option (Int32 × Mm) :=
  ck (kA M s2 20 s1) (
  let M20 := sI M s2 (ix s1) s0
  let v21 : Int32 := x6 + 1
  k328 x0 x1 x4 x5 v21 M20)
set_option maxRecDepth 100000 in
set_option maxHeartbeats 4000000 in
theorem e_Mod_other_J359 {G : Gx} (k328 : Nat → Int32 → Int32 → Int32 → Int32 → Mm → Option (Int32 × Mm)) (hk328 : ∀ (x0 : Nat) (x1 : Int32) (x4 : Int32) (x5 : Int32) (x6 : Int32) (M : Mm), EJ G Y_Mod_other cvI 2 328 [(0, .ref x0), (1, .int x1), (4, .int x4), (5, .int x5), (6, .int x6)] [] M (k328 x0 x1 x4 x5 x6 M)) (x0 : Nat) (x1 : Int32) (x4 : Int32) (x5 : Int32) (x6 : Int32) (s0 : Int32) (s1 : Int32) (s2 : Nat) (M : Mm) : EJ G Y_Mod_other cvI 2 359 [(0, .ref x0), (1, .int x1), (4, .int x4), (5, .int x5), (6, .int x6)] [.int s0, .int s1, .ref s2] M (Mod_other_J359 k328 x0 x1 x4 x5 x6 s0 s1 s2 M) := by
  unfold Mod_other_J359
  refine EJ_ck (fun h19 => ?_)
  refine EJ_iast 360 h19 (dk_79 (bt bc_Mod_other_11 7 rfl)) rfl ?_
  refine EJ_iinc 363 4 (lv2 := [(6, .int _), (0, .ref _), (1, .int _), (4, .int _), (5, .int _)]) (dk_132 (bt bc_Mod_other_11 8 rfl) (bt bc_Mod_other_11 9 rfl) (bt bc_Mod_other_11 10 rfl) (n := 1) rfl) rfl (by decide) rfl (v := 1) kI_1 rfl ?_
  refine EJ_goto 328 (dk_167 (bt bc_Mod_other_11 11 rfl) (bt bc_Mod_other_11 12 rfl) (bt bc_Mod_other_11 13 rfl) (n := -35) rfl) (by decide) ?_
  exact EJ_pick (lv2 := [(0, .ref _), (1, .int _), (4, .int _), (5, .int _), (6, .int _)]) [1, 2, 3, 4, 0] rfl (hk328 _ _ _ _ _ _)
def Mod_other_B328 (k328 : Nat → Int32 → Int32 → Int32 → Int32 → Mm → Option (Int32 × Mm)) (x0 : Nat) (x1 : Int32) (x4 : Int32) (x5 : Int32) (x6 : Int32) (M : Mm) : Option (Int32 × Mm) :=
  if 60 ≤ x6 then (
    if x4 < 0 then (
      some ((-1), M))
    else (
      ck (kO M x0 12 107) (
      nn (mR M x0 75) (fun b13 =>
      ck (kA M b13 20 x1) (
      nn (mR M x0 77) (fun b15 =>
      ck (kA M b15 20 x1) (
      if x5 < ((mI M b13 (ix x1)) - (mI M b15 (ix x1))) then (
        some ((-1), M))
      else (
        some (x4, M)))))))))
  else (
    ck (kO M x0 12 107) (
    nn (mR M x0 100) (fun b18 =>
    if (mI M x0 73) = 0 then (
      Mod_other_J359 k328 x0 x1 x4 x5 x6 0 x6 b18 M)
    else (
      nn (mR M x0 106) (fun b22 =>
      ck (kA M b22 20 x6) (
      Mod_other_J359 k328 x0 x1 x4 x5 x6 (mI M b22 (ix x6)) x6 b18 M))))))
set_option maxRecDepth 100000 in
set_option maxHeartbeats 4000000 in
theorem e_Mod_other_B328 {G : Gx} (k328 : Nat → Int32 → Int32 → Int32 → Int32 → Mm → Option (Int32 × Mm)) (hk328 : ∀ (x0 : Nat) (x1 : Int32) (x4 : Int32) (x5 : Int32) (x6 : Int32) (M : Mm), EJ G Y_Mod_other cvI 2 328 [(0, .ref x0), (1, .int x1), (4, .int x4), (5, .int x5), (6, .int x6)] [] M (k328 x0 x1 x4 x5 x6 M)) (x0 : Nat) (x1 : Int32) (x4 : Int32) (x5 : Int32) (x6 : Int32) (M : Mm) : EJ G Y_Mod_other cvI 2 328 [(0, .ref x0), (1, .int x1), (4, .int x4), (5, .int x5), (6, .int x6)] [] M (Mod_other_B328 k328 x0 x1 x4 x5 x6 M) := by
  unfold Mod_other_B328
  refine EJ_iload 330 4 (dk_21 (bt bc_Mod_other_10 8 rfl) (bt bc_Mod_other_10 9 rfl)) rfl rfl ?_
  refine EJ_bipush 332 (dk_16 (bt bc_Mod_other_10 10 rfl) (bt bc_Mod_other_10 11 rfl) (n := 60) rfl) rfl (v := 60) kB_60 ?_
  refine EJ_icmp_ge 366 335 (dk_162 (bt bc_Mod_other_10 12 rfl) (bt bc_Mod_other_10 13 rfl) (bt bc_Mod_other_10 14 rfl) (n := 34) rfl) (by decide) rfl (fun _ => ?_) (fun _ => ?_)
  · refine EJ_iload 368 2 (dk_21 (bt bc_Mod_other_11 14 rfl) (bt bc_Mod_other_11 15 rfl)) rfl rfl ?_
    refine EJ_if_lt 394 371 (dk_155 (bt bc_Mod_other_11 16 rfl) (bt bc_Mod_other_11 17 rfl) (bt bc_Mod_other_11 18 rfl) (n := 26) rfl) (by decide) rfl (fun _ => ?_) (fun _ => ?_)
    · refine EJ_iconst 395 (dk_2 (bt bc_Mod_other_12 10 rfl)) rfl (v := (-1)) kI_m1 ?_
      exact EJ_iret rfl (dk_172 (bt bc_Mod_other_12 11 rfl))
    · refine EJ_iload 373 3 (dk_21 (bt bc_Mod_other_11 19 rfl) (bt bc_Mod_other_11 20 rfl)) rfl rfl ?_
      refine EJ_aload_n 374 0 (dk_42 (bt bc_Mod_other_11 21 rfl)) rfl rfl ?_
      refine EJ_ck (fun h12 => ?_)
      refine EJ_getR cf12 75 (by decide) 377 tw_1273 (fun _ _ _ => rfl) (dk_180 (bt bc_Mod_other_11 22 rfl) (bt bc_Mod_other_11 23 rfl) (bt bc_Mod_other_11 24 rfl) (n := 152) rfl) rfl (of_decide_eq_true h12) (fun b13 => ?_)
      refine EJ_iload_n 378 1 (dk_27 (bt bc_Mod_other_11 25 rfl)) rfl rfl ?_
      refine EJ_ck (fun h14 => ?_)
      refine EJ_iald 379 h14 (dk_46 (bt bc_Mod_other_11 26 rfl)) rfl ?_
      refine EJ_aload_n 380 0 (dk_42 (bt bc_Mod_other_11 27 rfl)) rfl rfl ?_
      refine EJ_getR cf12 77 (by decide) 383 tw_1275 (fun _ _ _ => rfl) (dk_180 (bt bc_Mod_other_11 28 rfl) (bt bc_Mod_other_11 29 rfl) (bt bc_Mod_other_11 30 rfl) (n := 158) rfl) rfl (of_decide_eq_true h12) (fun b15 => ?_)
      refine EJ_iload_n 384 1 (dk_27 (bt bc_Mod_other_11 31 rfl)) rfl rfl ?_
      refine EJ_ck (fun h16 => ?_)
      refine EJ_iald 385 h16 (dk_46 (bt bc_Mod_other_12 0 rfl)) rfl ?_
      refine EJ_isub 386 (dk_100 (bt bc_Mod_other_12 1 rfl)) rfl ?_
      refine EJ_icmp_lt 394 389 (dk_161 (bt bc_Mod_other_12 2 rfl) (bt bc_Mod_other_12 3 rfl) (bt bc_Mod_other_12 4 rfl) (n := 8) rfl) (by decide) rfl (fun _ => ?_) (fun _ => ?_)
      · refine EJ_iconst 395 (dk_2 (bt bc_Mod_other_12 10 rfl)) rfl (v := (-1)) kI_m1 ?_
        exact EJ_iret rfl (dk_172 (bt bc_Mod_other_12 11 rfl))
      · refine EJ_iload 391 2 (dk_21 (bt bc_Mod_other_12 5 rfl) (bt bc_Mod_other_12 6 rfl)) rfl rfl ?_
        refine EJ_goto 395 (dk_167 (bt bc_Mod_other_12 7 rfl) (bt bc_Mod_other_12 8 rfl) (bt bc_Mod_other_12 9 rfl) (n := 4) rfl) (by decide) ?_
        exact EJ_iret rfl (dk_172 (bt bc_Mod_other_12 11 rfl))
  · refine EJ_aload_n 336 0 (dk_42 (bt bc_Mod_other_10 15 rfl)) rfl rfl ?_
    refine EJ_ck (fun h17 => ?_)
    refine EJ_getR cf12 100 (by decide) 339 tw_1298 (fun _ _ _ => rfl) (dk_180 (bt bc_Mod_other_10 16 rfl) (bt bc_Mod_other_10 17 rfl) (bt bc_Mod_other_10 18 rfl) (n := 227) rfl) rfl (of_decide_eq_true h17) (fun b18 => ?_)
    refine EJ_iload 341 4 (dk_21 (bt bc_Mod_other_10 19 rfl) (bt bc_Mod_other_10 20 rfl)) rfl rfl ?_
    refine EJ_aload_n 342 0 (dk_42 (bt bc_Mod_other_10 21 rfl)) rfl rfl ?_
    refine EJ_getI cf12 73 (by decide) 345 tw_1271 (fun _ _ _ => rfl) (dk_180 (bt bc_Mod_other_10 22 rfl) (bt bc_Mod_other_10 23 rfl) (bt bc_Mod_other_10 24 rfl) (n := 510) rfl) rfl (of_decide_eq_true h17) ?_
    refine EJ_if_eq 358 348 (dk_153 (bt bc_Mod_other_10 25 rfl) (bt bc_Mod_other_10 26 rfl) (bt bc_Mod_other_10 27 rfl) (n := 13) rfl) (by decide) rfl (fun _ => ?_) (fun _ => ?_)
    · refine EJ_iconst 359 (dk_3 (bt bc_Mod_other_11 6 rfl)) rfl (v := 0) kI_0 ?_
      exact EJ_pick (lv2 := [(0, .ref _), (1, .int _), (4, .int _), (5, .int _), (6, .int _)]) [0, 1, 2, 3, 4] rfl (e_Mod_other_J359 k328 hk328 _ _ _ _ _ _ _ _ _)
    · refine EJ_aload_n 349 0 (dk_42 (bt bc_Mod_other_10 28 rfl)) rfl rfl ?_
      refine EJ_getR cf12 106 (by decide) 352 tw_1304 (fun _ _ _ => rfl) (dk_180 (bt bc_Mod_other_10 29 rfl) (bt bc_Mod_other_10 30 rfl) (bt bc_Mod_other_10 31 rfl) (n := 245) rfl) rfl (of_decide_eq_true h17) (fun b22 => ?_)
      refine EJ_iload 354 4 (dk_21 (bt bc_Mod_other_11 0 rfl) (bt bc_Mod_other_11 1 rfl)) rfl rfl ?_
      refine EJ_ck (fun h23 => ?_)
      refine EJ_iald 355 h23 (dk_46 (bt bc_Mod_other_11 2 rfl)) rfl ?_
      refine EJ_goto 359 (dk_167 (bt bc_Mod_other_11 3 rfl) (bt bc_Mod_other_11 4 rfl) (bt bc_Mod_other_11 5 rfl) (n := 4) rfl) (by decide) ?_
      exact EJ_pick (lv2 := [(0, .ref _), (1, .int _), (4, .int _), (5, .int _), (6, .int _)]) [0, 1, 2, 3, 4] rfl (e_Mod_other_J359 k328 hk328 _ _ _ _ _ _ _ _ _)
def Mod_other_L328 (n : Nat) : Nat → Int32 → Int32 → Int32 → Int32 → Mm → Option (Int32 × Mm) :=
  match n with
  | 0 => fun _ _ _ _ _ _ => none
  | n + 1 => Mod_other_B328 (Mod_other_L328 n)
theorem e_Mod_other_L328 {G : Gx} : ∀ (n : Nat) (x0 : Nat) (x1 : Int32) (x4 : Int32) (x5 : Int32) (x6 : Int32) (M : Mm), EJ G Y_Mod_other cvI 2 328 [(0, .ref x0), (1, .int x1), (4, .int x4), (5, .int x5), (6, .int x6)] [] M (Mod_other_L328 n x0 x1 x4 x5 x6 M) := by
  intro n
  induction n with
  | zero => intros; exact EJ_none
  | succ n ih => intro x0 x1 x4 x5 x6 M; exact e_Mod_other_B328 _ ih x0 x1 x4 x5 x6 M
def Mod_other_J319 (k115 : Nat → Int32 → Int32 → Int32 → Int32 → Int32 → Int32 → Mm → Option (Int32 × Mm)) (x0 : Nat) (x1 : Int32) (x2 : Int32) (x3 : Int32) (x4 : Int32) (x5 : Int32) (x6 : Int32) (M : Mm) : Option (Int32 × Mm) :=
  let v30 : Int32 := x6 + 1
  k115 x0 x1 x2 x3 x4 x5 v30 M
set_option maxRecDepth 100000 in
set_option maxHeartbeats 4000000 in
theorem e_Mod_other_J319 {G : Gx} (k115 : Nat → Int32 → Int32 → Int32 → Int32 → Int32 → Int32 → Mm → Option (Int32 × Mm)) (hk115 : ∀ (x0 : Nat) (x1 : Int32) (x2 : Int32) (x3 : Int32) (x4 : Int32) (x5 : Int32) (x6 : Int32) (M : Mm), EJ G Y_Mod_other cvI 2 115 [(0, .ref x0), (1, .int x1), (2, .int x2), (3, .int x3), (4, .int x4), (5, .int x5), (6, .int x6)] [] M (k115 x0 x1 x2 x3 x4 x5 x6 M)) (x0 : Nat) (x1 : Int32) (x2 : Int32) (x3 : Int32) (x4 : Int32) (x5 : Int32) (x6 : Int32) (M : Mm) : EJ G Y_Mod_other cvI 2 319 [(0, .ref x0), (1, .int x1), (2, .int x2), (3, .int x3), (4, .int x4), (5, .int x5), (6, .int x6)] [] M (Mod_other_J319 k115 x0 x1 x2 x3 x4 x5 x6 M) := by
  unfold Mod_other_J319
  refine EJ_iinc 322 6 (lv2 := [(6, .int _), (0, .ref _), (1, .int _), (2, .int _), (3, .int _), (4, .int _), (5, .int _)]) (dk_132 (bt bc_Mod_other_9 31 rfl) (bt bc_Mod_other_10 0 rfl) (bt bc_Mod_other_10 1 rfl) (n := 1) rfl) rfl (by decide) rfl (v := 1) kI_1 rfl ?_
  refine EJ_goto 115 (dk_167 (bt bc_Mod_other_10 2 rfl) (bt bc_Mod_other_10 3 rfl) (bt bc_Mod_other_10 4 rfl) (n := -207) rfl) (by decide) ?_
  exact EJ_pick (lv2 := [(0, .ref _), (1, .int _), (2, .int _), (3, .int _), (4, .int _), (5, .int _), (6, .int _)]) [1, 2, 3, 4, 5, 6, 0] rfl (hk115 _ _ _ _ _ _ _ _)
def Mod_other_J314 (k115 : Nat → Int32 → Int32 → Int32 → Int32 → Int32 → Int32 → Mm → Option (Int32 × Mm)) (k220 : Nat → Int32 → Int32 → Int32 → Int32 → Int32 → Int32 → Int32 → Int32 → Int32 → Mm → Option (Int32 × Mm)) (x0 : Nat) (x1 : Int32) (x2 : Int32) (x3 : Int32) (x4 : Int32) (x5 : Int32) (x6 : Int32) (x7 : Int32) (x8 : Int32) (s0 : Int32) (M : Mm) : Option (Int32 × Mm) :=
  k220 x0 x1 x2 x3 x4 x5 x6 x7 x8 s0 M
set_option maxRecDepth 100000 in
set_option maxHeartbeats 4000000 in
theorem e_Mod_other_J314 {G : Gx} (k115 : Nat → Int32 → Int32 → Int32 → Int32 → Int32 → Int32 → Mm → Option (Int32 × Mm)) (k220 : Nat → Int32 → Int32 → Int32 → Int32 → Int32 → Int32 → Int32 → Int32 → Int32 → Mm → Option (Int32 × Mm)) (hk115 : ∀ (x0 : Nat) (x1 : Int32) (x2 : Int32) (x3 : Int32) (x4 : Int32) (x5 : Int32) (x6 : Int32) (M : Mm), EJ G Y_Mod_other cvI 2 115 [(0, .ref x0), (1, .int x1), (2, .int x2), (3, .int x3), (4, .int x4), (5, .int x5), (6, .int x6)] [] M (k115 x0 x1 x2 x3 x4 x5 x6 M)) (hk220 : ∀ (x0 : Nat) (x1 : Int32) (x2 : Int32) (x3 : Int32) (x4 : Int32) (x5 : Int32) (x6 : Int32) (x7 : Int32) (x8 : Int32) (x9 : Int32) (M : Mm), EJ G Y_Mod_other cvI 2 220 [(0, .ref x0), (1, .int x1), (2, .int x2), (3, .int x3), (4, .int x4), (5, .int x5), (6, .int x6), (7, .int x7), (8, .int x8), (9, .int x9)] [] M (k220 x0 x1 x2 x3 x4 x5 x6 x7 x8 x9 M)) (x0 : Nat) (x1 : Int32) (x2 : Int32) (x3 : Int32) (x4 : Int32) (x5 : Int32) (x6 : Int32) (x7 : Int32) (x8 : Int32) (s0 : Int32) (M : Mm) : EJ G Y_Mod_other cvI 2 314 [(0, .ref x0), (1, .int x1), (2, .int x2), (3, .int x3), (4, .int x4), (5, .int x5), (6, .int x6), (7, .int x7), (8, .int x8)] [.int s0] M (Mod_other_J314 k115 k220 x0 x1 x2 x3 x4 x5 x6 x7 x8 s0 M) := by
  unfold Mod_other_J314
  refine EJ_istore 316 (lv2 := [(9, .int _), (0, .ref _), (1, .int _), (2, .int _), (3, .int _), (4, .int _), (5, .int _), (6, .int _), (7, .int _), (8, .int _)]) (dk_54 (bt bc_Mod_other_9 26 rfl) (bt bc_Mod_other_9 27 rfl)) rfl (by decide) rfl ?_
  refine EJ_goto 220 (dk_167 (bt bc_Mod_other_9 28 rfl) (bt bc_Mod_other_9 29 rfl) (bt bc_Mod_other_9 30 rfl) (n := -96) rfl) (by decide) ?_
  exact EJ_pick (lv2 := [(0, .ref _), (1, .int _), (2, .int _), (3, .int _), (4, .int _), (5, .int _), (6, .int _), (7, .int _), (8, .int _), (9, .int _)]) [1, 2, 3, 4, 5, 6, 7, 8, 9, 0] rfl (hk220 _ _ _ _ _ _ _ _ _ _ _)
def Mod_other_B220 (k115 : Nat → Int32 → Int32 → Int32 → Int32 → Int32 → Int32 → Mm → Option (Int32 × Mm)) (k220 : Nat → Int32 → Int32 → Int32 → Int32 → Int32 → Int32 → Int32 → Int32 → Int32 → Mm → Option (Int32 × Mm)) (x0 : Nat) (x1 : Int32) (x2 : Int32) (x3 : Int32) (x4 : Int32) (x5 : Int32) (x6 : Int32) (x7 : Int32) (x8 : Int32) (x9 : Int32) (M : Mm) : Option (Int32 × Mm) :=
  if x9 < 0 then (
    Mod_other_J319 k115 x0 x1 x2 x3 x4 x5 x6 M)
  else (
    ck (kO M x0 12 107) (
    nn (mR M x0 100) (fun b41 =>
    ck (kA M b41 20 x7) (
    nn (mR M x0 100) (fun b43 =>
    ck (kA M b43 20 x9) (
    bd (Mod_min M (mI M b41 (ix x7)) (mI M b43 (ix x9))) (fun r45 M46 =>
    ck (kO M46 x0 12 107) (
    nn (mR M46 x0 100) (fun b48 =>
    ck (kA M46 b48 20 x7) (
    let M50 := sI M46 b48 (ix x7) ((mI M46 b48 (ix x7)) - r45)
    nn (mR M50 x0 100) (fun b51 =>
    ck (kA M50 b51 20 x9) (
    let M53 := sI M50 b51 (ix x9) ((mI M50 b51 (ix x9)) - r45)
    nn (mR M53 x0 85) (fun b54 =>
    ck (kA M53 b54 20 ((60 * x1) + x9)) (
    let v56 : Int32 := mI M53 b54 (ix ((60 * x1) + x9))
    nn (mR M53 x0 86) (fun b57 =>
    ck (kA M53 b57 20 x8) (
    let v59 : Int32 := mI M53 b57 (ix x8)
    nn (mR M53 x0 100) (fun b60 =>
    ck (kA M53 b60 20 x7) (
    if (mI M53 b60 (ix x7)) = 0 then (
      Mod_other_J314 k115 k220 x0 x1 x2 x3 v56 v59 x6 x7 x8 (-1) M53)
    else (
      bd (Mod_against M53 x0 x1 x7 x7) (fun r62 M63 =>
      Mod_other_J314 k115 k220 x0 x1 x2 x3 v56 v59 x6 x7 x8 r62 M63))))))))))))))))))))
set_option maxRecDepth 100000 in
set_option maxHeartbeats 4000000 in
theorem e_Mod_other_B220 {G : Gx} (k115 : Nat → Int32 → Int32 → Int32 → Int32 → Int32 → Int32 → Mm → Option (Int32 × Mm)) (k220 : Nat → Int32 → Int32 → Int32 → Int32 → Int32 → Int32 → Int32 → Int32 → Int32 → Mm → Option (Int32 × Mm)) (hk115 : ∀ (x0 : Nat) (x1 : Int32) (x2 : Int32) (x3 : Int32) (x4 : Int32) (x5 : Int32) (x6 : Int32) (M : Mm), EJ G Y_Mod_other cvI 2 115 [(0, .ref x0), (1, .int x1), (2, .int x2), (3, .int x3), (4, .int x4), (5, .int x5), (6, .int x6)] [] M (k115 x0 x1 x2 x3 x4 x5 x6 M)) (hk220 : ∀ (x0 : Nat) (x1 : Int32) (x2 : Int32) (x3 : Int32) (x4 : Int32) (x5 : Int32) (x6 : Int32) (x7 : Int32) (x8 : Int32) (x9 : Int32) (M : Mm), EJ G Y_Mod_other cvI 2 220 [(0, .ref x0), (1, .int x1), (2, .int x2), (3, .int x3), (4, .int x4), (5, .int x5), (6, .int x6), (7, .int x7), (8, .int x8), (9, .int x9)] [] M (k220 x0 x1 x2 x3 x4 x5 x6 x7 x8 x9 M)) (x0 : Nat) (x1 : Int32) (x2 : Int32) (x3 : Int32) (x4 : Int32) (x5 : Int32) (x6 : Int32) (x7 : Int32) (x8 : Int32) (x9 : Int32) (M : Mm) : EJ G Y_Mod_other cvI 2 220 [(0, .ref x0), (1, .int x1), (2, .int x2), (3, .int x3), (4, .int x4), (5, .int x5), (6, .int x6), (7, .int x7), (8, .int x8), (9, .int x9)] [] M (Mod_other_B220 k115 k220 x0 x1 x2 x3 x4 x5 x6 x7 x8 x9 M) := by
  unfold Mod_other_B220
  refine EJ_iload 222 9 (dk_21 (bt bc_Mod_other_6 28 rfl) (bt bc_Mod_other_6 29 rfl)) rfl rfl ?_
  refine EJ_if_lt 319 225 (dk_155 (bt bc_Mod_other_6 30 rfl) (bt bc_Mod_other_6 31 rfl) (bt bc_Mod_other_7 0 rfl) (n := 97) rfl) (by decide) rfl (fun _ => ?_) (fun _ => ?_)
  · exact EJ_pick (lv2 := [(0, .ref _), (1, .int _), (2, .int _), (3, .int _), (4, .int _), (5, .int _), (6, .int _)]) [0, 1, 2, 3, 4, 5, 6] rfl (e_Mod_other_J319 k115 hk115 _ _ _ _ _ _ _ _)
  · refine EJ_aload_n 226 0 (dk_42 (bt bc_Mod_other_7 1 rfl)) rfl rfl ?_
    refine EJ_ck (fun h40 => ?_)
    refine EJ_getR cf12 100 (by decide) 229 tw_1298 (fun _ _ _ => rfl) (dk_180 (bt bc_Mod_other_7 2 rfl) (bt bc_Mod_other_7 3 rfl) (bt bc_Mod_other_7 4 rfl) (n := 227) rfl) rfl (of_decide_eq_true h40) (fun b41 => ?_)
    refine EJ_iload 231 7 (dk_21 (bt bc_Mod_other_7 5 rfl) (bt bc_Mod_other_7 6 rfl)) rfl rfl ?_
    refine EJ_ck (fun h42 => ?_)
    refine EJ_iald 232 h42 (dk_46 (bt bc_Mod_other_7 7 rfl)) rfl ?_
    refine EJ_aload_n 233 0 (dk_42 (bt bc_Mod_other_7 8 rfl)) rfl rfl ?_
    refine EJ_getR cf12 100 (by decide) 236 tw_1298 (fun _ _ _ => rfl) (dk_180 (bt bc_Mod_other_7 9 rfl) (bt bc_Mod_other_7 10 rfl) (bt bc_Mod_other_7 11 rfl) (n := 227) rfl) rfl (of_decide_eq_true h40) (fun b43 => ?_)
    refine EJ_iload 238 9 (dk_21 (bt bc_Mod_other_7 12 rfl) (bt bc_Mod_other_7 13 rfl)) rfl rfl ?_
    refine EJ_ck (fun h44 => ?_)
    refine EJ_iald 239 h44 (dk_46 (bt bc_Mod_other_7 14 rfl)) rfl ?_
    refine EJ_callSi (Y2 := Y_Mod_min) 242 (s_Mod_min G _ _ _) rfl (dk_184 (bt bc_Mod_other_7 15 rfl) (bt bc_Mod_other_7 16 rfl) (bt bc_Mod_other_7 17 rfl) (n := 294) rfl) rfl tw_1596 tw_1597 tw_8 tw_1598 hd_Mod_min rfl (by decide) (Nat.le_of_ble_eq_true rfl) (fun r45 M46 => ?_)
    refine EJ_istore 244 (lv2 := [(10, .int _), (0, .ref _), (1, .int _), (2, .int _), (3, .int _), (4, .int _), (5, .int _), (6, .int _), (7, .int _), (8, .int _), (9, .int _)]) (dk_54 (bt bc_Mod_other_7 18 rfl) (bt bc_Mod_other_7 19 rfl)) rfl (by decide) rfl ?_
    refine EJ_aload_n 245 1 (dk_42 (bt bc_Mod_other_7 20 rfl)) rfl rfl ?_
    refine EJ_ck (fun h47 => ?_)
    refine EJ_getR cf12 100 (by decide) 248 tw_1298 (fun _ _ _ => rfl) (dk_180 (bt bc_Mod_other_7 21 rfl) (bt bc_Mod_other_7 22 rfl) (bt bc_Mod_other_7 23 rfl) (n := 227) rfl) rfl (of_decide_eq_true h47) (fun b48 => ?_)
    refine EJ_iload 250 8 (dk_21 (bt bc_Mod_other_7 24 rfl) (bt bc_Mod_other_7 25 rfl)) rfl rfl ?_
    refine EJ_dup2 251 (dk_92 (bt bc_Mod_other_7 26 rfl)) rfl rfl rfl ?_
    refine EJ_ck (fun h49 => ?_)
    refine EJ_iald 252 h49 (dk_46 (bt bc_Mod_other_7 27 rfl)) rfl ?_
    refine EJ_iload 254 0 (dk_21 (bt bc_Mod_other_7 28 rfl) (bt bc_Mod_other_7 29 rfl)) rfl rfl ?_
    refine EJ_isub 255 (dk_100 (bt bc_Mod_other_7 30 rfl)) rfl ?_
    refine EJ_iast 256 h49 (dk_79 (bt bc_Mod_other_7 31 rfl)) rfl ?_
    refine EJ_aload_n 257 1 (dk_42 (bt bc_Mod_other_8 0 rfl)) rfl rfl ?_
    refine EJ_getR cf12 100 (by decide) 260 tw_1298 (fun _ _ _ => rfl) (dk_180 (bt bc_Mod_other_8 1 rfl) (bt bc_Mod_other_8 2 rfl) (bt bc_Mod_other_8 3 rfl) (n := 227) rfl) rfl (kp_I (of_decide_eq_true h47)) (fun b51 => ?_)
    refine EJ_iload 262 10 (dk_21 (bt bc_Mod_other_8 4 rfl) (bt bc_Mod_other_8 5 rfl)) rfl rfl ?_
    refine EJ_dup2 263 (dk_92 (bt bc_Mod_other_8 6 rfl)) rfl rfl rfl ?_
    refine EJ_ck (fun h52 => ?_)
    refine EJ_iald 264 h52 (dk_46 (bt bc_Mod_other_8 7 rfl)) rfl ?_
    refine EJ_iload 266 0 (dk_21 (bt bc_Mod_other_8 8 rfl) (bt bc_Mod_other_8 9 rfl)) rfl rfl ?_
    refine EJ_isub 267 (dk_100 (bt bc_Mod_other_8 10 rfl)) rfl ?_
    refine EJ_iast 268 h52 (dk_79 (bt bc_Mod_other_8 11 rfl)) rfl ?_
    refine EJ_aload_n 269 1 (dk_42 (bt bc_Mod_other_8 12 rfl)) rfl rfl ?_
    refine EJ_getR cf12 85 (by decide) 272 tw_1283 (fun _ _ _ => rfl) (dk_180 (bt bc_Mod_other_8 13 rfl) (bt bc_Mod_other_8 14 rfl) (bt bc_Mod_other_8 15 rfl) (n := 182) rfl) rfl (kp_I (kp_I (of_decide_eq_true h47))) (fun b54 => ?_)
    refine EJ_bipush 274 (dk_16 (bt bc_Mod_other_8 16 rfl) (bt bc_Mod_other_8 17 rfl) (n := 60) rfl) rfl (v := 60) kB_60 ?_
    refine EJ_iload_n 275 2 (dk_27 (bt bc_Mod_other_8 18 rfl)) rfl rfl ?_
    refine EJ_imul 276 (dk_104 (bt bc_Mod_other_8 19 rfl)) rfl ?_
    refine EJ_iload 278 10 (dk_21 (bt bc_Mod_other_8 20 rfl) (bt bc_Mod_other_8 21 rfl)) rfl rfl ?_
    refine EJ_iadd 279 (dk_96 (bt bc_Mod_other_8 22 rfl)) rfl ?_
    refine EJ_ck (fun h55 => ?_)
    refine EJ_iald 280 h55 (dk_46 (bt bc_Mod_other_8 23 rfl)) rfl ?_
    refine EJ_istore 282 (lv2 := [(4, .int _), (10, .int _), (0, .ref _), (1, .int _), (2, .int _), (3, .int _), (5, .int _), (6, .int _), (7, .int _), (8, .int _), (9, .int _)]) (dk_54 (bt bc_Mod_other_8 24 rfl) (bt bc_Mod_other_8 25 rfl)) rfl (by decide) rfl ?_
    refine EJ_aload_n 283 2 (dk_42 (bt bc_Mod_other_8 26 rfl)) rfl rfl ?_
    refine EJ_getR cf12 86 (by decide) 286 tw_1284 (fun _ _ _ => rfl) (dk_180 (bt bc_Mod_other_8 27 rfl) (bt bc_Mod_other_8 28 rfl) (bt bc_Mod_other_8 29 rfl) (n := 185) rfl) rfl (kp_I (kp_I (of_decide_eq_true h47))) (fun b57 => ?_)
    refine EJ_iload 288 9 (dk_21 (bt bc_Mod_other_8 30 rfl) (bt bc_Mod_other_8 31 rfl)) rfl rfl ?_
    refine EJ_ck (fun h58 => ?_)
    refine EJ_iald 289 h58 (dk_46 (bt bc_Mod_other_9 0 rfl)) rfl ?_
    refine EJ_istore 291 (lv2 := [(5, .int _), (4, .int _), (10, .int _), (0, .ref _), (1, .int _), (2, .int _), (3, .int _), (6, .int _), (7, .int _), (8, .int _), (9, .int _)]) (dk_54 (bt bc_Mod_other_9 1 rfl) (bt bc_Mod_other_9 2 rfl)) rfl (by decide) rfl ?_
    refine EJ_aload_n 292 3 (dk_42 (bt bc_Mod_other_9 3 rfl)) rfl rfl ?_
    refine EJ_getR cf12 100 (by decide) 295 tw_1298 (fun _ _ _ => rfl) (dk_180 (bt bc_Mod_other_9 4 rfl) (bt bc_Mod_other_9 5 rfl) (bt bc_Mod_other_9 6 rfl) (n := 227) rfl) rfl (kp_I (kp_I (of_decide_eq_true h47))) (fun b60 => ?_)
    refine EJ_iload 297 8 (dk_21 (bt bc_Mod_other_9 7 rfl) (bt bc_Mod_other_9 8 rfl)) rfl rfl ?_
    refine EJ_ck (fun h61 => ?_)
    refine EJ_iald 298 h61 (dk_46 (bt bc_Mod_other_9 9 rfl)) rfl ?_
    refine EJ_if_ne 305 301 (dk_154 (bt bc_Mod_other_9 10 rfl) (bt bc_Mod_other_9 11 rfl) (bt bc_Mod_other_9 12 rfl) (n := 7) rfl) (by decide) rfl (fun _ => ?_) (fun _ => ?_)
    · refine EJ_aload_n 306 3 (dk_42 (bt bc_Mod_other_9 17 rfl)) rfl rfl ?_
      refine EJ_iload_n 307 4 (dk_27 (bt bc_Mod_other_9 18 rfl)) rfl rfl ?_
      refine EJ_iload 309 8 (dk_21 (bt bc_Mod_other_9 19 rfl) (bt bc_Mod_other_9 20 rfl)) rfl rfl ?_
      refine EJ_iload 311 8 (dk_21 (bt bc_Mod_other_9 21 rfl) (bt bc_Mod_other_9 22 rfl)) rfl rfl ?_
      refine EJ_callVi (Y2 := Y_Mod_against) 314 cf12 (s_Mod_against G _ _ _ _ _) (kp_I (kp_I (of_decide_eq_true h47))) rfl (dk_182 (bt bc_Mod_other_9 23 rfl) (bt bc_Mod_other_9 24 rfl) (bt bc_Mod_other_9 25 rfl) (n := 519) rfl) rfl tw_1797 tw_1799 ts_67 tw_1800 hd_Mod_against rfl (by decide) (Nat.le_of_ble_eq_true rfl) (fun r62 M63 => ?_)
      exact EJ_pick (lv2 := [(0, .ref _), (1, .int _), (2, .int _), (3, .int _), (4, .int _), (5, .int _), (6, .int _), (7, .int _), (8, .int _)]) [3, 4, 5, 6, 1, 0, 7, 8, 9] rfl (e_Mod_other_J314 k115 k220 hk115 hk220 _ _ _ _ _ _ _ _ _ _ _)
    · refine EJ_iconst 302 (dk_2 (bt bc_Mod_other_9 13 rfl)) rfl (v := (-1)) kI_m1 ?_
      refine EJ_goto 314 (dk_167 (bt bc_Mod_other_9 14 rfl) (bt bc_Mod_other_9 15 rfl) (bt bc_Mod_other_9 16 rfl) (n := 12) rfl) (by decide) ?_
      exact EJ_pick (lv2 := [(0, .ref _), (1, .int _), (2, .int _), (3, .int _), (4, .int _), (5, .int _), (6, .int _), (7, .int _), (8, .int _)]) [3, 4, 5, 6, 1, 0, 7, 8, 9] rfl (e_Mod_other_J314 k115 k220 hk115 hk220 _ _ _ _ _ _ _ _ _ _ _)
def Mod_other_L220 (k115 : Nat → Int32 → Int32 → Int32 → Int32 → Int32 → Int32 → Mm → Option (Int32 × Mm)) (n : Nat) : Nat → Int32 → Int32 → Int32 → Int32 → Int32 → Int32 → Int32 → Int32 → Int32 → Mm → Option (Int32 × Mm) :=
  match n with
  | 0 => fun _ _ _ _ _ _ _ _ _ _ _ => none
  | n + 1 => Mod_other_B220 k115 (Mod_other_L220 k115 n)
theorem e_Mod_other_L220 {G : Gx} (k115 : Nat → Int32 → Int32 → Int32 → Int32 → Int32 → Int32 → Mm → Option (Int32 × Mm)) (hk115 : ∀ (x0 : Nat) (x1 : Int32) (x2 : Int32) (x3 : Int32) (x4 : Int32) (x5 : Int32) (x6 : Int32) (M : Mm), EJ G Y_Mod_other cvI 2 115 [(0, .ref x0), (1, .int x1), (2, .int x2), (3, .int x3), (4, .int x4), (5, .int x5), (6, .int x6)] [] M (k115 x0 x1 x2 x3 x4 x5 x6 M)) : ∀ (n : Nat) (x0 : Nat) (x1 : Int32) (x2 : Int32) (x3 : Int32) (x4 : Int32) (x5 : Int32) (x6 : Int32) (x7 : Int32) (x8 : Int32) (x9 : Int32) (M : Mm), EJ G Y_Mod_other cvI 2 220 [(0, .ref x0), (1, .int x1), (2, .int x2), (3, .int x3), (4, .int x4), (5, .int x5), (6, .int x6), (7, .int x7), (8, .int x8), (9, .int x9)] [] M (Mod_other_L220 k115 n x0 x1 x2 x3 x4 x5 x6 x7 x8 x9 M) := by
  intro n
  induction n with
  | zero => intros; exact EJ_none
  | succ n ih => intro x0 x1 x2 x3 x4 x5 x6 x7 x8 x9 M; exact e_Mod_other_B220 k115 _ hk115 ih x0 x1 x2 x3 x4 x5 x6 x7 x8 x9 M
def Mod_other_B115 (k115 : Nat → Int32 → Int32 → Int32 → Int32 → Int32 → Int32 → Mm → Option (Int32 × Mm)) (x0 : Nat) (x1 : Int32) (x2 : Int32) (x3 : Int32) (x4 : Int32) (x5 : Int32) (x6 : Int32) (M : Mm) : Option (Int32 × Mm) :=
  ck (kO M x0 12 107) (
  nn (mR M x0 81) (fun b10 =>
  ck (kA M b10 20 x1) (
  if (mI M b10 (ix x1)) ≤ x6 then (
    Mod_other_L328 fu x0 x1 x4 x5 0 M)
  else (
    nn (mR M x0 87) (fun b24 =>
    ck (kA M b24 20 ((120 * x1) + x6)) (
    let v26 : Int32 := mI M b24 (ix ((120 * x1) + x6))
    if v26 < 100 then (
      let v27 : Int32 := (60 * x1) + v26
      nn (mR M x0 85) (fun b28 =>
      ck (kA M b28 20 v27) (
      if (mI M b28 (ix v27)) < x2 then (
        Mod_other_J319 k115 x0 x1 x2 x3 x4 x5 x6 M)
      else (
        nn (mR M x0 85) (fun b31 =>
        ck (kA M b31 20 v27) (
        if (mI M b31 (ix v27)) ≤ x3 then (
          nn (mR M x0 100) (fun b33 =>
          nn (mR M x0 84) (fun b34 =>
          ck (kA M b34 20 v27) (
          ck (kA M b33 20 v26) (
          let M37 := sI M b33 (ix v26) (mI M b34 (ix v27))
          bd (Mod_against M37 x0 x1 v26 v26) (fun r38 M39 =>
          Mod_other_L220 k115 fu x0 x1 x2 x3 x4 x5 x6 v26 v27 r38 M39))))))
        else (
          Mod_other_J319 k115 x0 x1 x2 x3 x4 x5 x6 M)))))))
    else (
      nn (mR M x0 100) (fun b64 =>
      ck (kA M b64 20 (v26 - 100)) (
      let M66 := sI M b64 (ix (v26 - 100)) 0
      Mod_other_J319 k115 x0 x1 x2 x3 x4 x5 x6 M66)))))))))
set_option maxRecDepth 100000 in
set_option maxHeartbeats 4000000 in
theorem e_Mod_other_B115 {G : Gx} (k115 : Nat → Int32 → Int32 → Int32 → Int32 → Int32 → Int32 → Mm → Option (Int32 × Mm)) (hk115 : ∀ (x0 : Nat) (x1 : Int32) (x2 : Int32) (x3 : Int32) (x4 : Int32) (x5 : Int32) (x6 : Int32) (M : Mm), EJ G Y_Mod_other cvI 2 115 [(0, .ref x0), (1, .int x1), (2, .int x2), (3, .int x3), (4, .int x4), (5, .int x5), (6, .int x6)] [] M (k115 x0 x1 x2 x3 x4 x5 x6 M)) (x0 : Nat) (x1 : Int32) (x2 : Int32) (x3 : Int32) (x4 : Int32) (x5 : Int32) (x6 : Int32) (M : Mm) : EJ G Y_Mod_other cvI 2 115 [(0, .ref x0), (1, .int x1), (2, .int x2), (3, .int x3), (4, .int x4), (5, .int x5), (6, .int x6)] [] M (Mod_other_B115 k115 x0 x1 x2 x3 x4 x5 x6 M) := by
  unfold Mod_other_B115
  refine EJ_iload 117 6 (dk_21 (bt bc_Mod_other_3 19 rfl) (bt bc_Mod_other_3 20 rfl)) rfl rfl ?_
  refine EJ_aload_n 118 0 (dk_42 (bt bc_Mod_other_3 21 rfl)) rfl rfl ?_
  refine EJ_ck (fun h9 => ?_)
  refine EJ_getR cf12 81 (by decide) 121 tw_1279 (fun _ _ _ => rfl) (dk_180 (bt bc_Mod_other_3 22 rfl) (bt bc_Mod_other_3 23 rfl) (bt bc_Mod_other_3 24 rfl) (n := 170) rfl) rfl (of_decide_eq_true h9) (fun b10 => ?_)
  refine EJ_iload_n 122 1 (dk_27 (bt bc_Mod_other_3 25 rfl)) rfl rfl ?_
  refine EJ_ck (fun h11 => ?_)
  refine EJ_iald 123 h11 (dk_46 (bt bc_Mod_other_3 26 rfl)) rfl ?_
  refine EJ_icmp_ge 325 126 (dk_162 (bt bc_Mod_other_3 27 rfl) (bt bc_Mod_other_3 28 rfl) (bt bc_Mod_other_3 29 rfl) (n := 202) rfl) (by decide) rfl (fun _ => ?_) (fun _ => ?_)
  · refine EJ_iconst 326 (dk_3 (bt bc_Mod_other_10 5 rfl)) rfl (v := 0) kI_0 ?_
    refine EJ_istore 328 (lv2 := [(6, .int _), (0, .ref _), (1, .int _), (2, .int _), (3, .int _), (4, .int _), (5, .int _)]) (dk_54 (bt bc_Mod_other_10 6 rfl) (bt bc_Mod_other_10 7 rfl)) rfl (by decide) rfl ?_
    exact EJ_pick (lv2 := [(0, .ref _), (1, .int _), (4, .int _), (5, .int _), (6, .int _)]) [1, 2, 5, 6, 0] rfl (e_Mod_other_L328 fu _ _ _ _ _ _)
  · refine EJ_aload_n 127 0 (dk_42 (bt bc_Mod_other_3 30 rfl)) rfl rfl ?_
    refine EJ_getR cf12 87 (by decide) 130 tw_1285 (fun _ _ _ => rfl) (dk_180 (bt bc_Mod_other_3 31 rfl) (bt bc_Mod_other_4 0 rfl) (bt bc_Mod_other_4 1 rfl) (n := 188) rfl) rfl (of_decide_eq_true h9) (fun b24 => ?_)
    refine EJ_bipush 132 (dk_16 (bt bc_Mod_other_4 2 rfl) (bt bc_Mod_other_4 3 rfl) (n := 120) rfl) rfl (v := 120) kB_120 ?_
    refine EJ_iload_n 133 1 (dk_27 (bt bc_Mod_other_4 4 rfl)) rfl rfl ?_
    refine EJ_imul 134 (dk_104 (bt bc_Mod_other_4 5 rfl)) rfl ?_
    refine EJ_iload 136 6 (dk_21 (bt bc_Mod_other_4 6 rfl) (bt bc_Mod_other_4 7 rfl)) rfl rfl ?_
    refine EJ_iadd 137 (dk_96 (bt bc_Mod_other_4 8 rfl)) rfl ?_
    refine EJ_ck (fun h25 => ?_)
    refine EJ_iald 138 h25 (dk_46 (bt bc_Mod_other_4 9 rfl)) rfl ?_
    refine EJ_istore 140 (lv2 := [(7, .int _), (0, .ref _), (1, .int _), (2, .int _), (3, .int _), (4, .int _), (5, .int _), (6, .int _)]) (dk_54 (bt bc_Mod_other_4 10 rfl) (bt bc_Mod_other_4 11 rfl)) rfl (by decide) rfl ?_
    refine EJ_iload 142 0 (dk_21 (bt bc_Mod_other_4 12 rfl) (bt bc_Mod_other_4 13 rfl)) rfl rfl ?_
    refine EJ_bipush 144 (dk_16 (bt bc_Mod_other_4 14 rfl) (bt bc_Mod_other_4 15 rfl) (n := 100) rfl) rfl (v := 100) kB_100 ?_
    refine EJ_icmp_lt 161 147 (dk_161 (bt bc_Mod_other_4 16 rfl) (bt bc_Mod_other_4 17 rfl) (bt bc_Mod_other_4 18 rfl) (n := 17) rfl) (by decide) rfl (fun _ => ?_) (fun _ => ?_)
    · refine EJ_bipush 163 (dk_16 (bt bc_Mod_other_5 1 rfl) (bt bc_Mod_other_5 2 rfl) (n := 60) rfl) rfl (v := 60) kB_60 ?_
      refine EJ_iload_n 164 2 (dk_27 (bt bc_Mod_other_5 3 rfl)) rfl rfl ?_
      refine EJ_imul 165 (dk_104 (bt bc_Mod_other_5 4 rfl)) rfl ?_
      refine EJ_iload 167 0 (dk_21 (bt bc_Mod_other_5 5 rfl) (bt bc_Mod_other_5 6 rfl)) rfl rfl ?_
      refine EJ_iadd 168 (dk_96 (bt bc_Mod_other_5 7 rfl)) rfl ?_
      refine EJ_istore 170 (lv2 := [(8, .int _), (7, .int _), (0, .ref _), (1, .int _), (2, .int _), (3, .int _), (4, .int _), (5, .int _), (6, .int _)]) (dk_54 (bt bc_Mod_other_5 8 rfl) (bt bc_Mod_other_5 9 rfl)) rfl (by decide) rfl ?_
      refine EJ_aload_n 171 2 (dk_42 (bt bc_Mod_other_5 10 rfl)) rfl rfl ?_
      refine EJ_getR cf12 85 (by decide) 174 tw_1283 (fun _ _ _ => rfl) (dk_180 (bt bc_Mod_other_5 11 rfl) (bt bc_Mod_other_5 12 rfl) (bt bc_Mod_other_5 13 rfl) (n := 182) rfl) rfl (of_decide_eq_true h9) (fun b28 => ?_)
      refine EJ_iload 176 0 (dk_21 (bt bc_Mod_other_5 14 rfl) (bt bc_Mod_other_5 15 rfl)) rfl rfl ?_
      refine EJ_ck (fun h29 => ?_)
      refine EJ_iald 177 h29 (dk_46 (bt bc_Mod_other_5 16 rfl)) rfl ?_
      refine EJ_iload_n 178 4 (dk_28 (bt bc_Mod_other_5 17 rfl)) rfl rfl ?_
      refine EJ_icmp_lt 319 181 (dk_161 (bt bc_Mod_other_5 18 rfl) (bt bc_Mod_other_5 19 rfl) (bt bc_Mod_other_5 20 rfl) (n := 141) rfl) (by decide) rfl (fun _ => ?_) (fun _ => ?_)
      · exact EJ_pick (lv2 := [(0, .ref _), (1, .int _), (2, .int _), (3, .int _), (4, .int _), (5, .int _), (6, .int _)]) [2, 3, 4, 5, 6, 7, 8] rfl (e_Mod_other_J319 k115 hk115 _ _ _ _ _ _ _ _)
      · refine EJ_aload_n 182 2 (dk_42 (bt bc_Mod_other_5 21 rfl)) rfl rfl ?_
        refine EJ_getR cf12 85 (by decide) 185 tw_1283 (fun _ _ _ => rfl) (dk_180 (bt bc_Mod_other_5 22 rfl) (bt bc_Mod_other_5 23 rfl) (bt bc_Mod_other_5 24 rfl) (n := 182) rfl) rfl (of_decide_eq_true h9) (fun b31 => ?_)
        refine EJ_iload 187 0 (dk_21 (bt bc_Mod_other_5 25 rfl) (bt bc_Mod_other_5 26 rfl)) rfl rfl ?_
        refine EJ_ck (fun h32 => ?_)
        refine EJ_iald 188 h32 (dk_46 (bt bc_Mod_other_5 27 rfl)) rfl ?_
        refine EJ_iload_n 189 5 (dk_29 (bt bc_Mod_other_5 28 rfl)) rfl rfl ?_
        refine EJ_icmp_le 195 192 (dk_164 (bt bc_Mod_other_5 29 rfl) (bt bc_Mod_other_5 30 rfl) (bt bc_Mod_other_5 31 rfl) (n := 6) rfl) (by decide) rfl (fun _ => ?_) (fun _ => ?_)
        · refine EJ_aload_n 196 2 (dk_42 (bt bc_Mod_other_6 3 rfl)) rfl rfl ?_
          refine EJ_getR cf12 100 (by decide) 199 tw_1298 (fun _ _ _ => rfl) (dk_180 (bt bc_Mod_other_6 4 rfl) (bt bc_Mod_other_6 5 rfl) (bt bc_Mod_other_6 6 rfl) (n := 227) rfl) rfl (of_decide_eq_true h9) (fun b33 => ?_)
          refine EJ_iload 201 1 (dk_21 (bt bc_Mod_other_6 7 rfl) (bt bc_Mod_other_6 8 rfl)) rfl rfl ?_
          refine EJ_aload_n 202 2 (dk_42 (bt bc_Mod_other_6 9 rfl)) rfl rfl ?_
          refine EJ_getR cf12 84 (by decide) 205 tw_1282 (fun _ _ _ => rfl) (dk_180 (bt bc_Mod_other_6 10 rfl) (bt bc_Mod_other_6 11 rfl) (bt bc_Mod_other_6 12 rfl) (n := 179) rfl) rfl (of_decide_eq_true h9) (fun b34 => ?_)
          refine EJ_iload 207 0 (dk_21 (bt bc_Mod_other_6 13 rfl) (bt bc_Mod_other_6 14 rfl)) rfl rfl ?_
          refine EJ_ck (fun h35 => ?_)
          refine EJ_iald 208 h35 (dk_46 (bt bc_Mod_other_6 15 rfl)) rfl ?_
          refine EJ_ck (fun h36 => ?_)
          refine EJ_iast 209 h36 (dk_79 (bt bc_Mod_other_6 16 rfl)) rfl ?_
          refine EJ_aload_n 210 2 (dk_42 (bt bc_Mod_other_6 17 rfl)) rfl rfl ?_
          refine EJ_iload_n 211 3 (dk_27 (bt bc_Mod_other_6 18 rfl)) rfl rfl ?_
          refine EJ_iload 213 1 (dk_21 (bt bc_Mod_other_6 19 rfl) (bt bc_Mod_other_6 20 rfl)) rfl rfl ?_
          refine EJ_iload 215 1 (dk_21 (bt bc_Mod_other_6 21 rfl) (bt bc_Mod_other_6 22 rfl)) rfl rfl ?_
          refine EJ_callVi (Y2 := Y_Mod_against) 218 cf12 (s_Mod_against G _ _ _ _ _) (kp_I (of_decide_eq_true h9)) rfl (dk_182 (bt bc_Mod_other_6 23 rfl) (bt bc_Mod_other_6 24 rfl) (bt bc_Mod_other_6 25 rfl) (n := 519) rfl) rfl tw_1797 tw_1799 ts_67 tw_1800 hd_Mod_against rfl (by decide) (Nat.le_of_ble_eq_true rfl) (fun r38 M39 => ?_)
          refine EJ_istore 220 (lv2 := [(9, .int _), (8, .int _), (7, .int _), (0, .ref _), (1, .int _), (2, .int _), (3, .int _), (4, .int _), (5, .int _), (6, .int _)]) (dk_54 (bt bc_Mod_other_6 26 rfl) (bt bc_Mod_other_6 27 rfl)) rfl (by decide) rfl ?_
          exact EJ_pick (lv2 := [(0, .ref _), (1, .int _), (2, .int _), (3, .int _), (4, .int _), (5, .int _), (6, .int _), (7, .int _), (8, .int _), (9, .int _)]) [3, 4, 5, 6, 7, 8, 9, 2, 1, 0] rfl (e_Mod_other_L220 k115 hk115 fu _ _ _ _ _ _ _ _ _ _ _)
        · refine EJ_goto 319 (dk_167 (bt bc_Mod_other_6 0 rfl) (bt bc_Mod_other_6 1 rfl) (bt bc_Mod_other_6 2 rfl) (n := 127) rfl) (by decide) ?_
          exact EJ_pick (lv2 := [(0, .ref _), (1, .int _), (2, .int _), (3, .int _), (4, .int _), (5, .int _), (6, .int _)]) [2, 3, 4, 5, 6, 7, 8] rfl (e_Mod_other_J319 k115 hk115 _ _ _ _ _ _ _ _)
    · refine EJ_aload_n 148 1 (dk_42 (bt bc_Mod_other_4 19 rfl)) rfl rfl ?_
      refine EJ_getR cf12 100 (by decide) 151 tw_1298 (fun _ _ _ => rfl) (dk_180 (bt bc_Mod_other_4 20 rfl) (bt bc_Mod_other_4 21 rfl) (bt bc_Mod_other_4 22 rfl) (n := 227) rfl) rfl (of_decide_eq_true h9) (fun b64 => ?_)
      refine EJ_iload 153 0 (dk_21 (bt bc_Mod_other_4 23 rfl) (bt bc_Mod_other_4 24 rfl)) rfl rfl ?_
      refine EJ_bipush 155 (dk_16 (bt bc_Mod_other_4 25 rfl) (bt bc_Mod_other_4 26 rfl) (n := 100) rfl) rfl (v := 100) kB_100 ?_
      refine EJ_isub 156 (dk_100 (bt bc_Mod_other_4 27 rfl)) rfl ?_
      refine EJ_iconst 157 (dk_3 (bt bc_Mod_other_4 28 rfl)) rfl (v := 0) kI_0 ?_
      refine EJ_ck (fun h65 => ?_)
      refine EJ_iast 158 h65 (dk_79 (bt bc_Mod_other_4 29 rfl)) rfl ?_
      refine EJ_goto 319 (dk_167 (bt bc_Mod_other_4 30 rfl) (bt bc_Mod_other_4 31 rfl) (bt bc_Mod_other_5 0 rfl) (n := 161) rfl) (by decide) ?_
      exact EJ_pick (lv2 := [(0, .ref _), (1, .int _), (2, .int _), (3, .int _), (4, .int _), (5, .int _), (6, .int _)]) [1, 2, 3, 4, 5, 6, 7] rfl (e_Mod_other_J319 k115 hk115 _ _ _ _ _ _ _ _)
def Mod_other_L115 (n : Nat) : Nat → Int32 → Int32 → Int32 → Int32 → Int32 → Int32 → Mm → Option (Int32 × Mm) :=
  match n with
  | 0 => fun _ _ _ _ _ _ _ _ => none
  | n + 1 => Mod_other_B115 (Mod_other_L115 n)
theorem e_Mod_other_L115 {G : Gx} : ∀ (n : Nat) (x0 : Nat) (x1 : Int32) (x2 : Int32) (x3 : Int32) (x4 : Int32) (x5 : Int32) (x6 : Int32) (M : Mm), EJ G Y_Mod_other cvI 2 115 [(0, .ref x0), (1, .int x1), (2, .int x2), (3, .int x3), (4, .int x4), (5, .int x5), (6, .int x6)] [] M (Mod_other_L115 n x0 x1 x2 x3 x4 x5 x6 M) := by
  intro n
  induction n with
  | zero => intros; exact EJ_none
  | succ n ih => intro x0 x1 x2 x3 x4 x5 x6 M; exact e_Mod_other_B115 _ ih x0 x1 x2 x3 x4 x5 x6 M
def Mod_other_B85 (k85 : Nat → Int32 → Int32 → Int32 → Int32 → Mm → Option (Int32 × Mm)) (x0 : Nat) (x1 : Int32) (x2 : Int32) (x3 : Int32) (x4 : Int32) (M : Mm) : Option (Int32 × Mm) :=
  if 60 ≤ x4 then (
    Mod_other_L115 fu x0 x1 x2 x3 (-1) (-1) 0 M)
  else (
    ck (kO M x0 12 107) (
    nn (mR M x0 100) (fun b68 =>
    ck (kA M b68 20 x4) (
    let M70 := sI M b68 (ix x4) 0
    let v71 : Int32 := x4 + 1
    k85 x0 x1 x2 x3 v71 M70))))
set_option maxRecDepth 100000 in
set_option maxHeartbeats 4000000 in
theorem e_Mod_other_B85 {G : Gx} (k85 : Nat → Int32 → Int32 → Int32 → Int32 → Mm → Option (Int32 × Mm)) (hk85 : ∀ (x0 : Nat) (x1 : Int32) (x2 : Int32) (x3 : Int32) (x4 : Int32) (M : Mm), EJ G Y_Mod_other cvI 2 85 [(0, .ref x0), (1, .int x1), (2, .int x2), (3, .int x3), (4, .int x4)] [] M (k85 x0 x1 x2 x3 x4 M)) (x0 : Nat) (x1 : Int32) (x2 : Int32) (x3 : Int32) (x4 : Int32) (M : Mm) : EJ G Y_Mod_other cvI 2 85 [(0, .ref x0), (1, .int x1), (2, .int x2), (3, .int x3), (4, .int x4)] [] M (Mod_other_B85 k85 x0 x1 x2 x3 x4 M) := by
  unfold Mod_other_B85
  refine EJ_iload 87 4 (dk_21 (bt bc_Mod_other_2 21 rfl) (bt bc_Mod_other_2 22 rfl)) rfl rfl ?_
  refine EJ_bipush 89 (dk_16 (bt bc_Mod_other_2 23 rfl) (bt bc_Mod_other_2 24 rfl) (n := 60) rfl) rfl (v := 60) kB_60 ?_
  refine EJ_icmp_ge 106 92 (dk_162 (bt bc_Mod_other_2 25 rfl) (bt bc_Mod_other_2 26 rfl) (bt bc_Mod_other_2 27 rfl) (n := 17) rfl) (by decide) rfl (fun _ => ?_) (fun _ => ?_)
  · refine EJ_iconst 107 (dk_2 (bt bc_Mod_other_3 10 rfl)) rfl (v := (-1)) kI_m1 ?_
    refine EJ_istore 109 (lv2 := [(4, .int _), (0, .ref _), (1, .int _), (2, .int _), (3, .int _)]) (dk_54 (bt bc_Mod_other_3 11 rfl) (bt bc_Mod_other_3 12 rfl)) rfl (by decide) rfl ?_
    refine EJ_iconst 110 (dk_2 (bt bc_Mod_other_3 13 rfl)) rfl (v := (-1)) kI_m1 ?_
    refine EJ_istore 112 (lv2 := [(5, .int _), (4, .int _), (0, .ref _), (1, .int _), (2, .int _), (3, .int _)]) (dk_54 (bt bc_Mod_other_3 14 rfl) (bt bc_Mod_other_3 15 rfl)) rfl (by decide) rfl ?_
    refine EJ_iconst 113 (dk_3 (bt bc_Mod_other_3 16 rfl)) rfl (v := 0) kI_0 ?_
    refine EJ_istore 115 (lv2 := [(6, .int _), (5, .int _), (4, .int _), (0, .ref _), (1, .int _), (2, .int _), (3, .int _)]) (dk_54 (bt bc_Mod_other_3 17 rfl) (bt bc_Mod_other_3 18 rfl)) rfl (by decide) rfl ?_
    exact EJ_pick (lv2 := [(0, .ref _), (1, .int _), (2, .int _), (3, .int _), (4, .int _), (5, .int _), (6, .int _)]) [3, 4, 5, 6, 2, 1, 0] rfl (e_Mod_other_L115 fu _ _ _ _ _ _ _ _)
  · refine EJ_aload_n 93 0 (dk_42 (bt bc_Mod_other_2 28 rfl)) rfl rfl ?_
    refine EJ_ck (fun h67 => ?_)
    refine EJ_getR cf12 100 (by decide) 96 tw_1298 (fun _ _ _ => rfl) (dk_180 (bt bc_Mod_other_2 29 rfl) (bt bc_Mod_other_2 30 rfl) (bt bc_Mod_other_2 31 rfl) (n := 227) rfl) rfl (of_decide_eq_true h67) (fun b68 => ?_)
    refine EJ_iload 98 4 (dk_21 (bt bc_Mod_other_3 0 rfl) (bt bc_Mod_other_3 1 rfl)) rfl rfl ?_
    refine EJ_iconst 99 (dk_3 (bt bc_Mod_other_3 2 rfl)) rfl (v := 0) kI_0 ?_
    refine EJ_ck (fun h69 => ?_)
    refine EJ_iast 100 h69 (dk_79 (bt bc_Mod_other_3 3 rfl)) rfl ?_
    refine EJ_iinc 103 4 (lv2 := [(4, .int _), (0, .ref _), (1, .int _), (2, .int _), (3, .int _)]) (dk_132 (bt bc_Mod_other_3 4 rfl) (bt bc_Mod_other_3 5 rfl) (bt bc_Mod_other_3 6 rfl) (n := 1) rfl) rfl (by decide) rfl (v := 1) kI_1 rfl ?_
    refine EJ_goto 85 (dk_167 (bt bc_Mod_other_3 7 rfl) (bt bc_Mod_other_3 8 rfl) (bt bc_Mod_other_3 9 rfl) (n := -18) rfl) (by decide) ?_
    exact EJ_pick (lv2 := [(0, .ref _), (1, .int _), (2, .int _), (3, .int _), (4, .int _)]) [1, 2, 3, 4, 0] rfl (hk85 _ _ _ _ _ _)
def Mod_other_L85 (n : Nat) : Nat → Int32 → Int32 → Int32 → Int32 → Mm → Option (Int32 × Mm) :=
  match n with
  | 0 => fun _ _ _ _ _ _ => none
  | n + 1 => Mod_other_B85 (Mod_other_L85 n)
theorem e_Mod_other_L85 {G : Gx} : ∀ (n : Nat) (x0 : Nat) (x1 : Int32) (x2 : Int32) (x3 : Int32) (x4 : Int32) (M : Mm), EJ G Y_Mod_other cvI 2 85 [(0, .ref x0), (1, .int x1), (2, .int x2), (3, .int x3), (4, .int x4)] [] M (Mod_other_L85 n x0 x1 x2 x3 x4 M) := by
  intro n
  induction n with
  | zero => intros; exact EJ_none
  | succ n ih => intro x0 x1 x2 x3 x4 M; exact e_Mod_other_B85 _ ih x0 x1 x2 x3 x4 M
def Mod_other_J82 (x0 : Nat) (x1 : Int32) (x2 : Int32) (x3 : Int32) (M : Mm) : Option (Int32 × Mm) :=
  Mod_other_L85 fu x0 x1 x2 x3 0 M
set_option maxRecDepth 100000 in
set_option maxHeartbeats 4000000 in
theorem e_Mod_other_J82 {G : Gx} (x0 : Nat) (x1 : Int32) (x2 : Int32) (x3 : Int32) (M : Mm) : EJ G Y_Mod_other cvI 2 82 [(0, .ref x0), (1, .int x1), (2, .int x2), (3, .int x3)] [] M (Mod_other_J82 x0 x1 x2 x3 M) := by
  unfold Mod_other_J82
  refine EJ_iconst 83 (dk_3 (bt bc_Mod_other_2 18 rfl)) rfl (v := 0) kI_0 ?_
  refine EJ_istore 85 (lv2 := [(4, .int _), (0, .ref _), (1, .int _), (2, .int _), (3, .int _)]) (dk_54 (bt bc_Mod_other_2 19 rfl) (bt bc_Mod_other_2 20 rfl)) rfl (by decide) rfl ?_
  exact EJ_pick (lv2 := [(0, .ref _), (1, .int _), (2, .int _), (3, .int _), (4, .int _)]) [1, 2, 3, 4, 0] rfl (e_Mod_other_L85 fu _ _ _ _ _ _)
def Mod_other_B55 (k55 : Nat → Int32 → Int32 → Int32 → Int32 → Mm → Option (Int32 × Mm)) (x0 : Nat) (x1 : Int32) (x2 : Int32) (x3 : Int32) (x4 : Int32) (M : Mm) : Option (Int32 × Mm) :=
  if 60 ≤ x4 then (
    Mod_other_J82 x0 x1 x2 x3 M)
  else (
    ck (kO M x0 12 107) (
    nn (mR M x0 106) (fun b73 =>
    nn (mR M x0 100) (fun b74 =>
    ck (kA M b74 20 x4) (
    ck (kA M b73 20 x4) (
    let M77 := sI M b73 (ix x4) (mI M b74 (ix x4))
    let v78 : Int32 := x4 + 1
    k55 x0 x1 x2 x3 v78 M77))))))
set_option maxRecDepth 100000 in
set_option maxHeartbeats 4000000 in
theorem e_Mod_other_B55 {G : Gx} (k55 : Nat → Int32 → Int32 → Int32 → Int32 → Mm → Option (Int32 × Mm)) (hk55 : ∀ (x0 : Nat) (x1 : Int32) (x2 : Int32) (x3 : Int32) (x4 : Int32) (M : Mm), EJ G Y_Mod_other cvI 2 55 [(0, .ref x0), (1, .int x1), (2, .int x2), (3, .int x3), (4, .int x4)] [] M (k55 x0 x1 x2 x3 x4 M)) (x0 : Nat) (x1 : Int32) (x2 : Int32) (x3 : Int32) (x4 : Int32) (M : Mm) : EJ G Y_Mod_other cvI 2 55 [(0, .ref x0), (1, .int x1), (2, .int x2), (3, .int x3), (4, .int x4)] [] M (Mod_other_B55 k55 x0 x1 x2 x3 x4 M) := by
  unfold Mod_other_B55
  refine EJ_iload 57 4 (dk_21 (bt bc_Mod_other_1 23 rfl) (bt bc_Mod_other_1 24 rfl)) rfl rfl ?_
  refine EJ_bipush 59 (dk_16 (bt bc_Mod_other_1 25 rfl) (bt bc_Mod_other_1 26 rfl) (n := 60) rfl) rfl (v := 60) kB_60 ?_
  refine EJ_icmp_ge 82 62 (dk_162 (bt bc_Mod_other_1 27 rfl) (bt bc_Mod_other_1 28 rfl) (bt bc_Mod_other_1 29 rfl) (n := 23) rfl) (by decide) rfl (fun _ => ?_) (fun _ => ?_)
  · exact EJ_pick (lv2 := [(0, .ref _), (1, .int _), (2, .int _), (3, .int _)]) [0, 1, 2, 3] rfl (e_Mod_other_J82 _ _ _ _ _)
  · refine EJ_aload_n 63 0 (dk_42 (bt bc_Mod_other_1 30 rfl)) rfl rfl ?_
    refine EJ_ck (fun h72 => ?_)
    refine EJ_getR cf12 106 (by decide) 66 tw_1304 (fun _ _ _ => rfl) (dk_180 (bt bc_Mod_other_1 31 rfl) (bt bc_Mod_other_2 0 rfl) (bt bc_Mod_other_2 1 rfl) (n := 245) rfl) rfl (of_decide_eq_true h72) (fun b73 => ?_)
    refine EJ_iload 68 4 (dk_21 (bt bc_Mod_other_2 2 rfl) (bt bc_Mod_other_2 3 rfl)) rfl rfl ?_
    refine EJ_aload_n 69 0 (dk_42 (bt bc_Mod_other_2 4 rfl)) rfl rfl ?_
    refine EJ_getR cf12 100 (by decide) 72 tw_1298 (fun _ _ _ => rfl) (dk_180 (bt bc_Mod_other_2 5 rfl) (bt bc_Mod_other_2 6 rfl) (bt bc_Mod_other_2 7 rfl) (n := 227) rfl) rfl (of_decide_eq_true h72) (fun b74 => ?_)
    refine EJ_iload 74 4 (dk_21 (bt bc_Mod_other_2 8 rfl) (bt bc_Mod_other_2 9 rfl)) rfl rfl ?_
    refine EJ_ck (fun h75 => ?_)
    refine EJ_iald 75 h75 (dk_46 (bt bc_Mod_other_2 10 rfl)) rfl ?_
    refine EJ_ck (fun h76 => ?_)
    refine EJ_iast 76 h76 (dk_79 (bt bc_Mod_other_2 11 rfl)) rfl ?_
    refine EJ_iinc 79 4 (lv2 := [(4, .int _), (0, .ref _), (1, .int _), (2, .int _), (3, .int _)]) (dk_132 (bt bc_Mod_other_2 12 rfl) (bt bc_Mod_other_2 13 rfl) (bt bc_Mod_other_2 14 rfl) (n := 1) rfl) rfl (by decide) rfl (v := 1) kI_1 rfl ?_
    refine EJ_goto 55 (dk_167 (bt bc_Mod_other_2 15 rfl) (bt bc_Mod_other_2 16 rfl) (bt bc_Mod_other_2 17 rfl) (n := -24) rfl) (by decide) ?_
    exact EJ_pick (lv2 := [(0, .ref _), (1, .int _), (2, .int _), (3, .int _), (4, .int _)]) [1, 2, 3, 4, 0] rfl (hk55 _ _ _ _ _ _)
def Mod_other_L55 (n : Nat) : Nat → Int32 → Int32 → Int32 → Int32 → Mm → Option (Int32 × Mm) :=
  match n with
  | 0 => fun _ _ _ _ _ _ => none
  | n + 1 => Mod_other_B55 (Mod_other_L55 n)
theorem e_Mod_other_L55 {G : Gx} : ∀ (n : Nat) (x0 : Nat) (x1 : Int32) (x2 : Int32) (x3 : Int32) (x4 : Int32) (M : Mm), EJ G Y_Mod_other cvI 2 55 [(0, .ref x0), (1, .int x1), (2, .int x2), (3, .int x3), (4, .int x4)] [] M (Mod_other_L55 n x0 x1 x2 x3 x4 M) := by
  intro n
  induction n with
  | zero => intros; exact EJ_none
  | succ n ih => intro x0 x1 x2 x3 x4 M; exact e_Mod_other_B55 _ ih x0 x1 x2 x3 x4 M
def Mod_other (M : Mm) (a0 : Nat) (a1 : Int32) (a2 : Int32) (a3 : Int32) : Option (Int32 × Mm) :=
  if a1 < 0 then (
    some ((-1), M))
  else (
    ck (kO M a0 12 107) (
    if (mI M a0 70) ≤ a1 then (
      some ((-1), M))
    else (
      nn (mR M a0 75) (fun b2 =>
      ck (kA M b2 20 a1) (
      if (mI M b2 (ix a1)) < 0 then (
        some ((-1), M))
      else (
        bd (Mod_in M a2 0 99999) (fun r4 M5 =>
        if r4 = 0 then (
          some ((-1), M5))
        else (
          bd (Mod_in M5 a3 0 99999) (fun r6 M7 =>
          if r6 = 0 then (
            some ((-1), M7))
          else (
            ck (kO M7 a0 12 107) (
            if (mI M7 a0 73) = 0 then (
              Mod_other_J82 a0 a1 a2 a3 M7)
            else (
              Mod_other_L55 fu a0 a1 a2 a3 0 M7))))))))))))
set_option maxRecDepth 100000 in
set_option maxHeartbeats 4000000 in
theorem s_Mod_other (G : Gx) (M : Mm) (a0 : Nat) (a1 : Int32) (a2 : Int32) (a3 : Int32) : FnS G Y_Mod_other cvI 2 [.ref a0, .int a1, .int a2, .int a3] M (Mod_other M a0 a1 a2 a3) := by
  refine FnS.ofE (by decide) (Nat.le_of_ble_eq_true rfl) ?_
  show EJ G Y_Mod_other cvI 2 0 [(0, .ref a0), (1, .int a1), (2, .int a2), (3, .int a3)] [] M _
  unfold Mod_other
  refine EJ_iload_n 1 1 (dk_27 (bt bc_Mod_other_0 0 rfl)) rfl rfl ?_
  refine EJ_if_lt 43 4 (dk_155 (bt bc_Mod_other_0 1 rfl) (bt bc_Mod_other_0 2 rfl) (bt bc_Mod_other_0 3 rfl) (n := 42) rfl) (by decide) rfl (fun _ => ?_) (fun _ => ?_)
  · refine EJ_iconst 44 (dk_2 (bt bc_Mod_other_1 11 rfl)) rfl (v := (-1)) kI_m1 ?_
    exact EJ_iret rfl (dk_172 (bt bc_Mod_other_1 12 rfl))
  · refine EJ_iload_n 5 1 (dk_27 (bt bc_Mod_other_0 4 rfl)) rfl rfl ?_
    refine EJ_aload_n 6 0 (dk_42 (bt bc_Mod_other_0 5 rfl)) rfl rfl ?_
    refine EJ_ck (fun h1 => ?_)
    refine EJ_getI cf12 70 (by decide) 9 tw_1268 (fun _ _ _ => rfl) (dk_180 (bt bc_Mod_other_0 6 rfl) (bt bc_Mod_other_0 7 rfl) (bt bc_Mod_other_0 8 rfl) (n := 513) rfl) rfl (of_decide_eq_true h1) ?_
    refine EJ_icmp_ge 43 12 (dk_162 (bt bc_Mod_other_0 9 rfl) (bt bc_Mod_other_0 10 rfl) (bt bc_Mod_other_0 11 rfl) (n := 34) rfl) (by decide) rfl (fun _ => ?_) (fun _ => ?_)
    · refine EJ_iconst 44 (dk_2 (bt bc_Mod_other_1 11 rfl)) rfl (v := (-1)) kI_m1 ?_
      exact EJ_iret rfl (dk_172 (bt bc_Mod_other_1 12 rfl))
    · refine EJ_aload_n 13 0 (dk_42 (bt bc_Mod_other_0 12 rfl)) rfl rfl ?_
      refine EJ_getR cf12 75 (by decide) 16 tw_1273 (fun _ _ _ => rfl) (dk_180 (bt bc_Mod_other_0 13 rfl) (bt bc_Mod_other_0 14 rfl) (bt bc_Mod_other_0 15 rfl) (n := 152) rfl) rfl (of_decide_eq_true h1) (fun b2 => ?_)
      refine EJ_iload_n 17 1 (dk_27 (bt bc_Mod_other_0 16 rfl)) rfl rfl ?_
      refine EJ_ck (fun h3 => ?_)
      refine EJ_iald 18 h3 (dk_46 (bt bc_Mod_other_0 17 rfl)) rfl ?_
      refine EJ_if_lt 43 21 (dk_155 (bt bc_Mod_other_0 18 rfl) (bt bc_Mod_other_0 19 rfl) (bt bc_Mod_other_0 20 rfl) (n := 25) rfl) (by decide) rfl (fun _ => ?_) (fun _ => ?_)
      · refine EJ_iconst 44 (dk_2 (bt bc_Mod_other_1 11 rfl)) rfl (v := (-1)) kI_m1 ?_
        exact EJ_iret rfl (dk_172 (bt bc_Mod_other_1 12 rfl))
      · refine EJ_iload_n 22 2 (dk_28 (bt bc_Mod_other_0 21 rfl)) rfl rfl ?_
        refine EJ_iconst 23 (dk_3 (bt bc_Mod_other_0 22 rfl)) rfl (v := 0) kI_0 ?_
        refine EJ_ldcw 26 (dk_19 (bt bc_Mod_other_0 23 rfl) (bt bc_Mod_other_0 24 rfl) (bt bc_Mod_other_0 25 rfl) (n := 301) rfl) rfl tw_1603 ?_
        refine EJ_callSi (Y2 := Y_Mod_in) 29 (s_Mod_in G _ _ _ _) rfl (dk_184 (bt bc_Mod_other_0 26 rfl) (bt bc_Mod_other_0 27 rfl) (bt bc_Mod_other_0 28 rfl) (n := 252) rfl) rfl tw_1532 tw_1533 tw_8 tw_1534 hd_Mod_in rfl (by decide) (Nat.le_of_ble_eq_true rfl) (fun r4 M5 => ?_)
        refine EJ_if_eq 43 32 (dk_153 (bt bc_Mod_other_0 29 rfl) (bt bc_Mod_other_0 30 rfl) (bt bc_Mod_other_0 31 rfl) (n := 14) rfl) (by decide) rfl (fun _ => ?_) (fun _ => ?_)
        · refine EJ_iconst 44 (dk_2 (bt bc_Mod_other_1 11 rfl)) rfl (v := (-1)) kI_m1 ?_
          exact EJ_iret rfl (dk_172 (bt bc_Mod_other_1 12 rfl))
        · refine EJ_iload_n 33 3 (dk_29 (bt bc_Mod_other_1 0 rfl)) rfl rfl ?_
          refine EJ_iconst 34 (dk_3 (bt bc_Mod_other_1 1 rfl)) rfl (v := 0) kI_0 ?_
          refine EJ_ldcw 37 (dk_19 (bt bc_Mod_other_1 2 rfl) (bt bc_Mod_other_1 3 rfl) (bt bc_Mod_other_1 4 rfl) (n := 301) rfl) rfl tw_1603 ?_
          refine EJ_callSi (Y2 := Y_Mod_in) 40 (s_Mod_in G _ _ _ _) rfl (dk_184 (bt bc_Mod_other_1 5 rfl) (bt bc_Mod_other_1 6 rfl) (bt bc_Mod_other_1 7 rfl) (n := 252) rfl) rfl tw_1532 tw_1533 tw_8 tw_1534 hd_Mod_in rfl (by decide) (Nat.le_of_ble_eq_true rfl) (fun r6 M7 => ?_)
          refine EJ_if_ne 45 43 (dk_154 (bt bc_Mod_other_1 8 rfl) (bt bc_Mod_other_1 9 rfl) (bt bc_Mod_other_1 10 rfl) (n := 5) rfl) (by decide) rfl (fun _ => ?_) (fun _ => ?_)
          · refine EJ_aload_n 46 0 (dk_42 (bt bc_Mod_other_1 13 rfl)) rfl rfl ?_
            refine EJ_ck (fun h8 => ?_)
            refine EJ_getI cf12 73 (by decide) 49 tw_1271 (fun _ _ _ => rfl) (dk_180 (bt bc_Mod_other_1 14 rfl) (bt bc_Mod_other_1 15 rfl) (bt bc_Mod_other_1 16 rfl) (n := 510) rfl) rfl (of_decide_eq_true h8) ?_
            refine EJ_if_eq 82 52 (dk_153 (bt bc_Mod_other_1 17 rfl) (bt bc_Mod_other_1 18 rfl) (bt bc_Mod_other_1 19 rfl) (n := 33) rfl) (by decide) rfl (fun _ => ?_) (fun _ => ?_)
            · exact EJ_pick (lv2 := [(0, .ref _), (1, .int _), (2, .int _), (3, .int _)]) [0, 1, 2, 3] rfl (e_Mod_other_J82 _ _ _ _ _)
            · refine EJ_iconst 53 (dk_3 (bt bc_Mod_other_1 20 rfl)) rfl (v := 0) kI_0 ?_
              refine EJ_istore 55 (lv2 := [(4, .int _), (0, .ref _), (1, .int _), (2, .int _), (3, .int _)]) (dk_54 (bt bc_Mod_other_1 21 rfl) (bt bc_Mod_other_1 22 rfl)) rfl (by decide) rfl ?_
              exact EJ_pick (lv2 := [(0, .ref _), (1, .int _), (2, .int _), (3, .int _), (4, .int _)]) [1, 2, 3, 4, 0] rfl (e_Mod_other_L55 fu _ _ _ _ _ _)
          · refine EJ_iconst 44 (dk_2 (bt bc_Mod_other_1 11 rfl)) rfl (v := (-1)) kI_m1 ?_
            exact EJ_iret rfl (dk_172 (bt bc_Mod_other_1 12 rfl))
abbrev Y_Mod_least : Ym := (⟨"RiceHallModel", "least", "(I)I"⟩, prog_14_method_85_code, 5, (some FieldType.int))
theorem bc_Mod_least_0 : bts prog_14_method_85_code 0 [27, 4, 16, 10, 184, 0, 252, 153, 0, 11, 42, 180, 1, 239, 5, 162, 0, 5, 2, 172, 3, 61, 3, 62, 29, 42, 180, 1, 239, 162, 0, 59] := bts_of (by decide +kernel)
theorem bc_Mod_least_1 : bts prog_14_method_85_code 32 [29, 4, 96, 54, 4, 21, 4, 42, 180, 1, 239, 162, 0, 39, 21, 4, 29, 27, 96, 163, 0, 31, 28, 42, 180, 0, 173, 29, 46, 42, 180, 0] := bts_of (by decide +kernel)
theorem bc_Mod_least_2 : bts prog_14_method_85_code 64 [173, 21, 4, 46, 100, 184, 1, 60, 184, 1, 49, 61, 132, 4, 1, 167, 255, 214, 132, 3, 1, 167, 255, 195, 28, 172] := bts_of (by decide +kernel)
theorem hd_Mod_least : Y_Mod_least.1.cls = RX12 ∧ Y_Mod_least.1.cls ≠ "java/lang/invoke/MethodHandle" ∧ Y_Mod_least.1.cls ≠ "java/lang/invoke/VarHandle" ∧ (parseMethodDescriptor Y_Mod_least.1.desc).map (fun d => d.parameters.length) = some 1 := by decide +kernel
def Mod_least_J82 (k24 : Nat → Int32 → Int32 → Int32 → Mm → Option (Int32 × Mm)) (x0 : Nat) (x1 : Int32) (x2 : Int32) (x3 : Int32) (M : Mm) : Option (Int32 × Mm) :=
  let v7 : Int32 := x3 + 1
  k24 x0 x1 x2 v7 M
set_option maxRecDepth 100000 in
set_option maxHeartbeats 4000000 in
theorem e_Mod_least_J82 {G : Gx} (k24 : Nat → Int32 → Int32 → Int32 → Mm → Option (Int32 × Mm)) (hk24 : ∀ (x0 : Nat) (x1 : Int32) (x2 : Int32) (x3 : Int32) (M : Mm), EJ G Y_Mod_least cvI 2 24 [(0, .ref x0), (1, .int x1), (2, .int x2), (3, .int x3)] [] M (k24 x0 x1 x2 x3 M)) (x0 : Nat) (x1 : Int32) (x2 : Int32) (x3 : Int32) (M : Mm) : EJ G Y_Mod_least cvI 2 82 [(0, .ref x0), (1, .int x1), (2, .int x2), (3, .int x3)] [] M (Mod_least_J82 k24 x0 x1 x2 x3 M) := by
  unfold Mod_least_J82
  refine EJ_iinc 85 3 (lv2 := [(3, .int _), (0, .ref _), (1, .int _), (2, .int _)]) (dk_132 (bt bc_Mod_least_2 18 rfl) (bt bc_Mod_least_2 19 rfl) (bt bc_Mod_least_2 20 rfl) (n := 1) rfl) rfl (by decide) rfl (v := 1) kI_1 rfl ?_
  refine EJ_goto 24 (dk_167 (bt bc_Mod_least_2 21 rfl) (bt bc_Mod_least_2 22 rfl) (bt bc_Mod_least_2 23 rfl) (n := -61) rfl) (by decide) ?_
  exact EJ_pick (lv2 := [(0, .ref _), (1, .int _), (2, .int _), (3, .int _)]) [1, 2, 3, 0] rfl (hk24 _ _ _ _ _)
def Mod_least_B37 (k24 : Nat → Int32 → Int32 → Int32 → Mm → Option (Int32 × Mm)) (k37 : Nat → Int32 → Int32 → Int32 → Int32 → Mm → Option (Int32 × Mm)) (x0 : Nat) (x1 : Int32) (x2 : Int32) (x3 : Int32) (x4 : Int32) (M : Mm) : Option (Int32 × Mm) :=
  ck (kO M x0 12 107) (
  if (mI M x0 71) ≤ x4 then (
    Mod_least_J82 k24 x0 x1 x2 x3 M)
  else (
    if (x3 + x1) < x4 then (
      Mod_least_J82 k24 x0 x1 x2 x3 M)
    else (
      nn (mR M x0 82) (fun b8 =>
      ck (kA M b8 20 x3) (
      nn (mR M x0 82) (fun b10 =>
      ck (kA M b10 20 x4) (
      bd (Mod_abs M ((mI M b8 (ix x3)) - (mI M b10 (ix x4)))) (fun r12 M13 =>
      bd (Mod_max M13 x2 r12) (fun r14 M15 =>
      let v16 : Int32 := x4 + 1
      k37 x0 x1 r14 x3 v16 M15)))))))))
set_option maxRecDepth 100000 in
set_option maxHeartbeats 4000000 in
theorem e_Mod_least_B37 {G : Gx} (k24 : Nat → Int32 → Int32 → Int32 → Mm → Option (Int32 × Mm)) (k37 : Nat → Int32 → Int32 → Int32 → Int32 → Mm → Option (Int32 × Mm)) (hk24 : ∀ (x0 : Nat) (x1 : Int32) (x2 : Int32) (x3 : Int32) (M : Mm), EJ G Y_Mod_least cvI 2 24 [(0, .ref x0), (1, .int x1), (2, .int x2), (3, .int x3)] [] M (k24 x0 x1 x2 x3 M)) (hk37 : ∀ (x0 : Nat) (x1 : Int32) (x2 : Int32) (x3 : Int32) (x4 : Int32) (M : Mm), EJ G Y_Mod_least cvI 2 37 [(0, .ref x0), (1, .int x1), (2, .int x2), (3, .int x3), (4, .int x4)] [] M (k37 x0 x1 x2 x3 x4 M)) (x0 : Nat) (x1 : Int32) (x2 : Int32) (x3 : Int32) (x4 : Int32) (M : Mm) : EJ G Y_Mod_least cvI 2 37 [(0, .ref x0), (1, .int x1), (2, .int x2), (3, .int x3), (4, .int x4)] [] M (Mod_least_B37 k24 k37 x0 x1 x2 x3 x4 M) := by
  unfold Mod_least_B37
  refine EJ_iload 39 4 (dk_21 (bt bc_Mod_least_1 5 rfl) (bt bc_Mod_least_1 6 rfl)) rfl rfl ?_
  refine EJ_aload_n 40 0 (dk_42 (bt bc_Mod_least_1 7 rfl)) rfl rfl ?_
  refine EJ_ck (fun h6 => ?_)
  refine EJ_getI cf12 71 (by decide) 43 tw_1269 (fun _ _ _ => rfl) (dk_180 (bt bc_Mod_least_1 8 rfl) (bt bc_Mod_least_1 9 rfl) (bt bc_Mod_least_1 10 rfl) (n := 495) rfl) rfl (of_decide_eq_true h6) ?_
  refine EJ_icmp_ge 82 46 (dk_162 (bt bc_Mod_least_1 11 rfl) (bt bc_Mod_least_1 12 rfl) (bt bc_Mod_least_1 13 rfl) (n := 39) rfl) (by decide) rfl (fun _ => ?_) (fun _ => ?_)
  · exact EJ_pick (lv2 := [(0, .ref _), (1, .int _), (2, .int _), (3, .int _)]) [0, 1, 2, 3] rfl (e_Mod_least_J82 k24 hk24 _ _ _ _ _)
  · refine EJ_iload 48 4 (dk_21 (bt bc_Mod_least_1 14 rfl) (bt bc_Mod_least_1 15 rfl)) rfl rfl ?_
    refine EJ_iload_n 49 3 (dk_29 (bt bc_Mod_least_1 16 rfl)) rfl rfl ?_
    refine EJ_iload_n 50 1 (dk_27 (bt bc_Mod_least_1 17 rfl)) rfl rfl ?_
    refine EJ_iadd 51 (dk_96 (bt bc_Mod_least_1 18 rfl)) rfl ?_
    refine EJ_icmp_gt 82 54 (dk_163 (bt bc_Mod_least_1 19 rfl) (bt bc_Mod_least_1 20 rfl) (bt bc_Mod_least_1 21 rfl) (n := 31) rfl) (by decide) rfl (fun _ => ?_) (fun _ => ?_)
    · exact EJ_pick (lv2 := [(0, .ref _), (1, .int _), (2, .int _), (3, .int _)]) [0, 1, 2, 3] rfl (e_Mod_least_J82 k24 hk24 _ _ _ _ _)
    · refine EJ_iload_n 55 2 (dk_28 (bt bc_Mod_least_1 22 rfl)) rfl rfl ?_
      refine EJ_aload_n 56 0 (dk_42 (bt bc_Mod_least_1 23 rfl)) rfl rfl ?_
      refine EJ_getR cf12 82 (by decide) 59 tw_1280 (fun _ _ _ => rfl) (dk_180 (bt bc_Mod_least_1 24 rfl) (bt bc_Mod_least_1 25 rfl) (bt bc_Mod_least_1 26 rfl) (n := 173) rfl) rfl (of_decide_eq_true h6) (fun b8 => ?_)
      refine EJ_iload_n 60 3 (dk_29 (bt bc_Mod_least_1 27 rfl)) rfl rfl ?_
      refine EJ_ck (fun h9 => ?_)
      refine EJ_iald 61 h9 (dk_46 (bt bc_Mod_least_1 28 rfl)) rfl ?_
      refine EJ_aload_n 62 0 (dk_42 (bt bc_Mod_least_1 29 rfl)) rfl rfl ?_
      refine EJ_getR cf12 82 (by decide) 65 tw_1280 (fun _ _ _ => rfl) (dk_180 (bt bc_Mod_least_1 30 rfl) (bt bc_Mod_least_1 31 rfl) (bt bc_Mod_least_2 0 rfl) (n := 173) rfl) rfl (of_decide_eq_true h6) (fun b10 => ?_)
      refine EJ_iload 67 4 (dk_21 (bt bc_Mod_least_2 1 rfl) (bt bc_Mod_least_2 2 rfl)) rfl rfl ?_
      refine EJ_ck (fun h11 => ?_)
      refine EJ_iald 68 h11 (dk_46 (bt bc_Mod_least_2 3 rfl)) rfl ?_
      refine EJ_isub 69 (dk_100 (bt bc_Mod_least_2 4 rfl)) rfl ?_
      refine EJ_callSi (Y2 := Y_Mod_abs) 72 (s_Mod_abs G _ _) rfl (dk_184 (bt bc_Mod_least_2 5 rfl) (bt bc_Mod_least_2 6 rfl) (bt bc_Mod_least_2 7 rfl) (n := 316) rfl) rfl tw_1656 tw_1657 tw_8 tw_1658 hd_Mod_abs rfl (by decide) (Nat.le_of_ble_eq_true rfl) (fun r12 M13 => ?_)
      refine EJ_callSi (Y2 := Y_Mod_max) 75 (s_Mod_max G _ _ _) rfl (dk_184 (bt bc_Mod_least_2 8 rfl) (bt bc_Mod_least_2 9 rfl) (bt bc_Mod_least_2 10 rfl) (n := 305) rfl) rfl tw_1631 tw_1632 tw_8 tw_1633 hd_Mod_max rfl (by decide) (Nat.le_of_ble_eq_true rfl) (fun r14 M15 => ?_)
      refine EJ_istore_n 76 (lv2 := [(2, .int _), (0, .ref _), (1, .int _), (3, .int _), (4, .int _)]) (dk_61 (bt bc_Mod_least_2 11 rfl)) rfl (by decide) rfl ?_
      refine EJ_iinc 79 4 (lv2 := [(4, .int _), (2, .int _), (0, .ref _), (1, .int _), (3, .int _)]) (dk_132 (bt bc_Mod_least_2 12 rfl) (bt bc_Mod_least_2 13 rfl) (bt bc_Mod_least_2 14 rfl) (n := 1) rfl) rfl (by decide) rfl (v := 1) kI_1 rfl ?_
      refine EJ_goto 37 (dk_167 (bt bc_Mod_least_2 15 rfl) (bt bc_Mod_least_2 16 rfl) (bt bc_Mod_least_2 17 rfl) (n := -42) rfl) (by decide) ?_
      exact EJ_pick (lv2 := [(0, .ref _), (1, .int _), (2, .int _), (3, .int _), (4, .int _)]) [2, 3, 1, 4, 0] rfl (hk37 _ _ _ _ _ _)
def Mod_least_L37 (k24 : Nat → Int32 → Int32 → Int32 → Mm → Option (Int32 × Mm)) (n : Nat) : Nat → Int32 → Int32 → Int32 → Int32 → Mm → Option (Int32 × Mm) :=
  match n with
  | 0 => fun _ _ _ _ _ _ => none
  | n + 1 => Mod_least_B37 k24 (Mod_least_L37 k24 n)
theorem e_Mod_least_L37 {G : Gx} (k24 : Nat → Int32 → Int32 → Int32 → Mm → Option (Int32 × Mm)) (hk24 : ∀ (x0 : Nat) (x1 : Int32) (x2 : Int32) (x3 : Int32) (M : Mm), EJ G Y_Mod_least cvI 2 24 [(0, .ref x0), (1, .int x1), (2, .int x2), (3, .int x3)] [] M (k24 x0 x1 x2 x3 M)) : ∀ (n : Nat) (x0 : Nat) (x1 : Int32) (x2 : Int32) (x3 : Int32) (x4 : Int32) (M : Mm), EJ G Y_Mod_least cvI 2 37 [(0, .ref x0), (1, .int x1), (2, .int x2), (3, .int x3), (4, .int x4)] [] M (Mod_least_L37 k24 n x0 x1 x2 x3 x4 M) := by
  intro n
  induction n with
  | zero => intros; exact EJ_none
  | succ n ih => intro x0 x1 x2 x3 x4 M; exact e_Mod_least_B37 k24 _ hk24 ih x0 x1 x2 x3 x4 M
def Mod_least_B24 (k24 : Nat → Int32 → Int32 → Int32 → Mm → Option (Int32 × Mm)) (x0 : Nat) (x1 : Int32) (x2 : Int32) (x3 : Int32) (M : Mm) : Option (Int32 × Mm) :=
  ck (kO M x0 12 107) (
  if (mI M x0 71) ≤ x3 then (
    some (x2, M))
  else (
    let v5 : Int32 := x3 + 1
    Mod_least_L37 k24 fu x0 x1 x2 x3 v5 M))
set_option maxRecDepth 100000 in
set_option maxHeartbeats 4000000 in
theorem e_Mod_least_B24 {G : Gx} (k24 : Nat → Int32 → Int32 → Int32 → Mm → Option (Int32 × Mm)) (hk24 : ∀ (x0 : Nat) (x1 : Int32) (x2 : Int32) (x3 : Int32) (M : Mm), EJ G Y_Mod_least cvI 2 24 [(0, .ref x0), (1, .int x1), (2, .int x2), (3, .int x3)] [] M (k24 x0 x1 x2 x3 M)) (x0 : Nat) (x1 : Int32) (x2 : Int32) (x3 : Int32) (M : Mm) : EJ G Y_Mod_least cvI 2 24 [(0, .ref x0), (1, .int x1), (2, .int x2), (3, .int x3)] [] M (Mod_least_B24 k24 x0 x1 x2 x3 M) := by
  unfold Mod_least_B24
  refine EJ_iload_n 25 3 (dk_29 (bt bc_Mod_least_0 24 rfl)) rfl rfl ?_
  refine EJ_aload_n 26 0 (dk_42 (bt bc_Mod_least_0 25 rfl)) rfl rfl ?_
  refine EJ_ck (fun h4 => ?_)
  refine EJ_getI cf12 71 (by decide) 29 tw_1269 (fun _ _ _ => rfl) (dk_180 (bt bc_Mod_least_0 26 rfl) (bt bc_Mod_least_0 27 rfl) (bt bc_Mod_least_0 28 rfl) (n := 495) rfl) rfl (of_decide_eq_true h4) ?_
  refine EJ_icmp_ge 88 32 (dk_162 (bt bc_Mod_least_0 29 rfl) (bt bc_Mod_least_0 30 rfl) (bt bc_Mod_least_0 31 rfl) (n := 59) rfl) (by decide) rfl (fun _ => ?_) (fun _ => ?_)
  · refine EJ_iload_n 89 2 (dk_28 (bt bc_Mod_least_2 24 rfl)) rfl rfl ?_
    exact EJ_iret rfl (dk_172 (bt bc_Mod_least_2 25 rfl))
  · refine EJ_iload_n 33 3 (dk_29 (bt bc_Mod_least_1 0 rfl)) rfl rfl ?_
    refine EJ_iconst 34 (dk_4 (bt bc_Mod_least_1 1 rfl)) rfl (v := 1) kI_1 ?_
    refine EJ_iadd 35 (dk_96 (bt bc_Mod_least_1 2 rfl)) rfl ?_
    refine EJ_istore 37 (lv2 := [(4, .int _), (0, .ref _), (1, .int _), (2, .int _), (3, .int _)]) (dk_54 (bt bc_Mod_least_1 3 rfl) (bt bc_Mod_least_1 4 rfl)) rfl (by decide) rfl ?_
    exact EJ_pick (lv2 := [(0, .ref _), (1, .int _), (2, .int _), (3, .int _), (4, .int _)]) [1, 2, 3, 4, 0] rfl (e_Mod_least_L37 k24 hk24 fu _ _ _ _ _ _)
def Mod_least_L24 (n : Nat) : Nat → Int32 → Int32 → Int32 → Mm → Option (Int32 × Mm) :=
  match n with
  | 0 => fun _ _ _ _ _ => none
  | n + 1 => Mod_least_B24 (Mod_least_L24 n)
theorem e_Mod_least_L24 {G : Gx} : ∀ (n : Nat) (x0 : Nat) (x1 : Int32) (x2 : Int32) (x3 : Int32) (M : Mm), EJ G Y_Mod_least cvI 2 24 [(0, .ref x0), (1, .int x1), (2, .int x2), (3, .int x3)] [] M (Mod_least_L24 n x0 x1 x2 x3 M) := by
  intro n
  induction n with
  | zero => intros; exact EJ_none
  | succ n ih => intro x0 x1 x2 x3 M; exact e_Mod_least_B24 _ ih x0 x1 x2 x3 M
def Mod_least (M : Mm) (a0 : Nat) (a1 : Int32) : Option (Int32 × Mm) :=
  bd (Mod_in M a1 1 10) (fun r1 M2 =>
  if r1 = 0 then (
    some ((-1), M2))
  else (
    ck (kO M2 a0 12 107) (
    if 2 ≤ (mI M2 a0 71) then (
      Mod_least_L24 fu a0 a1 0 0 M2)
    else (
      some ((-1), M2)))))
set_option maxRecDepth 100000 in
set_option maxHeartbeats 4000000 in
theorem s_Mod_least (G : Gx) (M : Mm) (a0 : Nat) (a1 : Int32) : FnS G Y_Mod_least cvI 2 [.ref a0, .int a1] M (Mod_least M a0 a1) := by
  refine FnS.ofE (by decide) (Nat.le_of_ble_eq_true rfl) ?_
  show EJ G Y_Mod_least cvI 2 0 [(0, .ref a0), (1, .int a1)] [] M _
  unfold Mod_least
  refine EJ_iload_n 1 1 (dk_27 (bt bc_Mod_least_0 0 rfl)) rfl rfl ?_
  refine EJ_iconst 2 (dk_4 (bt bc_Mod_least_0 1 rfl)) rfl (v := 1) kI_1 ?_
  refine EJ_bipush 4 (dk_16 (bt bc_Mod_least_0 2 rfl) (bt bc_Mod_least_0 3 rfl) (n := 10) rfl) rfl (v := 10) kB_10 ?_
  refine EJ_callSi (Y2 := Y_Mod_in) 7 (s_Mod_in G _ _ _ _) rfl (dk_184 (bt bc_Mod_least_0 4 rfl) (bt bc_Mod_least_0 5 rfl) (bt bc_Mod_least_0 6 rfl) (n := 252) rfl) rfl tw_1532 tw_1533 tw_8 tw_1534 hd_Mod_in rfl (by decide) (Nat.le_of_ble_eq_true rfl) (fun r1 M2 => ?_)
  refine EJ_if_eq 18 10 (dk_153 (bt bc_Mod_least_0 7 rfl) (bt bc_Mod_least_0 8 rfl) (bt bc_Mod_least_0 9 rfl) (n := 11) rfl) (by decide) rfl (fun _ => ?_) (fun _ => ?_)
  · refine EJ_iconst 19 (dk_2 (bt bc_Mod_least_0 18 rfl)) rfl (v := (-1)) kI_m1 ?_
    exact EJ_iret rfl (dk_172 (bt bc_Mod_least_0 19 rfl))
  · refine EJ_aload_n 11 0 (dk_42 (bt bc_Mod_least_0 10 rfl)) rfl rfl ?_
    refine EJ_ck (fun h3 => ?_)
    refine EJ_getI cf12 71 (by decide) 14 tw_1269 (fun _ _ _ => rfl) (dk_180 (bt bc_Mod_least_0 11 rfl) (bt bc_Mod_least_0 12 rfl) (bt bc_Mod_least_0 13 rfl) (n := 495) rfl) rfl (of_decide_eq_true h3) ?_
    refine EJ_iconst 15 (dk_5 (bt bc_Mod_least_0 14 rfl)) rfl (v := 2) kI_2 ?_
    refine EJ_icmp_ge 20 18 (dk_162 (bt bc_Mod_least_0 15 rfl) (bt bc_Mod_least_0 16 rfl) (bt bc_Mod_least_0 17 rfl) (n := 5) rfl) (by decide) rfl (fun _ => ?_) (fun _ => ?_)
    · refine EJ_iconst 21 (dk_3 (bt bc_Mod_least_0 20 rfl)) rfl (v := 0) kI_0 ?_
      refine EJ_istore_n 22 (lv2 := [(2, .int _), (0, .ref _), (1, .int _)]) (dk_61 (bt bc_Mod_least_0 21 rfl)) rfl (by decide) rfl ?_
      refine EJ_iconst 23 (dk_3 (bt bc_Mod_least_0 22 rfl)) rfl (v := 0) kI_0 ?_
      refine EJ_istore_n 24 (lv2 := [(3, .int _), (2, .int _), (0, .ref _), (1, .int _)]) (dk_62 (bt bc_Mod_least_0 23 rfl)) rfl (by decide) rfl ?_
      exact EJ_pick (lv2 := [(0, .ref _), (1, .int _), (2, .int _), (3, .int _)]) [2, 3, 1, 0] rfl (e_Mod_least_L24 fu _ _ _ _ _)
    · refine EJ_iconst 19 (dk_2 (bt bc_Mod_least_0 18 rfl)) rfl (v := (-1)) kI_m1 ?_
      exact EJ_iret rfl (dk_172 (bt bc_Mod_least_0 19 rfl))
abbrev Y_Mod_judged : Ym := (⟨"RiceHallModel", "judged", "(II)I"⟩, prog_14_method_86_code, 7, (some FieldType.int))
theorem bc_Mod_judged_0 : bts prog_14_method_86_code 0 [27, 3, 19, 1, 45, 184, 0, 252, 153, 0, 13, 28, 4, 16, 10, 184, 0, 252, 154, 0, 5, 2, 172, 3, 62, 3, 54, 4, 21, 4, 42, 180] := bts_of (by decide +kernel)
theorem bc_Mod_judged_1 : bts prog_14_method_86_code 32 [1, 239, 162, 0, 75, 3, 54, 5, 21, 4, 4, 96, 54, 6, 21, 6, 42, 180, 1, 239, 162, 0, 43, 21, 6, 21, 4, 28, 96, 163, 0, 34] := bts_of (by decide +kernel)
theorem bc_Mod_judged_2 : bts prog_14_method_86_code 64 [42, 180, 0, 173, 21, 4, 46, 42, 180, 0, 173, 21, 6, 46, 100, 184, 1, 60, 27, 164, 0, 6, 4, 54, 5, 132, 6, 1, 167, 255, 210, 21] := bts_of (by decide +kernel)
theorem bc_Mod_judged_3 : bts prog_14_method_86_code 96 [5, 153, 0, 6, 132, 3, 1, 132, 4, 1, 167, 255, 178, 29, 172] := bts_of (by decide +kernel)
theorem hd_Mod_judged : Y_Mod_judged.1.cls = RX12 ∧ Y_Mod_judged.1.cls ≠ "java/lang/invoke/MethodHandle" ∧ Y_Mod_judged.1.cls ≠ "java/lang/invoke/VarHandle" ∧ (parseMethodDescriptor Y_Mod_judged.1.desc).map (fun d => d.parameters.length) = some 2 := by decide +kernel
def Mod_judged_J103 (k28 : Nat → Int32 → Int32 → Int32 → Int32 → Mm → Option (Int32 × Mm)) (x0 : Nat) (x1 : Int32) (x2 : Int32) (x3 : Int32) (x4 : Int32) (M : Mm) : Option (Int32 × Mm) :=
  let v8 : Int32 := x4 + 1
  k28 x0 x1 x2 x3 v8 M
set_option maxRecDepth 100000 in
set_option maxHeartbeats 4000000 in
theorem e_Mod_judged_J103 {G : Gx} (k28 : Nat → Int32 → Int32 → Int32 → Int32 → Mm → Option (Int32 × Mm)) (hk28 : ∀ (x0 : Nat) (x1 : Int32) (x2 : Int32) (x3 : Int32) (x4 : Int32) (M : Mm), EJ G Y_Mod_judged cvI 2 28 [(0, .ref x0), (1, .int x1), (2, .int x2), (3, .int x3), (4, .int x4)] [] M (k28 x0 x1 x2 x3 x4 M)) (x0 : Nat) (x1 : Int32) (x2 : Int32) (x3 : Int32) (x4 : Int32) (M : Mm) : EJ G Y_Mod_judged cvI 2 103 [(0, .ref x0), (1, .int x1), (2, .int x2), (3, .int x3), (4, .int x4)] [] M (Mod_judged_J103 k28 x0 x1 x2 x3 x4 M) := by
  unfold Mod_judged_J103
  refine EJ_iinc 106 4 (lv2 := [(4, .int _), (0, .ref _), (1, .int _), (2, .int _), (3, .int _)]) (dk_132 (bt bc_Mod_judged_3 7 rfl) (bt bc_Mod_judged_3 8 rfl) (bt bc_Mod_judged_3 9 rfl) (n := 1) rfl) rfl (by decide) rfl (v := 1) kI_1 rfl ?_
  refine EJ_goto 28 (dk_167 (bt bc_Mod_judged_3 10 rfl) (bt bc_Mod_judged_3 11 rfl) (bt bc_Mod_judged_3 12 rfl) (n := -78) rfl) (by decide) ?_
  exact EJ_pick (lv2 := [(0, .ref _), (1, .int _), (2, .int _), (3, .int _), (4, .int _)]) [1, 2, 3, 4, 0] rfl (hk28 _ _ _ _ _ _)
def Mod_judged_J95 (k28 : Nat → Int32 → Int32 → Int32 → Int32 → Mm → Option (Int32 × Mm)) (x0 : Nat) (x1 : Int32) (x2 : Int32) (x3 : Int32) (x4 : Int32) (x5 : Int32) (M : Mm) : Option (Int32 × Mm) :=
  if x5 = 0 then (
    Mod_judged_J103 k28 x0 x1 x2 x3 x4 M)
  else (
    let v9 : Int32 := x3 + 1
    Mod_judged_J103 k28 x0 x1 x2 v9 x4 M)
set_option maxRecDepth 100000 in
set_option maxHeartbeats 4000000 in
theorem e_Mod_judged_J95 {G : Gx} (k28 : Nat → Int32 → Int32 → Int32 → Int32 → Mm → Option (Int32 × Mm)) (hk28 : ∀ (x0 : Nat) (x1 : Int32) (x2 : Int32) (x3 : Int32) (x4 : Int32) (M : Mm), EJ G Y_Mod_judged cvI 2 28 [(0, .ref x0), (1, .int x1), (2, .int x2), (3, .int x3), (4, .int x4)] [] M (k28 x0 x1 x2 x3 x4 M)) (x0 : Nat) (x1 : Int32) (x2 : Int32) (x3 : Int32) (x4 : Int32) (x5 : Int32) (M : Mm) : EJ G Y_Mod_judged cvI 2 95 [(0, .ref x0), (1, .int x1), (2, .int x2), (3, .int x3), (4, .int x4), (5, .int x5)] [] M (Mod_judged_J95 k28 x0 x1 x2 x3 x4 x5 M) := by
  unfold Mod_judged_J95
  refine EJ_iload 97 5 (dk_21 (bt bc_Mod_judged_2 31 rfl) (bt bc_Mod_judged_3 0 rfl)) rfl rfl ?_
  refine EJ_if_eq 103 100 (dk_153 (bt bc_Mod_judged_3 1 rfl) (bt bc_Mod_judged_3 2 rfl) (bt bc_Mod_judged_3 3 rfl) (n := 6) rfl) (by decide) rfl (fun _ => ?_) (fun _ => ?_)
  · exact EJ_pick (lv2 := [(0, .ref _), (1, .int _), (2, .int _), (3, .int _), (4, .int _)]) [0, 1, 2, 3, 4] rfl (e_Mod_judged_J103 k28 hk28 _ _ _ _ _ _)
  · refine EJ_iinc 103 3 (lv2 := [(3, .int _), (0, .ref _), (1, .int _), (2, .int _), (4, .int _), (5, .int _)]) (dk_132 (bt bc_Mod_judged_3 4 rfl) (bt bc_Mod_judged_3 5 rfl) (bt bc_Mod_judged_3 6 rfl) (n := 1) rfl) rfl (by decide) rfl (v := 1) kI_1 rfl ?_
    exact EJ_pick (lv2 := [(0, .ref _), (1, .int _), (2, .int _), (3, .int _), (4, .int _)]) [1, 2, 3, 0, 4] rfl (e_Mod_judged_J103 k28 hk28 _ _ _ _ _ _)
def Mod_judged_J89 (k28 : Nat → Int32 → Int32 → Int32 → Int32 → Mm → Option (Int32 × Mm)) (k46 : Nat → Int32 → Int32 → Int32 → Int32 → Int32 → Int32 → Mm → Option (Int32 × Mm)) (x0 : Nat) (x1 : Int32) (x2 : Int32) (x3 : Int32) (x4 : Int32) (x5 : Int32) (x6 : Int32) (M : Mm) : Option (Int32 × Mm) :=
  let v16 : Int32 := x6 + 1
  k46 x0 x1 x2 x3 x4 x5 v16 M
set_option maxRecDepth 100000 in
set_option maxHeartbeats 4000000 in
theorem e_Mod_judged_J89 {G : Gx} (k28 : Nat → Int32 → Int32 → Int32 → Int32 → Mm → Option (Int32 × Mm)) (k46 : Nat → Int32 → Int32 → Int32 → Int32 → Int32 → Int32 → Mm → Option (Int32 × Mm)) (hk28 : ∀ (x0 : Nat) (x1 : Int32) (x2 : Int32) (x3 : Int32) (x4 : Int32) (M : Mm), EJ G Y_Mod_judged cvI 2 28 [(0, .ref x0), (1, .int x1), (2, .int x2), (3, .int x3), (4, .int x4)] [] M (k28 x0 x1 x2 x3 x4 M)) (hk46 : ∀ (x0 : Nat) (x1 : Int32) (x2 : Int32) (x3 : Int32) (x4 : Int32) (x5 : Int32) (x6 : Int32) (M : Mm), EJ G Y_Mod_judged cvI 2 46 [(0, .ref x0), (1, .int x1), (2, .int x2), (3, .int x3), (4, .int x4), (5, .int x5), (6, .int x6)] [] M (k46 x0 x1 x2 x3 x4 x5 x6 M)) (x0 : Nat) (x1 : Int32) (x2 : Int32) (x3 : Int32) (x4 : Int32) (x5 : Int32) (x6 : Int32) (M : Mm) : EJ G Y_Mod_judged cvI 2 89 [(0, .ref x0), (1, .int x1), (2, .int x2), (3, .int x3), (4, .int x4), (5, .int x5), (6, .int x6)] [] M (Mod_judged_J89 k28 k46 x0 x1 x2 x3 x4 x5 x6 M) := by
  unfold Mod_judged_J89
  refine EJ_iinc 92 6 (lv2 := [(6, .int _), (0, .ref _), (1, .int _), (2, .int _), (3, .int _), (4, .int _), (5, .int _)]) (dk_132 (bt bc_Mod_judged_2 25 rfl) (bt bc_Mod_judged_2 26 rfl) (bt bc_Mod_judged_2 27 rfl) (n := 1) rfl) rfl (by decide) rfl (v := 1) kI_1 rfl ?_
  refine EJ_goto 46 (dk_167 (bt bc_Mod_judged_2 28 rfl) (bt bc_Mod_judged_2 29 rfl) (bt bc_Mod_judged_2 30 rfl) (n := -46) rfl) (by decide) ?_
  exact EJ_pick (lv2 := [(0, .ref _), (1, .int _), (2, .int _), (3, .int _), (4, .int _), (5, .int _), (6, .int _)]) [1, 2, 3, 4, 5, 6, 0] rfl (hk46 _ _ _ _ _ _ _ _)
def Mod_judged_B46 (k28 : Nat → Int32 → Int32 → Int32 → Int32 → Mm → Option (Int32 × Mm)) (k46 : Nat → Int32 → Int32 → Int32 → Int32 → Int32 → Int32 → Mm → Option (Int32 × Mm)) (x0 : Nat) (x1 : Int32) (x2 : Int32) (x3 : Int32) (x4 : Int32) (x5 : Int32) (x6 : Int32) (M : Mm) : Option (Int32 × Mm) :=
  ck (kO M x0 12 107) (
  if (mI M x0 71) ≤ x6 then (
    Mod_judged_J95 k28 x0 x1 x2 x3 x4 x5 M)
  else (
    if (x4 + x2) < x6 then (
      Mod_judged_J95 k28 x0 x1 x2 x3 x4 x5 M)
    else (
      nn (mR M x0 82) (fun b10 =>
      ck (kA M b10 20 x4) (
      nn (mR M x0 82) (fun b12 =>
      ck (kA M b12 20 x6) (
      bd (Mod_abs M ((mI M b10 (ix x4)) - (mI M b12 (ix x6)))) (fun r14 M15 =>
      if r14 ≤ x1 then (
        Mod_judged_J89 k28 k46 x0 x1 x2 x3 x4 x5 x6 M15)
      else (
        Mod_judged_J89 k28 k46 x0 x1 x2 x3 x4 1 x6 M15)))))))))
set_option maxRecDepth 100000 in
set_option maxHeartbeats 4000000 in
theorem e_Mod_judged_B46 {G : Gx} (k28 : Nat → Int32 → Int32 → Int32 → Int32 → Mm → Option (Int32 × Mm)) (k46 : Nat → Int32 → Int32 → Int32 → Int32 → Int32 → Int32 → Mm → Option (Int32 × Mm)) (hk28 : ∀ (x0 : Nat) (x1 : Int32) (x2 : Int32) (x3 : Int32) (x4 : Int32) (M : Mm), EJ G Y_Mod_judged cvI 2 28 [(0, .ref x0), (1, .int x1), (2, .int x2), (3, .int x3), (4, .int x4)] [] M (k28 x0 x1 x2 x3 x4 M)) (hk46 : ∀ (x0 : Nat) (x1 : Int32) (x2 : Int32) (x3 : Int32) (x4 : Int32) (x5 : Int32) (x6 : Int32) (M : Mm), EJ G Y_Mod_judged cvI 2 46 [(0, .ref x0), (1, .int x1), (2, .int x2), (3, .int x3), (4, .int x4), (5, .int x5), (6, .int x6)] [] M (k46 x0 x1 x2 x3 x4 x5 x6 M)) (x0 : Nat) (x1 : Int32) (x2 : Int32) (x3 : Int32) (x4 : Int32) (x5 : Int32) (x6 : Int32) (M : Mm) : EJ G Y_Mod_judged cvI 2 46 [(0, .ref x0), (1, .int x1), (2, .int x2), (3, .int x3), (4, .int x4), (5, .int x5), (6, .int x6)] [] M (Mod_judged_B46 k28 k46 x0 x1 x2 x3 x4 x5 x6 M) := by
  unfold Mod_judged_B46
  refine EJ_iload 48 6 (dk_21 (bt bc_Mod_judged_1 14 rfl) (bt bc_Mod_judged_1 15 rfl)) rfl rfl ?_
  refine EJ_aload_n 49 0 (dk_42 (bt bc_Mod_judged_1 16 rfl)) rfl rfl ?_
  refine EJ_ck (fun h7 => ?_)
  refine EJ_getI cf12 71 (by decide) 52 tw_1269 (fun _ _ _ => rfl) (dk_180 (bt bc_Mod_judged_1 17 rfl) (bt bc_Mod_judged_1 18 rfl) (bt bc_Mod_judged_1 19 rfl) (n := 495) rfl) rfl (of_decide_eq_true h7) ?_
  refine EJ_icmp_ge 95 55 (dk_162 (bt bc_Mod_judged_1 20 rfl) (bt bc_Mod_judged_1 21 rfl) (bt bc_Mod_judged_1 22 rfl) (n := 43) rfl) (by decide) rfl (fun _ => ?_) (fun _ => ?_)
  · exact EJ_pick (lv2 := [(0, .ref _), (1, .int _), (2, .int _), (3, .int _), (4, .int _), (5, .int _)]) [0, 1, 2, 3, 4, 5] rfl (e_Mod_judged_J95 k28 hk28 _ _ _ _ _ _ _)
  · refine EJ_iload 57 6 (dk_21 (bt bc_Mod_judged_1 23 rfl) (bt bc_Mod_judged_1 24 rfl)) rfl rfl ?_
    refine EJ_iload 59 4 (dk_21 (bt bc_Mod_judged_1 25 rfl) (bt bc_Mod_judged_1 26 rfl)) rfl rfl ?_
    refine EJ_iload_n 60 2 (dk_28 (bt bc_Mod_judged_1 27 rfl)) rfl rfl ?_
    refine EJ_iadd 61 (dk_96 (bt bc_Mod_judged_1 28 rfl)) rfl ?_
    refine EJ_icmp_gt 95 64 (dk_163 (bt bc_Mod_judged_1 29 rfl) (bt bc_Mod_judged_1 30 rfl) (bt bc_Mod_judged_1 31 rfl) (n := 34) rfl) (by decide) rfl (fun _ => ?_) (fun _ => ?_)
    · exact EJ_pick (lv2 := [(0, .ref _), (1, .int _), (2, .int _), (3, .int _), (4, .int _), (5, .int _)]) [0, 1, 2, 3, 4, 5] rfl (e_Mod_judged_J95 k28 hk28 _ _ _ _ _ _ _)
    · refine EJ_aload_n 65 0 (dk_42 (bt bc_Mod_judged_2 0 rfl)) rfl rfl ?_
      refine EJ_getR cf12 82 (by decide) 68 tw_1280 (fun _ _ _ => rfl) (dk_180 (bt bc_Mod_judged_2 1 rfl) (bt bc_Mod_judged_2 2 rfl) (bt bc_Mod_judged_2 3 rfl) (n := 173) rfl) rfl (of_decide_eq_true h7) (fun b10 => ?_)
      refine EJ_iload 70 4 (dk_21 (bt bc_Mod_judged_2 4 rfl) (bt bc_Mod_judged_2 5 rfl)) rfl rfl ?_
      refine EJ_ck (fun h11 => ?_)
      refine EJ_iald 71 h11 (dk_46 (bt bc_Mod_judged_2 6 rfl)) rfl ?_
      refine EJ_aload_n 72 0 (dk_42 (bt bc_Mod_judged_2 7 rfl)) rfl rfl ?_
      refine EJ_getR cf12 82 (by decide) 75 tw_1280 (fun _ _ _ => rfl) (dk_180 (bt bc_Mod_judged_2 8 rfl) (bt bc_Mod_judged_2 9 rfl) (bt bc_Mod_judged_2 10 rfl) (n := 173) rfl) rfl (of_decide_eq_true h7) (fun b12 => ?_)
      refine EJ_iload 77 6 (dk_21 (bt bc_Mod_judged_2 11 rfl) (bt bc_Mod_judged_2 12 rfl)) rfl rfl ?_
      refine EJ_ck (fun h13 => ?_)
      refine EJ_iald 78 h13 (dk_46 (bt bc_Mod_judged_2 13 rfl)) rfl ?_
      refine EJ_isub 79 (dk_100 (bt bc_Mod_judged_2 14 rfl)) rfl ?_
      refine EJ_callSi (Y2 := Y_Mod_abs) 82 (s_Mod_abs G _ _) rfl (dk_184 (bt bc_Mod_judged_2 15 rfl) (bt bc_Mod_judged_2 16 rfl) (bt bc_Mod_judged_2 17 rfl) (n := 316) rfl) rfl tw_1656 tw_1657 tw_8 tw_1658 hd_Mod_abs rfl (by decide) (Nat.le_of_ble_eq_true rfl) (fun r14 M15 => ?_)
      refine EJ_iload_n 83 1 (dk_27 (bt bc_Mod_judged_2 18 rfl)) rfl rfl ?_
      refine EJ_icmp_le 89 86 (dk_164 (bt bc_Mod_judged_2 19 rfl) (bt bc_Mod_judged_2 20 rfl) (bt bc_Mod_judged_2 21 rfl) (n := 6) rfl) (by decide) rfl (fun _ => ?_) (fun _ => ?_)
      · exact EJ_pick (lv2 := [(0, .ref _), (1, .int _), (2, .int _), (3, .int _), (4, .int _), (5, .int _), (6, .int _)]) [0, 1, 2, 3, 4, 5, 6] rfl (e_Mod_judged_J89 k28 k46 hk28 hk46 _ _ _ _ _ _ _ _)
      · refine EJ_iconst 87 (dk_4 (bt bc_Mod_judged_2 22 rfl)) rfl (v := 1) kI_1 ?_
        refine EJ_istore 89 (lv2 := [(5, .int _), (0, .ref _), (1, .int _), (2, .int _), (3, .int _), (4, .int _), (6, .int _)]) (dk_54 (bt bc_Mod_judged_2 23 rfl) (bt bc_Mod_judged_2 24 rfl)) rfl (by decide) rfl ?_
        exact EJ_pick (lv2 := [(0, .ref _), (1, .int _), (2, .int _), (3, .int _), (4, .int _), (5, .int _), (6, .int _)]) [1, 2, 3, 4, 5, 0, 6] rfl (e_Mod_judged_J89 k28 k46 hk28 hk46 _ _ _ _ _ _ _ _)
def Mod_judged_L46 (k28 : Nat → Int32 → Int32 → Int32 → Int32 → Mm → Option (Int32 × Mm)) (n : Nat) : Nat → Int32 → Int32 → Int32 → Int32 → Int32 → Int32 → Mm → Option (Int32 × Mm) :=
  match n with
  | 0 => fun _ _ _ _ _ _ _ _ => none
  | n + 1 => Mod_judged_B46 k28 (Mod_judged_L46 k28 n)
theorem e_Mod_judged_L46 {G : Gx} (k28 : Nat → Int32 → Int32 → Int32 → Int32 → Mm → Option (Int32 × Mm)) (hk28 : ∀ (x0 : Nat) (x1 : Int32) (x2 : Int32) (x3 : Int32) (x4 : Int32) (M : Mm), EJ G Y_Mod_judged cvI 2 28 [(0, .ref x0), (1, .int x1), (2, .int x2), (3, .int x3), (4, .int x4)] [] M (k28 x0 x1 x2 x3 x4 M)) : ∀ (n : Nat) (x0 : Nat) (x1 : Int32) (x2 : Int32) (x3 : Int32) (x4 : Int32) (x5 : Int32) (x6 : Int32) (M : Mm), EJ G Y_Mod_judged cvI 2 46 [(0, .ref x0), (1, .int x1), (2, .int x2), (3, .int x3), (4, .int x4), (5, .int x5), (6, .int x6)] [] M (Mod_judged_L46 k28 n x0 x1 x2 x3 x4 x5 x6 M) := by
  intro n
  induction n with
  | zero => intros; exact EJ_none
  | succ n ih => intro x0 x1 x2 x3 x4 x5 x6 M; exact e_Mod_judged_B46 k28 _ hk28 ih x0 x1 x2 x3 x4 x5 x6 M
def Mod_judged_B28 (k28 : Nat → Int32 → Int32 → Int32 → Int32 → Mm → Option (Int32 × Mm)) (x0 : Nat) (x1 : Int32) (x2 : Int32) (x3 : Int32) (x4 : Int32) (M : Mm) : Option (Int32 × Mm) :=
  ck (kO M x0 12 107) (
  if (mI M x0 71) ≤ x4 then (
    some (x3, M))
  else (
    let v6 : Int32 := x4 + 1
    Mod_judged_L46 k28 fu x0 x1 x2 x3 x4 0 v6 M))
set_option maxRecDepth 100000 in
set_option maxHeartbeats 4000000 in
theorem e_Mod_judged_B28 {G : Gx} (k28 : Nat → Int32 → Int32 → Int32 → Int32 → Mm → Option (Int32 × Mm)) (hk28 : ∀ (x0 : Nat) (x1 : Int32) (x2 : Int32) (x3 : Int32) (x4 : Int32) (M : Mm), EJ G Y_Mod_judged cvI 2 28 [(0, .ref x0), (1, .int x1), (2, .int x2), (3, .int x3), (4, .int x4)] [] M (k28 x0 x1 x2 x3 x4 M)) (x0 : Nat) (x1 : Int32) (x2 : Int32) (x3 : Int32) (x4 : Int32) (M : Mm) : EJ G Y_Mod_judged cvI 2 28 [(0, .ref x0), (1, .int x1), (2, .int x2), (3, .int x3), (4, .int x4)] [] M (Mod_judged_B28 k28 x0 x1 x2 x3 x4 M) := by
  unfold Mod_judged_B28
  refine EJ_iload 30 4 (dk_21 (bt bc_Mod_judged_0 28 rfl) (bt bc_Mod_judged_0 29 rfl)) rfl rfl ?_
  refine EJ_aload_n 31 0 (dk_42 (bt bc_Mod_judged_0 30 rfl)) rfl rfl ?_
  refine EJ_ck (fun h5 => ?_)
  refine EJ_getI cf12 71 (by decide) 34 tw_1269 (fun _ _ _ => rfl) (dk_180 (bt bc_Mod_judged_0 31 rfl) (bt bc_Mod_judged_1 0 rfl) (bt bc_Mod_judged_1 1 rfl) (n := 495) rfl) rfl (of_decide_eq_true h5) ?_
  refine EJ_icmp_ge 109 37 (dk_162 (bt bc_Mod_judged_1 2 rfl) (bt bc_Mod_judged_1 3 rfl) (bt bc_Mod_judged_1 4 rfl) (n := 75) rfl) (by decide) rfl (fun _ => ?_) (fun _ => ?_)
  · refine EJ_iload_n 110 3 (dk_29 (bt bc_Mod_judged_3 13 rfl)) rfl rfl ?_
    exact EJ_iret rfl (dk_172 (bt bc_Mod_judged_3 14 rfl))
  · refine EJ_iconst 38 (dk_3 (bt bc_Mod_judged_1 5 rfl)) rfl (v := 0) kI_0 ?_
    refine EJ_istore 40 (lv2 := [(5, .int _), (0, .ref _), (1, .int _), (2, .int _), (3, .int _), (4, .int _)]) (dk_54 (bt bc_Mod_judged_1 6 rfl) (bt bc_Mod_judged_1 7 rfl)) rfl (by decide) rfl ?_
    refine EJ_iload 42 5 (dk_21 (bt bc_Mod_judged_1 8 rfl) (bt bc_Mod_judged_1 9 rfl)) rfl rfl ?_
    refine EJ_iconst 43 (dk_4 (bt bc_Mod_judged_1 10 rfl)) rfl (v := 1) kI_1 ?_
    refine EJ_iadd 44 (dk_96 (bt bc_Mod_judged_1 11 rfl)) rfl ?_
    refine EJ_istore 46 (lv2 := [(6, .int _), (5, .int _), (0, .ref _), (1, .int _), (2, .int _), (3, .int _), (4, .int _)]) (dk_54 (bt bc_Mod_judged_1 12 rfl) (bt bc_Mod_judged_1 13 rfl)) rfl (by decide) rfl ?_
    exact EJ_pick (lv2 := [(0, .ref _), (1, .int _), (2, .int _), (3, .int _), (4, .int _), (5, .int _), (6, .int _)]) [2, 3, 4, 5, 6, 1, 0] rfl (e_Mod_judged_L46 k28 hk28 fu _ _ _ _ _ _ _ _)
def Mod_judged_L28 (n : Nat) : Nat → Int32 → Int32 → Int32 → Int32 → Mm → Option (Int32 × Mm) :=
  match n with
  | 0 => fun _ _ _ _ _ _ => none
  | n + 1 => Mod_judged_B28 (Mod_judged_L28 n)
theorem e_Mod_judged_L28 {G : Gx} : ∀ (n : Nat) (x0 : Nat) (x1 : Int32) (x2 : Int32) (x3 : Int32) (x4 : Int32) (M : Mm), EJ G Y_Mod_judged cvI 2 28 [(0, .ref x0), (1, .int x1), (2, .int x2), (3, .int x3), (4, .int x4)] [] M (Mod_judged_L28 n x0 x1 x2 x3 x4 M) := by
  intro n
  induction n with
  | zero => intros; exact EJ_none
  | succ n ih => intro x0 x1 x2 x3 x4 M; exact e_Mod_judged_B28 _ ih x0 x1 x2 x3 x4 M
def Mod_judged (M : Mm) (a0 : Nat) (a1 : Int32) (a2 : Int32) : Option (Int32 × Mm) :=
  bd (Mod_in M a1 0 99999) (fun r1 M2 =>
  if r1 = 0 then (
    some ((-1), M2))
  else (
    bd (Mod_in M2 a2 1 10) (fun r3 M4 =>
    if r3 = 0 then (
      some ((-1), M4))
    else (
      Mod_judged_L28 fu a0 a1 a2 0 0 M4))))
set_option maxRecDepth 100000 in
set_option maxHeartbeats 4000000 in
theorem s_Mod_judged (G : Gx) (M : Mm) (a0 : Nat) (a1 : Int32) (a2 : Int32) : FnS G Y_Mod_judged cvI 2 [.ref a0, .int a1, .int a2] M (Mod_judged M a0 a1 a2) := by
  refine FnS.ofE (by decide) (Nat.le_of_ble_eq_true rfl) ?_
  show EJ G Y_Mod_judged cvI 2 0 [(0, .ref a0), (1, .int a1), (2, .int a2)] [] M _
  unfold Mod_judged
  refine EJ_iload_n 1 1 (dk_27 (bt bc_Mod_judged_0 0 rfl)) rfl rfl ?_
  refine EJ_iconst 2 (dk_3 (bt bc_Mod_judged_0 1 rfl)) rfl (v := 0) kI_0 ?_
  refine EJ_ldcw 5 (dk_19 (bt bc_Mod_judged_0 2 rfl) (bt bc_Mod_judged_0 3 rfl) (bt bc_Mod_judged_0 4 rfl) (n := 301) rfl) rfl tw_1603 ?_
  refine EJ_callSi (Y2 := Y_Mod_in) 8 (s_Mod_in G _ _ _ _) rfl (dk_184 (bt bc_Mod_judged_0 5 rfl) (bt bc_Mod_judged_0 6 rfl) (bt bc_Mod_judged_0 7 rfl) (n := 252) rfl) rfl tw_1532 tw_1533 tw_8 tw_1534 hd_Mod_in rfl (by decide) (Nat.le_of_ble_eq_true rfl) (fun r1 M2 => ?_)
  refine EJ_if_eq 21 11 (dk_153 (bt bc_Mod_judged_0 8 rfl) (bt bc_Mod_judged_0 9 rfl) (bt bc_Mod_judged_0 10 rfl) (n := 13) rfl) (by decide) rfl (fun _ => ?_) (fun _ => ?_)
  · refine EJ_iconst 22 (dk_2 (bt bc_Mod_judged_0 21 rfl)) rfl (v := (-1)) kI_m1 ?_
    exact EJ_iret rfl (dk_172 (bt bc_Mod_judged_0 22 rfl))
  · refine EJ_iload_n 12 2 (dk_28 (bt bc_Mod_judged_0 11 rfl)) rfl rfl ?_
    refine EJ_iconst 13 (dk_4 (bt bc_Mod_judged_0 12 rfl)) rfl (v := 1) kI_1 ?_
    refine EJ_bipush 15 (dk_16 (bt bc_Mod_judged_0 13 rfl) (bt bc_Mod_judged_0 14 rfl) (n := 10) rfl) rfl (v := 10) kB_10 ?_
    refine EJ_callSi (Y2 := Y_Mod_in) 18 (s_Mod_in G _ _ _ _) rfl (dk_184 (bt bc_Mod_judged_0 15 rfl) (bt bc_Mod_judged_0 16 rfl) (bt bc_Mod_judged_0 17 rfl) (n := 252) rfl) rfl tw_1532 tw_1533 tw_8 tw_1534 hd_Mod_in rfl (by decide) (Nat.le_of_ble_eq_true rfl) (fun r3 M4 => ?_)
    refine EJ_if_ne 23 21 (dk_154 (bt bc_Mod_judged_0 18 rfl) (bt bc_Mod_judged_0 19 rfl) (bt bc_Mod_judged_0 20 rfl) (n := 5) rfl) (by decide) rfl (fun _ => ?_) (fun _ => ?_)
    · refine EJ_iconst 24 (dk_3 (bt bc_Mod_judged_0 23 rfl)) rfl (v := 0) kI_0 ?_
      refine EJ_istore_n 25 (lv2 := [(3, .int _), (0, .ref _), (1, .int _), (2, .int _)]) (dk_62 (bt bc_Mod_judged_0 24 rfl)) rfl (by decide) rfl ?_
      refine EJ_iconst 26 (dk_3 (bt bc_Mod_judged_0 25 rfl)) rfl (v := 0) kI_0 ?_
      refine EJ_istore 28 (lv2 := [(4, .int _), (3, .int _), (0, .ref _), (1, .int _), (2, .int _)]) (dk_54 (bt bc_Mod_judged_0 26 rfl) (bt bc_Mod_judged_0 27 rfl)) rfl (by decide) rfl ?_
      exact EJ_pick (lv2 := [(0, .ref _), (1, .int _), (2, .int _), (3, .int _), (4, .int _)]) [2, 3, 4, 1, 0] rfl (e_Mod_judged_L28 fu _ _ _ _ _ _)
    · refine EJ_iconst 22 (dk_2 (bt bc_Mod_judged_0 21 rfl)) rfl (v := (-1)) kI_m1 ?_
      exact EJ_iret rfl (dk_172 (bt bc_Mod_judged_0 22 rfl))
abbrev Y_Mod_count : Ym := (⟨"RiceHallModel", "count", "(I)I"⟩, prog_14_method_87_code, 2, (some FieldType.int))
theorem bc_Mod_count_0 : bts prog_14_method_87_code 0 [27, 170, 0, 0, 0, 0, 0, 167, 0, 0, 0, 0, 0, 0, 0, 13, 0, 0, 0, 71, 0, 0, 0, 76, 0, 0, 0, 81, 0, 0, 0, 86] := bts_of (by decide +kernel)
theorem bc_Mod_count_1 : bts prog_14_method_87_code 32 [0, 0, 0, 91, 0, 0, 0, 96, 0, 0, 0, 101, 0, 0, 0, 124, 0, 0, 0, 129, 0, 0, 0, 134, 0, 0, 0, 139, 0, 0, 0, 144] := bts_of (by decide +kernel)
theorem bc_Mod_count_2 : bts prog_14_method_87_code 64 [0, 0, 0, 149, 0, 0, 0, 154, 42, 180, 1, 28, 172, 42, 180, 0, 7, 172, 42, 180, 1, 13, 172, 42, 180, 1, 16, 172, 42, 180, 2, 1] := bts_of (by decide +kernel)
theorem bc_Mod_count_3 : bts prog_14_method_87_code 96 [172, 42, 180, 1, 239, 172, 42, 180, 1, 239, 154, 0, 7, 3, 167, 0, 14, 42, 180, 0, 173, 42, 180, 1, 239, 4, 100, 46, 172, 42, 180, 1] := bts_of (by decide +kernel)
theorem bc_Mod_count_4 : bts prog_14_method_87_code 128 [236, 172, 42, 180, 2, 20, 172, 42, 180, 1, 227, 172, 42, 180, 1, 25, 172, 42, 180, 1, 35, 172, 42, 180, 1, 83, 172, 42, 180, 1, 254, 153] := bts_of (by decide +kernel)
theorem bc_Mod_count_5 : bts prog_14_method_87_code 160 [0, 7, 4, 167, 0, 4, 3, 172, 19, 1, 63, 172] := bts_of (by decide +kernel)
theorem hd_Mod_count : Y_Mod_count.1.cls = RX12 ∧ Y_Mod_count.1.cls ≠ "java/lang/invoke/MethodHandle" ∧ Y_Mod_count.1.cls ≠ "java/lang/invoke/VarHandle" ∧ (parseMethodDescriptor Y_Mod_count.1.desc).map (fun d => d.parameters.length) = some 1 := by decide +kernel
set_option maxRecDepth 100000 in
theorem ds_Mod_count_1 : decode prog_14_method_87_code 1 = .ok (.tableswitch (167) (0) (13) #[71, 76, 81, 86, 91, 96, 101, 124, 129, 134, 139, 144, 149, 154], 71) := by decide +kernel
def Mod_count (M : Mm) (a0 : Nat) (a1 : Int32) : Option (Int32 × Mm) :=
  if a1 = 0 then (
    ck (kO M a0 12 107) (
    some (mI M a0 0, M)))
  else (
  if a1 = 1 then (
    ck (kO M a0 12 107) (
    some (mI M a0 2, M)))
  else (
  if a1 = 2 then (
    ck (kO M a0 12 107) (
    some (mI M a0 9, M)))
  else (
  if a1 = 3 then (
    ck (kO M a0 12 107) (
    some (mI M a0 22, M)))
  else (
  if a1 = 4 then (
    ck (kO M a0 12 107) (
    some (mI M a0 70, M)))
  else (
  if a1 = 5 then (
    ck (kO M a0 12 107) (
    some (mI M a0 71, M)))
  else (
  if a1 = 6 then (
    ck (kO M a0 12 107) (
    if (mI M a0 71) = 0 then (
      some (0, M))
    else (
      nn (mR M a0 82) (fun b8 =>
      ck (kA M b8 20 ((mI M a0 71) - 1)) (
      some (mI M b8 (ix ((mI M a0 71) - 1)), M))))))
  else (
  if a1 = 7 then (
    ck (kO M a0 12 107) (
    some (mI M a0 1, M)))
  else (
  if a1 = 8 then (
    ck (kO M a0 12 107) (
    some (mI M a0 21, M)))
  else (
  if a1 = 9 then (
    ck (kO M a0 12 107) (
    some (mI M a0 37, M)))
  else (
  if a1 = 10 then (
    ck (kO M a0 12 107) (
    some (mI M a0 23, M)))
  else (
  if a1 = 11 then (
    ck (kO M a0 12 107) (
    some (mI M a0 24, M)))
  else (
  if a1 = 12 then (
    ck (kO M a0 12 107) (
    some (mI M a0 54, M)))
  else (
  if a1 = 13 then (
    ck (kO M a0 12 107) (
    if (mI M a0 73) = 0 then (
      some (0, M))
    else (
      some (1, M))))
  else (
  some ((-100000000), M)))))))))))))))
set_option maxRecDepth 100000 in
set_option maxHeartbeats 4000000 in
theorem s_Mod_count (G : Gx) (M : Mm) (a0 : Nat) (a1 : Int32) : FnS G Y_Mod_count cvI 1 [.ref a0, .int a1] M (Mod_count M a0 a1) := by
  refine FnS.ofE (by decide) (Nat.le_of_ble_eq_true rfl) ?_
  show EJ G Y_Mod_count cvI 1 0 [(0, .ref a0), (1, .int a1)] [] M _
  unfold Mod_count
  refine EJ_iload_n 1 1 (dk_27 (bt bc_Mod_count_0 0 rfl)) rfl rfl ?_
  refine EJ_case 0 72 ds_Mod_count_1 (by decide) rfl (by decide) (fun _ => ?_) (fun hc1_0 => ?_)
  · refine EJ_aload_n 73 0 (dk_42 (bt bc_Mod_count_2 8 rfl)) rfl rfl ?_
    refine EJ_ck (fun h1 => ?_)
    refine EJ_getI cf12 0 (by decide) 76 tw_1198 (fun _ _ _ => rfl) (dk_180 (bt bc_Mod_count_2 9 rfl) (bt bc_Mod_count_2 10 rfl) (bt bc_Mod_count_2 11 rfl) (n := 284) rfl) rfl (of_decide_eq_true h1) ?_
    exact EJ_iret rfl (dk_172 (bt bc_Mod_count_2 12 rfl))
  refine EJ_case 1 77 ds_Mod_count_1 (by decide) rfl (by decide) (fun _ => ?_) (fun hc1_1 => ?_)
  · refine EJ_aload_n 78 0 (dk_42 (bt bc_Mod_count_2 13 rfl)) rfl rfl ?_
    refine EJ_ck (fun h2 => ?_)
    refine EJ_getI cf12 2 (by decide) 81 tw_1200 (fun _ _ _ => rfl) (dk_180 (bt bc_Mod_count_2 14 rfl) (bt bc_Mod_count_2 15 rfl) (bt bc_Mod_count_2 16 rfl) (n := 7) rfl) rfl (of_decide_eq_true h2) ?_
    exact EJ_iret rfl (dk_172 (bt bc_Mod_count_2 17 rfl))
  refine EJ_case 2 82 ds_Mod_count_1 (by decide) rfl (by decide) (fun _ => ?_) (fun hc1_2 => ?_)
  · refine EJ_aload_n 83 0 (dk_42 (bt bc_Mod_count_2 18 rfl)) rfl rfl ?_
    refine EJ_ck (fun h3 => ?_)
    refine EJ_getI cf12 9 (by decide) 86 tw_1207 (fun _ _ _ => rfl) (dk_180 (bt bc_Mod_count_2 19 rfl) (bt bc_Mod_count_2 20 rfl) (bt bc_Mod_count_2 21 rfl) (n := 269) rfl) rfl (of_decide_eq_true h3) ?_
    exact EJ_iret rfl (dk_172 (bt bc_Mod_count_2 22 rfl))
  refine EJ_case 3 87 ds_Mod_count_1 (by decide) rfl (by decide) (fun _ => ?_) (fun hc1_3 => ?_)
  · refine EJ_aload_n 88 0 (dk_42 (bt bc_Mod_count_2 23 rfl)) rfl rfl ?_
    refine EJ_ck (fun h4 => ?_)
    refine EJ_getI cf12 22 (by decide) 91 tw_1220 (fun _ _ _ => rfl) (dk_180 (bt bc_Mod_count_2 24 rfl) (bt bc_Mod_count_2 25 rfl) (bt bc_Mod_count_2 26 rfl) (n := 272) rfl) rfl (of_decide_eq_true h4) ?_
    exact EJ_iret rfl (dk_172 (bt bc_Mod_count_2 27 rfl))
  refine EJ_case 4 92 ds_Mod_count_1 (by decide) rfl (by decide) (fun _ => ?_) (fun hc1_4 => ?_)
  · refine EJ_aload_n 93 0 (dk_42 (bt bc_Mod_count_2 28 rfl)) rfl rfl ?_
    refine EJ_ck (fun h5 => ?_)
    refine EJ_getI cf12 70 (by decide) 96 tw_1268 (fun _ _ _ => rfl) (dk_180 (bt bc_Mod_count_2 29 rfl) (bt bc_Mod_count_2 30 rfl) (bt bc_Mod_count_2 31 rfl) (n := 513) rfl) rfl (of_decide_eq_true h5) ?_
    exact EJ_iret rfl (dk_172 (bt bc_Mod_count_3 0 rfl))
  refine EJ_case 5 97 ds_Mod_count_1 (by decide) rfl (by decide) (fun _ => ?_) (fun hc1_5 => ?_)
  · refine EJ_aload_n 98 0 (dk_42 (bt bc_Mod_count_3 1 rfl)) rfl rfl ?_
    refine EJ_ck (fun h6 => ?_)
    refine EJ_getI cf12 71 (by decide) 101 tw_1269 (fun _ _ _ => rfl) (dk_180 (bt bc_Mod_count_3 2 rfl) (bt bc_Mod_count_3 3 rfl) (bt bc_Mod_count_3 4 rfl) (n := 495) rfl) rfl (of_decide_eq_true h6) ?_
    exact EJ_iret rfl (dk_172 (bt bc_Mod_count_3 5 rfl))
  refine EJ_case 6 102 ds_Mod_count_1 (by decide) rfl (by decide) (fun _ => ?_) (fun hc1_6 => ?_)
  · refine EJ_aload_n 103 0 (dk_42 (bt bc_Mod_count_3 6 rfl)) rfl rfl ?_
    refine EJ_ck (fun h7 => ?_)
    refine EJ_getI cf12 71 (by decide) 106 tw_1269 (fun _ _ _ => rfl) (dk_180 (bt bc_Mod_count_3 7 rfl) (bt bc_Mod_count_3 8 rfl) (bt bc_Mod_count_3 9 rfl) (n := 495) rfl) rfl (of_decide_eq_true h7) ?_
    refine EJ_if_ne 113 109 (dk_154 (bt bc_Mod_count_3 10 rfl) (bt bc_Mod_count_3 11 rfl) (bt bc_Mod_count_3 12 rfl) (n := 7) rfl) (by decide) rfl (fun _ => ?_) (fun _ => ?_)
    · refine EJ_aload_n 114 0 (dk_42 (bt bc_Mod_count_3 17 rfl)) rfl rfl ?_
      refine EJ_getR cf12 82 (by decide) 117 tw_1280 (fun _ _ _ => rfl) (dk_180 (bt bc_Mod_count_3 18 rfl) (bt bc_Mod_count_3 19 rfl) (bt bc_Mod_count_3 20 rfl) (n := 173) rfl) rfl (of_decide_eq_true h7) (fun b8 => ?_)
      refine EJ_aload_n 118 0 (dk_42 (bt bc_Mod_count_3 21 rfl)) rfl rfl ?_
      refine EJ_getI cf12 71 (by decide) 121 tw_1269 (fun _ _ _ => rfl) (dk_180 (bt bc_Mod_count_3 22 rfl) (bt bc_Mod_count_3 23 rfl) (bt bc_Mod_count_3 24 rfl) (n := 495) rfl) rfl (of_decide_eq_true h7) ?_
      refine EJ_iconst 122 (dk_4 (bt bc_Mod_count_3 25 rfl)) rfl (v := 1) kI_1 ?_
      refine EJ_isub 123 (dk_100 (bt bc_Mod_count_3 26 rfl)) rfl ?_
      refine EJ_ck (fun h9 => ?_)
      refine EJ_iald 124 h9 (dk_46 (bt bc_Mod_count_3 27 rfl)) rfl ?_
      exact EJ_iret rfl (dk_172 (bt bc_Mod_count_3 28 rfl))
    · refine EJ_iconst 110 (dk_3 (bt bc_Mod_count_3 13 rfl)) rfl (v := 0) kI_0 ?_
      refine EJ_goto 124 (dk_167 (bt bc_Mod_count_3 14 rfl) (bt bc_Mod_count_3 15 rfl) (bt bc_Mod_count_3 16 rfl) (n := 14) rfl) (by decide) ?_
      exact EJ_iret rfl (dk_172 (bt bc_Mod_count_3 28 rfl))
  refine EJ_case 7 125 ds_Mod_count_1 (by decide) rfl (by decide) (fun _ => ?_) (fun hc1_7 => ?_)
  · refine EJ_aload_n 126 0 (dk_42 (bt bc_Mod_count_3 29 rfl)) rfl rfl ?_
    refine EJ_ck (fun h10 => ?_)
    refine EJ_getI cf12 1 (by decide) 129 tw_1199 (fun _ _ _ => rfl) (dk_180 (bt bc_Mod_count_3 30 rfl) (bt bc_Mod_count_3 31 rfl) (bt bc_Mod_count_4 0 rfl) (n := 492) rfl) rfl (of_decide_eq_true h10) ?_
    exact EJ_iret rfl (dk_172 (bt bc_Mod_count_4 1 rfl))
  refine EJ_case 8 130 ds_Mod_count_1 (by decide) rfl (by decide) (fun _ => ?_) (fun hc1_8 => ?_)
  · refine EJ_aload_n 131 0 (dk_42 (bt bc_Mod_count_4 2 rfl)) rfl rfl ?_
    refine EJ_ck (fun h11 => ?_)
    refine EJ_getI cf12 21 (by decide) 134 tw_1219 (fun _ _ _ => rfl) (dk_180 (bt bc_Mod_count_4 3 rfl) (bt bc_Mod_count_4 4 rfl) (bt bc_Mod_count_4 5 rfl) (n := 532) rfl) rfl (of_decide_eq_true h11) ?_
    exact EJ_iret rfl (dk_172 (bt bc_Mod_count_4 6 rfl))
  refine EJ_case 9 135 ds_Mod_count_1 (by decide) rfl (by decide) (fun _ => ?_) (fun hc1_9 => ?_)
  · refine EJ_aload_n 136 0 (dk_42 (bt bc_Mod_count_4 7 rfl)) rfl rfl ?_
    refine EJ_ck (fun h12 => ?_)
    refine EJ_getI cf12 37 (by decide) 139 tw_1235 (fun _ _ _ => rfl) (dk_180 (bt bc_Mod_count_4 8 rfl) (bt bc_Mod_count_4 9 rfl) (bt bc_Mod_count_4 10 rfl) (n := 483) rfl) rfl (of_decide_eq_true h12) ?_
    exact EJ_iret rfl (dk_172 (bt bc_Mod_count_4 11 rfl))
  refine EJ_case 10 140 ds_Mod_count_1 (by decide) rfl (by decide) (fun _ => ?_) (fun hc1_10 => ?_)
  · refine EJ_aload_n 141 0 (dk_42 (bt bc_Mod_count_4 12 rfl)) rfl rfl ?_
    refine EJ_ck (fun h13 => ?_)
    refine EJ_getI cf12 23 (by decide) 144 tw_1221 (fun _ _ _ => rfl) (dk_180 (bt bc_Mod_count_4 13 rfl) (bt bc_Mod_count_4 14 rfl) (bt bc_Mod_count_4 15 rfl) (n := 281) rfl) rfl (of_decide_eq_true h13) ?_
    exact EJ_iret rfl (dk_172 (bt bc_Mod_count_4 16 rfl))
  refine EJ_case 11 145 ds_Mod_count_1 (by decide) rfl (by decide) (fun _ => ?_) (fun hc1_11 => ?_)
  · refine EJ_aload_n 146 0 (dk_42 (bt bc_Mod_count_4 17 rfl)) rfl rfl ?_
    refine EJ_ck (fun h14 => ?_)
    refine EJ_getI cf12 24 (by decide) 149 tw_1222 (fun _ _ _ => rfl) (dk_180 (bt bc_Mod_count_4 18 rfl) (bt bc_Mod_count_4 19 rfl) (bt bc_Mod_count_4 20 rfl) (n := 291) rfl) rfl (of_decide_eq_true h14) ?_
    exact EJ_iret rfl (dk_172 (bt bc_Mod_count_4 21 rfl))
  refine EJ_case 12 150 ds_Mod_count_1 (by decide) rfl (by decide) (fun _ => ?_) (fun hc1_12 => ?_)
  · refine EJ_aload_n 151 0 (dk_42 (bt bc_Mod_count_4 22 rfl)) rfl rfl ?_
    refine EJ_ck (fun h15 => ?_)
    refine EJ_getI cf12 54 (by decide) 154 tw_1252 (fun _ _ _ => rfl) (dk_180 (bt bc_Mod_count_4 23 rfl) (bt bc_Mod_count_4 24 rfl) (bt bc_Mod_count_4 25 rfl) (n := 339) rfl) rfl (of_decide_eq_true h15) ?_
    exact EJ_iret rfl (dk_172 (bt bc_Mod_count_4 26 rfl))
  refine EJ_case 13 155 ds_Mod_count_1 (by decide) rfl (by decide) (fun _ => ?_) (fun hc1_13 => ?_)
  · refine EJ_aload_n 156 0 (dk_42 (bt bc_Mod_count_4 27 rfl)) rfl rfl ?_
    refine EJ_ck (fun h16 => ?_)
    refine EJ_getI cf12 73 (by decide) 159 tw_1271 (fun _ _ _ => rfl) (dk_180 (bt bc_Mod_count_4 28 rfl) (bt bc_Mod_count_4 29 rfl) (bt bc_Mod_count_4 30 rfl) (n := 510) rfl) rfl (of_decide_eq_true h16) ?_
    refine EJ_if_eq 166 162 (dk_153 (bt bc_Mod_count_4 31 rfl) (bt bc_Mod_count_5 0 rfl) (bt bc_Mod_count_5 1 rfl) (n := 7) rfl) (by decide) rfl (fun _ => ?_) (fun _ => ?_)
    · refine EJ_iconst 167 (dk_3 (bt bc_Mod_count_5 6 rfl)) rfl (v := 0) kI_0 ?_
      exact EJ_iret rfl (dk_172 (bt bc_Mod_count_5 7 rfl))
    · refine EJ_iconst 163 (dk_4 (bt bc_Mod_count_5 2 rfl)) rfl (v := 1) kI_1 ?_
      refine EJ_goto 167 (dk_167 (bt bc_Mod_count_5 3 rfl) (bt bc_Mod_count_5 4 rfl) (bt bc_Mod_count_5 5 rfl) (n := 4) rfl) (by decide) ?_
      exact EJ_iret rfl (dk_172 (bt bc_Mod_count_5 7 rfl))
  refine EJ_tabOut 168 ds_Mod_count_1 (tabOut (fun k k1 k2 => by
      rcases (show k = 0 ∨ k = 1 ∨ k = 2 ∨ k = 3 ∨ k = 4 ∨ k = 5 ∨ k = 6 ∨ k = 7 ∨ k = 8 ∨ k = 9 ∨ k = 10 ∨ k = 11 ∨ k = 12 ∨ k = 13 by omega) with rfl | rfl | rfl | rfl | rfl | rfl | rfl | rfl | rfl | rfl | rfl | rfl | rfl | rfl
      · exact hc1_0
      · exact hc1_1
      · exact hc1_2
      · exact hc1_3
      · exact hc1_4
      · exact hc1_5
      · exact hc1_6
      · exact hc1_7
      · exact hc1_8
      · exact hc1_9
      · exact hc1_10
      · exact hc1_11
      · exact hc1_12
      · exact hc1_13)) (by decide) ?_
  refine EJ_ldcw 171 (dk_19 (bt bc_Mod_count_5 8 rfl) (bt bc_Mod_count_5 9 rfl) (bt bc_Mod_count_5 10 rfl) (n := 319) rfl) rfl tw_1651 ?_
  exact EJ_iret rfl (dk_172 (bt bc_Mod_count_5 11 rfl))
abbrev Y_Mod_sum : Ym := (⟨"RiceHallModel", "sum", "(I)J"⟩, prog_14_method_88_code, 5, (some FieldType.long))
theorem bc_Mod_sum_0 : bts prog_14_method_88_code 0 [27, 154, 0, 8, 42, 180, 1, 77, 173, 27, 4, 160, 0, 8, 42, 180, 1, 80, 173, 27, 5, 159, 0, 7, 20, 1, 99, 173, 42, 180, 1, 71] := bts_of (by decide +kernel)
theorem bc_Mod_sum_1 : bts prog_14_method_88_code 32 [65, 3, 54, 4, 21, 4, 42, 180, 1, 13, 162, 0, 19, 32, 42, 180, 0, 51, 21, 4, 47, 97, 65, 132, 4, 1, 167, 255, 234, 32, 173] := bts_of (by decide +kernel)
theorem hd_Mod_sum : Y_Mod_sum.1.cls = RX12 ∧ Y_Mod_sum.1.cls ≠ "java/lang/invoke/MethodHandle" ∧ Y_Mod_sum.1.cls ≠ "java/lang/invoke/VarHandle" ∧ (parseMethodDescriptor Y_Mod_sum.1.desc).map (fun d => d.parameters.length) = some 1 := by decide +kernel
def Mod_sum_B36 (k36 : Nat → Int64 → Int32 → Mm → Option (Int64 × Mm)) (x0 : Nat) (x2 : Int64) (x4 : Int32) (M : Mm) : Option (Int64 × Mm) :=
  ck (kO M x0 12 107) (
  if (mI M x0 9) ≤ x4 then (
    some (x2, M))
  else (
    nn (mR M x0 16) (fun b4 =>
    ck (kA M b4 23 x4) (
    let v6 : Int64 := x2 + (mL M b4 (ix x4))
    let v7 : Int32 := x4 + 1
    k36 x0 v6 v7 M))))
set_option maxRecDepth 100000 in
set_option maxHeartbeats 4000000 in
theorem e_Mod_sum_B36 {G : Gx} (k36 : Nat → Int64 → Int32 → Mm → Option (Int64 × Mm)) (hk36 : ∀ (x0 : Nat) (x2 : Int64) (x4 : Int32) (M : Mm), EJ G Y_Mod_sum cvL 1 36 [(0, .ref x0), (2, .long x2), (4, .int x4)] [] M (k36 x0 x2 x4 M)) (x0 : Nat) (x2 : Int64) (x4 : Int32) (M : Mm) : EJ G Y_Mod_sum cvL 1 36 [(0, .ref x0), (2, .long x2), (4, .int x4)] [] M (Mod_sum_B36 k36 x0 x2 x4 M) := by
  unfold Mod_sum_B36
  refine EJ_iload 38 2 (dk_21 (bt bc_Mod_sum_1 4 rfl) (bt bc_Mod_sum_1 5 rfl)) rfl rfl ?_
  refine EJ_aload_n 39 0 (dk_42 (bt bc_Mod_sum_1 6 rfl)) rfl rfl ?_
  refine EJ_ck (fun h3 => ?_)
  refine EJ_getI cf12 9 (by decide) 42 tw_1207 (fun _ _ _ => rfl) (dk_180 (bt bc_Mod_sum_1 7 rfl) (bt bc_Mod_sum_1 8 rfl) (bt bc_Mod_sum_1 9 rfl) (n := 269) rfl) rfl (of_decide_eq_true h3) ?_
  refine EJ_icmp_ge 61 45 (dk_162 (bt bc_Mod_sum_1 10 rfl) (bt bc_Mod_sum_1 11 rfl) (bt bc_Mod_sum_1 12 rfl) (n := 19) rfl) (by decide) rfl (fun _ => ?_) (fun _ => ?_)
  · refine EJ_lload_n 62 1 (dk_32 (bt bc_Mod_sum_1 29 rfl)) rfl rfl ?_
    exact EJ_lret rfl (dk_173 (bt bc_Mod_sum_1 30 rfl))
  · refine EJ_lload_n 46 1 (dk_32 (bt bc_Mod_sum_1 13 rfl)) rfl rfl ?_
    refine EJ_aload_n 47 0 (dk_42 (bt bc_Mod_sum_1 14 rfl)) rfl rfl ?_
    refine EJ_getR cf12 16 (by decide) 50 tw_1214 (fun _ _ _ => rfl) (dk_180 (bt bc_Mod_sum_1 15 rfl) (bt bc_Mod_sum_1 16 rfl) (bt bc_Mod_sum_1 17 rfl) (n := 51) rfl) rfl (of_decide_eq_true h3) (fun b4 => ?_)
    refine EJ_iload 52 2 (dk_21 (bt bc_Mod_sum_1 18 rfl) (bt bc_Mod_sum_1 19 rfl)) rfl rfl ?_
    refine EJ_ck (fun h5 => ?_)
    refine EJ_lald 53 h5 (dk_47 (bt bc_Mod_sum_1 20 rfl)) rfl ?_
    refine EJ_ladd 54 (dk_97 (bt bc_Mod_sum_1 21 rfl)) rfl ?_
    refine EJ_lstore_n 55 (lv2 := [(2, .long _), (0, .ref _), (4, .int _)]) (dk_65 (bt bc_Mod_sum_1 22 rfl)) rfl (by decide) rfl ?_
    refine EJ_iinc 58 2 (lv2 := [(4, .int _), (2, .long _), (0, .ref _)]) (dk_132 (bt bc_Mod_sum_1 23 rfl) (bt bc_Mod_sum_1 24 rfl) (bt bc_Mod_sum_1 25 rfl) (n := 1) rfl) rfl (by decide) rfl (v := 1) kI_1 rfl ?_
    refine EJ_goto 36 (dk_167 (bt bc_Mod_sum_1 26 rfl) (bt bc_Mod_sum_1 27 rfl) (bt bc_Mod_sum_1 28 rfl) (n := -22) rfl) (by decide) ?_
    exact EJ_pick (lv2 := [(0, .ref _), (2, .long _), (4, .int _)]) [2, 1, 0] rfl (hk36 _ _ _ _)
def Mod_sum_L36 (n : Nat) : Nat → Int64 → Int32 → Mm → Option (Int64 × Mm) :=
  match n with
  | 0 => fun _ _ _ _ => none
  | n + 1 => Mod_sum_B36 (Mod_sum_L36 n)
theorem e_Mod_sum_L36 {G : Gx} : ∀ (n : Nat) (x0 : Nat) (x2 : Int64) (x4 : Int32) (M : Mm), EJ G Y_Mod_sum cvL 1 36 [(0, .ref x0), (2, .long x2), (4, .int x4)] [] M (Mod_sum_L36 n x0 x2 x4 M) := by
  intro n
  induction n with
  | zero => intros; exact EJ_none
  | succ n ih => intro x0 x2 x4 M; exact e_Mod_sum_B36 _ ih x0 x2 x4 M
def Mod_sum (M : Mm) (a0 : Nat) (a1 : Int32) : Option (Int64 × Mm) :=
  if a1 = 0 then (
    ck (kO M a0 12 107) (
    some (mL M a0 19, M)))
  else (
    if a1 = 1 then (
      ck (kO M a0 12 107) (
      some (mL M a0 20, M)))
    else (
      if a1 = 2 then (
        ck (kO M a0 12 107) (
        let v2 : Int64 := mL M a0 18
        Mod_sum_L36 fu a0 v2 0 M))
      else (
        some ((-1), M))))
set_option maxRecDepth 100000 in
set_option maxHeartbeats 4000000 in
theorem s_Mod_sum (G : Gx) (M : Mm) (a0 : Nat) (a1 : Int32) : FnS G Y_Mod_sum cvL 1 [.ref a0, .int a1] M (Mod_sum M a0 a1) := by
  refine FnS.ofE (by decide) (Nat.le_of_ble_eq_true rfl) ?_
  show EJ G Y_Mod_sum cvL 1 0 [(0, .ref a0), (1, .int a1)] [] M _
  unfold Mod_sum
  refine EJ_iload_n 1 1 (dk_27 (bt bc_Mod_sum_0 0 rfl)) rfl rfl ?_
  refine EJ_if_ne 9 4 (dk_154 (bt bc_Mod_sum_0 1 rfl) (bt bc_Mod_sum_0 2 rfl) (bt bc_Mod_sum_0 3 rfl) (n := 8) rfl) (by decide) rfl (fun _ => ?_) (fun _ => ?_)
  · refine EJ_iload_n 10 1 (dk_27 (bt bc_Mod_sum_0 9 rfl)) rfl rfl ?_
    refine EJ_iconst 11 (dk_4 (bt bc_Mod_sum_0 10 rfl)) rfl (v := 1) kI_1 ?_
    refine EJ_icmp_ne 19 14 (dk_160 (bt bc_Mod_sum_0 11 rfl) (bt bc_Mod_sum_0 12 rfl) (bt bc_Mod_sum_0 13 rfl) (n := 8) rfl) (by decide) rfl (fun _ => ?_) (fun _ => ?_)
    · refine EJ_iload_n 20 1 (dk_27 (bt bc_Mod_sum_0 19 rfl)) rfl rfl ?_
      refine EJ_iconst 21 (dk_5 (bt bc_Mod_sum_0 20 rfl)) rfl (v := 2) kI_2 ?_
      refine EJ_icmp_eq 28 24 (dk_159 (bt bc_Mod_sum_0 21 rfl) (bt bc_Mod_sum_0 22 rfl) (bt bc_Mod_sum_0 23 rfl) (n := 7) rfl) (by decide) rfl (fun _ => ?_) (fun _ => ?_)
      · refine EJ_aload_n 29 0 (dk_42 (bt bc_Mod_sum_0 28 rfl)) rfl rfl ?_
        refine EJ_ck (fun h1 => ?_)
        refine EJ_getL cf12 18 (by decide) 32 tw_1216 (fun _ _ _ => rfl) (dk_180 (bt bc_Mod_sum_0 29 rfl) (bt bc_Mod_sum_0 30 rfl) (bt bc_Mod_sum_0 31 rfl) (n := 327) rfl) rfl (of_decide_eq_true h1) ?_
        refine EJ_lstore_n 33 (lv2 := [(2, .long _), (0, .ref _), (1, .int _)]) (dk_65 (bt bc_Mod_sum_1 0 rfl)) rfl (by decide) rfl ?_
        refine EJ_iconst 34 (dk_3 (bt bc_Mod_sum_1 1 rfl)) rfl (v := 0) kI_0 ?_
        refine EJ_istore 36 (lv2 := [(4, .int _), (2, .long _), (0, .ref _), (1, .int _)]) (dk_54 (bt bc_Mod_sum_1 2 rfl) (bt bc_Mod_sum_1 3 rfl)) rfl (by decide) rfl ?_
        exact EJ_pick (lv2 := [(0, .ref _), (2, .long _), (4, .int _)]) [2, 1, 0] rfl (e_Mod_sum_L36 fu _ _ _ _)
      · refine EJ_ldc2 27 (dk_20 (bt bc_Mod_sum_0 24 rfl) (bt bc_Mod_sum_0 25 rfl) (bt bc_Mod_sum_0 26 rfl) (n := 355) rfl) rfl tw_1690 ?_
        exact EJ_lret rfl (dk_173 (bt bc_Mod_sum_0 27 rfl))
    · refine EJ_aload_n 15 0 (dk_42 (bt bc_Mod_sum_0 14 rfl)) rfl rfl ?_
      refine EJ_ck (fun h8 => ?_)
      refine EJ_getL cf12 20 (by decide) 18 tw_1218 (fun _ _ _ => rfl) (dk_180 (bt bc_Mod_sum_0 15 rfl) (bt bc_Mod_sum_0 16 rfl) (bt bc_Mod_sum_0 17 rfl) (n := 336) rfl) rfl (of_decide_eq_true h8) ?_
      exact EJ_lret rfl (dk_173 (bt bc_Mod_sum_0 18 rfl))
  · refine EJ_aload_n 5 0 (dk_42 (bt bc_Mod_sum_0 4 rfl)) rfl rfl ?_
    refine EJ_ck (fun h9 => ?_)
    refine EJ_getL cf12 19 (by decide) 8 tw_1217 (fun _ _ _ => rfl) (dk_180 (bt bc_Mod_sum_0 5 rfl) (bt bc_Mod_sum_0 6 rfl) (bt bc_Mod_sum_0 7 rfl) (n := 333) rfl) rfl (of_decide_eq_true h9) ?_
    exact EJ_lret rfl (dk_173 (bt bc_Mod_sum_0 8 rfl))
