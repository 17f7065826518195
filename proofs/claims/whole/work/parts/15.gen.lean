abbrev Y_Ruin_failAll : Ym := (⟨"RiceHall$Ruin", "failAll", "([LRiceHall$Person;II)V"⟩, prog_9_method_3_code, 9, none)
theorem bc_Ruin_failAll_0 : bts prog_9_method_3_code 0 [3, 54, 4, 21, 4, 28, 162, 0, 98, 42, 180, 0, 18, 21, 4, 47, 42, 21, 4, 43, 28, 29, 182, 0, 56, 97, 55, 5, 43, 21, 4, 50] := bts_of (by decide +kernel)
theorem bc_Ruin_failAll_1 : bts prog_9_method_3_code 32 [28, 184, 0, 60, 55, 7, 42, 180, 0, 9, 21, 4, 46, 154, 0, 53, 22, 5, 22, 7, 148, 156, 0, 45, 22, 7, 9, 148, 158, 0, 38, 42] := bts_of (by decide +kernel)
theorem bc_Ruin_failAll_2 : bts prog_9_method_3_code 64 [180, 0, 9, 21, 4, 29, 79, 42, 180, 0, 15, 21, 4, 22, 5, 20, 0, 50, 105, 22, 7, 109, 136, 79, 42, 89, 180, 0, 22, 4, 96, 181] := bts_of (by decide +kernel)
theorem bc_Ruin_failAll_3 : bts prog_9_method_3_code 96 [0, 22, 132, 4, 1, 167, 255, 158, 177] := bts_of (by decide +kernel)
theorem hd_Ruin_failAll : Y_Ruin_failAll.1.cls = RX7 ∧ Y_Ruin_failAll.1.cls ≠ "java/lang/invoke/MethodHandle" ∧ Y_Ruin_failAll.1.cls ≠ "java/lang/invoke/VarHandle" ∧ (parseMethodDescriptor Y_Ruin_failAll.1.desc).map (fun d => d.parameters.length) = some 3 := by decide +kernel
def Ruin_failAll_J98 (k3 : Nat → Nat → Int32 → Int32 → Int32 → Mm → Option (Unit × Mm)) (x0 : Nat) (x1 : Nat) (x2 : Int32) (x3 : Int32) (x4 : Int32) (M : Mm) : Option (Unit × Mm) :=
  let v14 : Int32 := x4 + 1
  k3 x0 x1 x2 x3 v14 M
set_option maxRecDepth 100000 in
set_option maxHeartbeats 4000000 in
theorem e_Ruin_failAll_J98 {G : Gx} (k3 : Nat → Nat → Int32 → Int32 → Int32 → Mm → Option (Unit × Mm)) (hk3 : ∀ (x0 : Nat) (x1 : Nat) (x2 : Int32) (x3 : Int32) (x4 : Int32) (M : Mm), EJ G Y_Ruin_failAll cvV 3 3 [(0, .ref x0), (1, .ref x1), (2, .int x2), (3, .int x3), (4, .int x4)] [] M (k3 x0 x1 x2 x3 x4 M)) (x0 : Nat) (x1 : Nat) (x2 : Int32) (x3 : Int32) (x4 : Int32) (M : Mm) : EJ G Y_Ruin_failAll cvV 3 98 [(0, .ref x0), (1, .ref x1), (2, .int x2), (3, .int x3), (4, .int x4)] [] M (Ruin_failAll_J98 k3 x0 x1 x2 x3 x4 M) := by
  unfold Ruin_failAll_J98
  refine EJ_iinc 101 4 (lv2 := [(4, .int _), (0, .ref _), (1, .ref _), (2, .int _), (3, .int _)]) (dk_132 (bt bc_Ruin_failAll_3 2 rfl) (bt bc_Ruin_failAll_3 3 rfl) (bt bc_Ruin_failAll_3 4 rfl) (n := 1) rfl) rfl (by decide) rfl (v := 1) kI_1 rfl ?_
  refine EJ_goto 3 (dk_167 (bt bc_Ruin_failAll_3 5 rfl) (bt bc_Ruin_failAll_3 6 rfl) (bt bc_Ruin_failAll_3 7 rfl) (n := -98) rfl) (by decide) ?_
  exact EJ_pick (lv2 := [(0, .ref _), (1, .ref _), (2, .int _), (3, .int _), (4, .int _)]) [1, 2, 3, 4, 0] rfl (hk3 _ _ _ _ _ _)
def Ruin_failAll_B3 (k3 : Nat → Nat → Int32 → Int32 → Int32 → Mm → Option (Unit × Mm)) (x0 : Nat) (x1 : Nat) (x2 : Int32) (x3 : Int32) (x4 : Int32) (M : Mm) : Option (Unit × Mm) :=
  if x2 ≤ x4 then (
    some ((), M))
  else (
    ck (kO M x0 7 5) (
    nn (mR M x0 2) (fun b2 =>
    ck (kA M b2 23 x4) (
    bd (Ruin_owedTo M x0 x4 x1 x2 x3) (fun r4 M5 =>
    let v6 : Int64 := (mL M b2 (ix x4)) + r4
    ck (kA M5 x1 24 x4) (
    nn (mR M5 x1 (ix x4)) (fun b8 =>
    bd (Ruin_debtsOf M5 b8 x2) (fun r9 M10 =>
    ck (kO M10 x0 7 5) (
    nn (mR M10 x0 0) (fun b12 =>
    ck (kA M10 b12 20 x4) (
    if (mI M10 b12 (ix x4)) = 0 then (
      if r9 ≤ v6 then (
        Ruin_failAll_J98 k3 x0 x1 x2 x3 x4 M10)
      else (
        if r9 ≤ 0 then (
          Ruin_failAll_J98 k3 x0 x1 x2 x3 x4 M10)
        else (
          nn (mR M10 x0 0) (fun b15 =>
          ck (kA M10 b15 20 x4) (
          let M17 := sI M10 b15 (ix x4) x3
          nn (mR M17 x0 1) (fun b18 =>
          ck (!decide (r9 = 0)) (
          ck (kA M17 b18 20 x4) (
          let M21 := sI M17 b18 (ix x4) (Int64.toInt32 ((v6 * 100) / r9))
          let M22 := sI M21 x0 3 ((mI M21 x0 3) + 1)
          Ruin_failAll_J98 k3 x0 x1 x2 x3 x4 M22))))))))
    else (
      Ruin_failAll_J98 k3 x0 x1 x2 x3 x4 M10))))))))))))
set_option maxRecDepth 100000 in
set_option maxHeartbeats 4000000 in
theorem e_Ruin_failAll_B3 {G : Gx} (k3 : Nat → Nat → Int32 → Int32 → Int32 → Mm → Option (Unit × Mm)) (hk3 : ∀ (x0 : Nat) (x1 : Nat) (x2 : Int32) (x3 : Int32) (x4 : Int32) (M : Mm), EJ G Y_Ruin_failAll cvV 3 3 [(0, .ref x0), (1, .ref x1), (2, .int x2), (3, .int x3), (4, .int x4)] [] M (k3 x0 x1 x2 x3 x4 M)) (x0 : Nat) (x1 : Nat) (x2 : Int32) (x3 : Int32) (x4 : Int32) (M : Mm) : EJ G Y_Ruin_failAll cvV 3 3 [(0, .ref x0), (1, .ref x1), (2, .int x2), (3, .int x3), (4, .int x4)] [] M (Ruin_failAll_B3 k3 x0 x1 x2 x3 x4 M) := by
  unfold Ruin_failAll_B3
  refine EJ_iload 5 4 (dk_21 (bt bc_Ruin_failAll_0 3 rfl) (bt bc_Ruin_failAll_0 4 rfl)) rfl rfl ?_
  refine EJ_iload_n 6 2 (dk_28 (bt bc_Ruin_failAll_0 5 rfl)) rfl rfl ?_
  refine EJ_icmp_ge 104 9 (dk_162 (bt bc_Ruin_failAll_0 6 rfl) (bt bc_Ruin_failAll_0 7 rfl) (bt bc_Ruin_failAll_0 8 rfl) (n := 98) rfl) (by decide) rfl (fun _ => ?_) (fun _ => ?_)
  · exact EJ_vret rfl (dk_177 (bt bc_Ruin_failAll_3 8 rfl))
  · refine EJ_aload_n 10 0 (dk_42 (bt bc_Ruin_failAll_0 9 rfl)) rfl rfl ?_
    refine EJ_ck (fun h1 => ?_)
    refine EJ_getR cf7 2 (by decide) 13 tw_182 (fun _ _ _ => rfl) (dk_180 (bt bc_Ruin_failAll_0 10 rfl) (bt bc_Ruin_failAll_0 11 rfl) (bt bc_Ruin_failAll_0 12 rfl) (n := 18) rfl) rfl (of_decide_eq_true h1) (fun b2 => ?_)
    refine EJ_iload 15 4 (dk_21 (bt bc_Ruin_failAll_0 13 rfl) (bt bc_Ruin_failAll_0 14 rfl)) rfl rfl ?_
    refine EJ_ck (fun h3 => ?_)
    refine EJ_lald 16 h3 (dk_47 (bt bc_Ruin_failAll_0 15 rfl)) rfl ?_
    refine EJ_aload_n 17 0 (dk_42 (bt bc_Ruin_failAll_0 16 rfl)) rfl rfl ?_
    refine EJ_iload 19 4 (dk_21 (bt bc_Ruin_failAll_0 17 rfl) (bt bc_Ruin_failAll_0 18 rfl)) rfl rfl ?_
    refine EJ_aload_n 20 1 (dk_43 (bt bc_Ruin_failAll_0 19 rfl)) rfl rfl ?_
    refine EJ_iload_n 21 2 (dk_28 (bt bc_Ruin_failAll_0 20 rfl)) rfl rfl ?_
    refine EJ_iload_n 22 3 (dk_29 (bt bc_Ruin_failAll_0 21 rfl)) rfl rfl ?_
    refine EJ_callVl (Y2 := Y_Ruin_owedTo) 25 cf7 (s_Ruin_owedTo G _ _ _ _ _ _) (of_decide_eq_true h1) rfl (dk_182 (bt bc_Ruin_failAll_0 22 rfl) (bt bc_Ruin_failAll_0 23 rfl) (bt bc_Ruin_failAll_0 24 rfl) (n := 56) rfl) rfl tw_1140 tw_1142 ts_33 tw_1143 hd_Ruin_owedTo rfl (by decide) (Nat.le_of_ble_eq_true rfl) (fun r4 M5 => ?_)
    refine EJ_ladd 26 (dk_97 (bt bc_Ruin_failAll_0 25 rfl)) rfl ?_
    refine EJ_lstore 28 (lv2 := [(5, .long _), (0, .ref _), (1, .ref _), (2, .int _), (3, .int _), (4, .int _)]) (dk_55 (bt bc_Ruin_failAll_0 26 rfl) (bt bc_Ruin_failAll_0 27 rfl)) rfl (by decide) rfl ?_
    refine EJ_aload_n 29 2 (dk_43 (bt bc_Ruin_failAll_0 28 rfl)) rfl rfl ?_
    refine EJ_iload 31 5 (dk_21 (bt bc_Ruin_failAll_0 29 rfl) (bt bc_Ruin_failAll_0 30 rfl)) rfl rfl ?_
    refine EJ_ck (fun h7 => ?_)
    refine EJ_aald 4 32 (by decide) (by decide) rfl h7 (dk_50 (bt bc_Ruin_failAll_0 31 rfl)) rfl (fun b8 => ?_)
    refine EJ_iload_n 33 3 (dk_28 (bt bc_Ruin_failAll_1 0 rfl)) rfl rfl ?_
    refine EJ_callSl (Y2 := Y_Ruin_debtsOf) 36 (s_Ruin_debtsOf G _ _ _) rfl (dk_184 (bt bc_Ruin_failAll_1 1 rfl) (bt bc_Ruin_failAll_1 2 rfl) (bt bc_Ruin_failAll_1 3 rfl) (n := 60) rfl) rfl tw_1144 tw_1145 tw_7 tw_1146 hd_Ruin_debtsOf rfl (by decide) (Nat.le_of_ble_eq_true rfl) (fun r9 M10 => ?_)
    refine EJ_lstore 38 (lv2 := [(7, .long _), (5, .long _), (0, .ref _), (1, .ref _), (2, .int _), (3, .int _), (4, .int _)]) (dk_55 (bt bc_Ruin_failAll_1 4 rfl) (bt bc_Ruin_failAll_1 5 rfl)) rfl (by decide) rfl ?_
    refine EJ_aload_n 39 2 (dk_42 (bt bc_Ruin_failAll_1 6 rfl)) rfl rfl ?_
    refine EJ_ck (fun h11 => ?_)
    refine EJ_getR cf7 0 (by decide) 42 tw_178 (fun _ _ _ => rfl) (dk_180 (bt bc_Ruin_failAll_1 7 rfl) (bt bc_Ruin_failAll_1 8 rfl) (bt bc_Ruin_failAll_1 9 rfl) (n := 9) rfl) rfl (of_decide_eq_true h11) (fun b12 => ?_)
    refine EJ_iload 44 6 (dk_21 (bt bc_Ruin_failAll_1 10 rfl) (bt bc_Ruin_failAll_1 11 rfl)) rfl rfl ?_
    refine EJ_ck (fun h13 => ?_)
    refine EJ_iald 45 h13 (dk_46 (bt bc_Ruin_failAll_1 12 rfl)) rfl ?_
    refine EJ_if_ne 98 48 (dk_154 (bt bc_Ruin_failAll_1 13 rfl) (bt bc_Ruin_failAll_1 14 rfl) (bt bc_Ruin_failAll_1 15 rfl) (n := 53) rfl) (by decide) rfl (fun _ => ?_) (fun _ => ?_)
    · exact EJ_pick (lv2 := [(0, .ref _), (1, .ref _), (2, .int _), (3, .int _), (4, .int _)]) [2, 3, 4, 5, 6] rfl (e_Ruin_failAll_J98 k3 hk3 _ _ _ _ _ _)
    · refine EJ_lload 50 1 (dk_22 (bt bc_Ruin_failAll_1 16 rfl) (bt bc_Ruin_failAll_1 17 rfl)) rfl rfl ?_
      refine EJ_lload 52 0 (dk_22 (bt bc_Ruin_failAll_1 18 rfl) (bt bc_Ruin_failAll_1 19 rfl)) rfl rfl ?_
      refine EJ_lcmp_ge 98 56 (dk_148 (bt bc_Ruin_failAll_1 20 rfl)) (dk_156 (bt bc_Ruin_failAll_1 21 rfl) (bt bc_Ruin_failAll_1 22 rfl) (bt bc_Ruin_failAll_1 23 rfl) (n := 45) rfl) (by decide) rfl (fun _ => ?_) (fun _ => ?_)
      · exact EJ_pick (lv2 := [(0, .ref _), (1, .ref _), (2, .int _), (3, .int _), (4, .int _)]) [2, 3, 4, 5, 6] rfl (e_Ruin_failAll_J98 k3 hk3 _ _ _ _ _ _)
      · refine EJ_lload 58 0 (dk_22 (bt bc_Ruin_failAll_1 24 rfl) (bt bc_Ruin_failAll_1 25 rfl)) rfl rfl ?_
        refine EJ_lconst 59 (dk_9 (bt bc_Ruin_failAll_1 26 rfl)) rfl (v := 0) (by decide) ?_
        refine EJ_lcmp_le 98 63 (dk_148 (bt bc_Ruin_failAll_1 27 rfl)) (dk_158 (bt bc_Ruin_failAll_1 28 rfl) (bt bc_Ruin_failAll_1 29 rfl) (bt bc_Ruin_failAll_1 30 rfl) (n := 38) rfl) (by decide) rfl (fun _ => ?_) (fun _ => ?_)
        · exact EJ_pick (lv2 := [(0, .ref _), (1, .ref _), (2, .int _), (3, .int _), (4, .int _)]) [2, 3, 4, 5, 6] rfl (e_Ruin_failAll_J98 k3 hk3 _ _ _ _ _ _)
        · refine EJ_aload_n 64 2 (dk_42 (bt bc_Ruin_failAll_1 31 rfl)) rfl rfl ?_
          refine EJ_getR cf7 0 (by decide) 67 tw_178 (fun _ _ _ => rfl) (dk_180 (bt bc_Ruin_failAll_2 0 rfl) (bt bc_Ruin_failAll_2 1 rfl) (bt bc_Ruin_failAll_2 2 rfl) (n := 9) rfl) rfl (of_decide_eq_true h11) (fun b15 => ?_)
          refine EJ_iload 69 6 (dk_21 (bt bc_Ruin_failAll_2 3 rfl) (bt bc_Ruin_failAll_2 4 rfl)) rfl rfl ?_
          refine EJ_iload_n 70 5 (dk_29 (bt bc_Ruin_failAll_2 5 rfl)) rfl rfl ?_
          refine EJ_ck (fun h16 => ?_)
          refine EJ_iast 71 h16 (dk_79 (bt bc_Ruin_failAll_2 6 rfl)) rfl ?_
          refine EJ_aload_n 72 2 (dk_42 (bt bc_Ruin_failAll_2 7 rfl)) rfl rfl ?_
          refine EJ_getR cf7 1 (by decide) 75 tw_180 (fun _ _ _ => rfl) (dk_180 (bt bc_Ruin_failAll_2 8 rfl) (bt bc_Ruin_failAll_2 9 rfl) (bt bc_Ruin_failAll_2 10 rfl) (n := 15) rfl) rfl (kp_I (of_decide_eq_true h11)) (fun b18 => ?_)
          refine EJ_iload 77 6 (dk_21 (bt bc_Ruin_failAll_2 11 rfl) (bt bc_Ruin_failAll_2 12 rfl)) rfl rfl ?_
          refine EJ_lload 79 1 (dk_22 (bt bc_Ruin_failAll_2 13 rfl) (bt bc_Ruin_failAll_2 14 rfl)) rfl rfl ?_
          refine EJ_ldc2 82 (dk_20 (bt bc_Ruin_failAll_2 15 rfl) (bt bc_Ruin_failAll_2 16 rfl) (bt bc_Ruin_failAll_2 17 rfl) (n := 50) rfl) rfl tw_1135 ?_
          refine EJ_lmul 83 (dk_105 (bt bc_Ruin_failAll_2 18 rfl)) rfl ?_
          refine EJ_lload 85 0 (dk_22 (bt bc_Ruin_failAll_2 19 rfl) (bt bc_Ruin_failAll_2 20 rfl)) rfl rfl ?_
          refine EJ_ck (fun h19 => ?_)
          refine EJ_ldiv 86 (dk_109 (bt bc_Ruin_failAll_2 21 rfl)) rfl (by simpa using h19) ?_
          refine EJ_l2i 87 (dk_136 (bt bc_Ruin_failAll_2 22 rfl)) rfl ?_
          refine EJ_ck (fun h20 => ?_)
          refine EJ_iast 88 h20 (dk_79 (bt bc_Ruin_failAll_2 23 rfl)) rfl ?_
          refine EJ_aload_n 89 2 (dk_42 (bt bc_Ruin_failAll_2 24 rfl)) rfl rfl ?_
          refine EJ_dup 90 (dk_89 (bt bc_Ruin_failAll_2 25 rfl)) rfl rfl ?_
          refine EJ_getI cf7 3 (by decide) 93 tw_183 (fun _ _ _ => rfl) (dk_180 (bt bc_Ruin_failAll_2 26 rfl) (bt bc_Ruin_failAll_2 27 rfl) (bt bc_Ruin_failAll_2 28 rfl) (n := 22) rfl) rfl (kp_I (kp_I (of_decide_eq_true h11))) ?_
          refine EJ_iconst 94 (dk_4 (bt bc_Ruin_failAll_2 29 rfl)) rfl (v := 1) kI_1 ?_
          refine EJ_iadd 95 (dk_96 (bt bc_Ruin_failAll_2 30 rfl)) rfl ?_
          refine EJ_putI cf7 3 (by decide) 98 tw_183 rfl (Or.inl rfl) (dk_181 (bt bc_Ruin_failAll_2 31 rfl) (bt bc_Ruin_failAll_3 0 rfl) (bt bc_Ruin_failAll_3 1 rfl) (n := 22) rfl) rfl (kp_I (kp_I (of_decide_eq_true h11))) ?_
          exact EJ_pick (lv2 := [(0, .ref _), (1, .ref _), (2, .int _), (3, .int _), (4, .int _)]) [2, 3, 4, 5, 6] rfl (e_Ruin_failAll_J98 k3 hk3 _ _ _ _ _ _)
def Ruin_failAll_L3 (n : Nat) : Nat → Nat → Int32 → Int32 → Int32 → Mm → Option (Unit × Mm) :=
  match n with
  | 0 => fun _ _ _ _ _ _ => none
  | n + 1 => Ruin_failAll_B3 (Ruin_failAll_L3 n)
theorem e_Ruin_failAll_L3 {G : Gx} : ∀ (n : Nat) (x0 : Nat) (x1 : Nat) (x2 : Int32) (x3 : Int32) (x4 : Int32) (M : Mm), EJ G Y_Ruin_failAll cvV 3 3 [(0, .ref x0), (1, .ref x1), (2, .int x2), (3, .int x3), (4, .int x4)] [] M (Ruin_failAll_L3 n x0 x1 x2 x3 x4 M) := by
  intro n
  induction n with
  | zero => intros; exact EJ_none
  | succ n ih => intro x0 x1 x2 x3 x4 M; exact e_Ruin_failAll_B3 _ ih x0 x1 x2 x3 x4 M
def Ruin_failAll (M : Mm) (a0 : Nat) (a1 : Nat) (a2 : Int32) (a3 : Int32) : Option (Unit × Mm) :=
  Ruin_failAll_L3 fu a0 a1 a2 a3 0 M
set_option maxRecDepth 100000 in
set_option maxHeartbeats 4000000 in
theorem s_Ruin_failAll (G : Gx) (M : Mm) (a0 : Nat) (a1 : Nat) (a2 : Int32) (a3 : Int32) : FnS G Y_Ruin_failAll cvV 3 [.ref a0, .ref a1, .int a2, .int a3] M (Ruin_failAll M a0 a1 a2 a3) := by
  refine FnS.ofE (by decide) (Nat.le_of_ble_eq_true rfl) ?_
  show EJ G Y_Ruin_failAll cvV 3 0 [(0, .ref a0), (1, .ref a1), (2, .int a2), (3, .int a3)] [] M _
  unfold Ruin_failAll
  refine EJ_iconst 1 (dk_3 (bt bc_Ruin_failAll_0 0 rfl)) rfl (v := 0) kI_0 ?_
  refine EJ_istore 3 (lv2 := [(4, .int _), (0, .ref _), (1, .ref _), (2, .int _), (3, .int _)]) (dk_54 (bt bc_Ruin_failAll_0 1 rfl) (bt bc_Ruin_failAll_0 2 rfl)) rfl (by decide) rfl ?_
  exact EJ_pick (lv2 := [(0, .ref _), (1, .ref _), (2, .int _), (3, .int _), (4, .int _)]) [1, 2, 3, 4, 0] rfl (e_Ruin_failAll_L3 fu _ _ _ _ _ _)
abbrev Y_Ruin_reckon : Ym := (⟨"RiceHall$Ruin", "reckon", "([LRiceHall$Person;I[LRiceHall$Store;II)V"⟩, prog_9_method_2_code, 8, none)
theorem bc_Ruin_reckon_0 : bts prog_9_method_2_code 0 [42, 3, 181, 0, 22, 42, 3, 181, 0, 26, 3, 54, 6, 21, 6, 28, 162, 0, 98, 42, 180, 0, 9, 21, 6, 3, 79, 42, 180, 0, 15, 21] := bts_of (by decide +kernel)
theorem bc_Ruin_reckon_1 : bts prog_9_method_2_code 32 [6, 16, 100, 79, 42, 180, 0, 18, 21, 6, 9, 43, 21, 6, 50, 180, 0, 29, 184, 0, 35, 80, 3, 54, 7, 21, 7, 21, 4, 162, 0, 47] := bts_of (by decide +kernel)
theorem bc_Ruin_reckon_2 : bts prog_9_method_2_code 64 [42, 180, 0, 18, 21, 6, 92, 47, 43, 21, 6, 50, 180, 0, 41, 21, 7, 46, 133, 21, 5, 133, 105, 45, 21, 7, 50, 182, 0, 44, 133, 105] := bts_of (by decide +kernel)
theorem bc_Ruin_reckon_3 : bts prog_9_method_2_code 96 [20, 0, 50, 109, 97, 80, 132, 7, 1, 167, 255, 208, 132, 6, 1, 167, 255, 158, 4, 54, 6, 21, 6, 28, 163, 0, 39, 42, 180, 0, 22, 54] := bts_of (by decide +kernel)
theorem bc_Ruin_reckon_4 : bts prog_9_method_2_code 128 [7, 42, 43, 28, 21, 6, 182, 0, 52, 42, 180, 0, 22, 21, 7, 160, 0, 4, 177, 42, 21, 6, 181, 0, 26, 132, 6, 1, 167, 255, 217, 177] := bts_of (by decide +kernel)
theorem hd_Ruin_reckon : Y_Ruin_reckon.1.cls = RX7 ∧ Y_Ruin_reckon.1.cls ≠ "java/lang/invoke/MethodHandle" ∧ Y_Ruin_reckon.1.cls ≠ "java/lang/invoke/VarHandle" ∧ (parseMethodDescriptor Y_Ruin_reckon.1.desc).map (fun d => d.parameters.length) = some 5 := by decide +kernel
def Ruin_reckon_B117 (k117 : Nat → Nat → Int32 → Int32 → Mm → Option (Unit × Mm)) (x0 : Nat) (x1 : Nat) (x2 : Int32) (x6 : Int32) (M : Mm) : Option (Unit × Mm) :=
  if x2 < x6 then (
    some ((), M))
  else (
    ck (kO M x0 7 5) (
    let v5 : Int32 := mI M x0 3
    bd (Ruin_failAll M x0 x1 x2 x6) (fun _ M7 =>
    ck (kO M7 x0 7 5) (
    if (mI M7 x0 3) = v5 then (
      some ((), M7))
    else (
      let M9 := sI M7 x0 4 x6
      let v10 : Int32 := x6 + 1
      k117 x0 x1 x2 v10 M9)))))
set_option maxRecDepth 100000 in
set_option maxHeartbeats 4000000 in
theorem e_Ruin_reckon_B117 {G : Gx} (k117 : Nat → Nat → Int32 → Int32 → Mm → Option (Unit × Mm)) (hk117 : ∀ (x0 : Nat) (x1 : Nat) (x2 : Int32) (x6 : Int32) (M : Mm), EJ G Y_Ruin_reckon cvV 4 117 [(0, .ref x0), (1, .ref x1), (2, .int x2), (6, .int x6)] [] M (k117 x0 x1 x2 x6 M)) (x0 : Nat) (x1 : Nat) (x2 : Int32) (x6 : Int32) (M : Mm) : EJ G Y_Ruin_reckon cvV 4 117 [(0, .ref x0), (1, .ref x1), (2, .int x2), (6, .int x6)] [] M (Ruin_reckon_B117 k117 x0 x1 x2 x6 M) := by
  unfold Ruin_reckon_B117
  refine EJ_iload 119 3 (dk_21 (bt bc_Ruin_reckon_3 21 rfl) (bt bc_Ruin_reckon_3 22 rfl)) rfl rfl ?_
  refine EJ_iload_n 120 2 (dk_28 (bt bc_Ruin_reckon_3 23 rfl)) rfl rfl ?_
  refine EJ_icmp_gt 159 123 (dk_163 (bt bc_Ruin_reckon_3 24 rfl) (bt bc_Ruin_reckon_3 25 rfl) (bt bc_Ruin_reckon_3 26 rfl) (n := 39) rfl) (by decide) rfl (fun _ => ?_) (fun _ => ?_)
  · exact EJ_vret rfl (dk_177 (bt bc_Ruin_reckon_4 31 rfl))
  · refine EJ_aload_n 124 0 (dk_42 (bt bc_Ruin_reckon_3 27 rfl)) rfl rfl ?_
    refine EJ_ck (fun h4 => ?_)
    refine EJ_getI cf7 3 (by decide) 127 tw_183 (fun _ _ _ => rfl) (dk_180 (bt bc_Ruin_reckon_3 28 rfl) (bt bc_Ruin_reckon_3 29 rfl) (bt bc_Ruin_reckon_3 30 rfl) (n := 22) rfl) rfl (of_decide_eq_true h4) ?_
    refine EJ_istore 129 (lv2 := [(7, .int _), (0, .ref _), (1, .ref _), (2, .int _), (6, .int _)]) (dk_54 (bt bc_Ruin_reckon_3 31 rfl) (bt bc_Ruin_reckon_4 0 rfl)) rfl (by decide) rfl ?_
    refine EJ_aload_n 130 1 (dk_42 (bt bc_Ruin_reckon_4 1 rfl)) rfl rfl ?_
    refine EJ_aload_n 131 2 (dk_43 (bt bc_Ruin_reckon_4 2 rfl)) rfl rfl ?_
    refine EJ_iload_n 132 3 (dk_28 (bt bc_Ruin_reckon_4 3 rfl)) rfl rfl ?_
    refine EJ_iload 134 4 (dk_21 (bt bc_Ruin_reckon_4 4 rfl) (bt bc_Ruin_reckon_4 5 rfl)) rfl rfl ?_
    refine EJ_callVv (Y2 := Y_Ruin_failAll) 137 cf7 (s_Ruin_failAll G _ _ _ _ _) (of_decide_eq_true h4) rfl (dk_182 (bt bc_Ruin_reckon_4 6 rfl) (bt bc_Ruin_reckon_4 7 rfl) (bt bc_Ruin_reckon_4 8 rfl) (n := 52) rfl) rfl tw_1136 tw_1138 ts_32 tw_1139 hd_Ruin_failAll rfl (by decide) (Nat.le_of_ble_eq_true rfl) (fun _ M7 => ?_)
    refine EJ_aload_n 138 1 (dk_42 (bt bc_Ruin_reckon_4 9 rfl)) rfl rfl ?_
    refine EJ_ck (fun h8 => ?_)
    refine EJ_getI cf7 3 (by decide) 141 tw_183 (fun _ _ _ => rfl) (dk_180 (bt bc_Ruin_reckon_4 10 rfl) (bt bc_Ruin_reckon_4 11 rfl) (bt bc_Ruin_reckon_4 12 rfl) (n := 22) rfl) rfl (of_decide_eq_true h8) ?_
    refine EJ_iload 143 0 (dk_21 (bt bc_Ruin_reckon_4 13 rfl) (bt bc_Ruin_reckon_4 14 rfl)) rfl rfl ?_
    refine EJ_icmp_ne 147 146 (dk_160 (bt bc_Ruin_reckon_4 15 rfl) (bt bc_Ruin_reckon_4 16 rfl) (bt bc_Ruin_reckon_4 17 rfl) (n := 4) rfl) (by decide) rfl (fun _ => ?_) (fun _ => ?_)
    · refine EJ_aload_n 148 1 (dk_42 (bt bc_Ruin_reckon_4 19 rfl)) rfl rfl ?_
      refine EJ_iload 150 4 (dk_21 (bt bc_Ruin_reckon_4 20 rfl) (bt bc_Ruin_reckon_4 21 rfl)) rfl rfl ?_
      refine EJ_putI cf7 4 (by decide) 153 tw_185 rfl (Or.inl rfl) (dk_181 (bt bc_Ruin_reckon_4 22 rfl) (bt bc_Ruin_reckon_4 23 rfl) (bt bc_Ruin_reckon_4 24 rfl) (n := 26) rfl) rfl (of_decide_eq_true h8) ?_
      refine EJ_iinc 156 4 (lv2 := [(6, .int _), (7, .int _), (0, .ref _), (1, .ref _), (2, .int _)]) (dk_132 (bt bc_Ruin_reckon_4 25 rfl) (bt bc_Ruin_reckon_4 26 rfl) (bt bc_Ruin_reckon_4 27 rfl) (n := 1) rfl) rfl (by decide) rfl (v := 1) kI_1 rfl ?_
      refine EJ_goto 117 (dk_167 (bt bc_Ruin_reckon_4 28 rfl) (bt bc_Ruin_reckon_4 29 rfl) (bt bc_Ruin_reckon_4 30 rfl) (n := -39) rfl) (by decide) ?_
      exact EJ_pick (lv2 := [(0, .ref _), (1, .ref _), (2, .int _), (6, .int _)]) [2, 3, 4, 0] rfl (hk117 _ _ _ _ _)
    · exact EJ_vret rfl (dk_177 (bt bc_Ruin_reckon_4 18 rfl))
def Ruin_reckon_L117 (n : Nat) : Nat → Nat → Int32 → Int32 → Mm → Option (Unit × Mm) :=
  match n with
  | 0 => fun _ _ _ _ _ => none
  | n + 1 => Ruin_reckon_B117 (Ruin_reckon_L117 n)
theorem e_Ruin_reckon_L117 {G : Gx} : ∀ (n : Nat) (x0 : Nat) (x1 : Nat) (x2 : Int32) (x6 : Int32) (M : Mm), EJ G Y_Ruin_reckon cvV 4 117 [(0, .ref x0), (1, .ref x1), (2, .int x2), (6, .int x6)] [] M (Ruin_reckon_L117 n x0 x1 x2 x6 M) := by
  intro n
  induction n with
  | zero => intros; exact EJ_none
  | succ n ih => intro x0 x1 x2 x6 M; exact e_Ruin_reckon_B117 _ ih x0 x1 x2 x6 M
def Ruin_reckon_B57 (k13 : Nat → Nat → Int32 → Nat → Int32 → Int32 → Int32 → Mm → Option (Unit × Mm)) (k57 : Nat → Nat → Int32 → Nat → Int32 → Int32 → Int32 → Int32 → Mm → Option (Unit × Mm)) (x0 : Nat) (x1 : Nat) (x2 : Int32) (x3 : Nat) (x4 : Int32) (x5 : Int32) (x6 : Int32) (x7 : Int32) (M : Mm) : Option (Unit × Mm) :=
  if x4 ≤ x7 then (
    let v26 : Int32 := x6 + 1
    k13 x0 x1 x2 x3 x4 x5 v26 M)
  else (
    ck (kO M x0 7 5) (
    nn (mR M x0 2) (fun b28 =>
    ck (kA M b28 23 x6) (
    ck (kA M x1 24 x6) (
    nn (mR M x1 (ix x6)) (fun b31 =>
    ck (kO M b31 6 9) (
    nn (mR M b31 1) (fun b33 =>
    ck (kA M b33 20 x7) (
    ck (kA M x3 25 x7) (
    nn (mR M x3 (ix x7)) (fun b36 =>
    ck (kO M b36 10 14) (
    bd (Store_share M b36) (fun r38 M39 =>
    ck (kA M39 b28 23 x6) (
    let M41 := sL M39 b28 (ix x6) ((mL M b28 (ix x6)) + ((((Int32.toInt64 (mI M b33 (ix x7))) * (Int32.toInt64 x5)) * (Int32.toInt64 r38)) / 100))
    let v42 : Int32 := x7 + 1
    k57 x0 x1 x2 x3 x4 x5 x6 v42 M41))))))))))))))
set_option maxRecDepth 100000 in
set_option maxHeartbeats 4000000 in
theorem e_Ruin_reckon_B57 {G : Gx} (k13 : Nat → Nat → Int32 → Nat → Int32 → Int32 → Int32 → Mm → Option (Unit × Mm)) (k57 : Nat → Nat → Int32 → Nat → Int32 → Int32 → Int32 → Int32 → Mm → Option (Unit × Mm)) (hk13 : ∀ (x0 : Nat) (x1 : Nat) (x2 : Int32) (x3 : Nat) (x4 : Int32) (x5 : Int32) (x6 : Int32) (M : Mm), EJ G Y_Ruin_reckon cvV 4 13 [(0, .ref x0), (1, .ref x1), (2, .int x2), (3, .ref x3), (4, .int x4), (5, .int x5), (6, .int x6)] [] M (k13 x0 x1 x2 x3 x4 x5 x6 M)) (hk57 : ∀ (x0 : Nat) (x1 : Nat) (x2 : Int32) (x3 : Nat) (x4 : Int32) (x5 : Int32) (x6 : Int32) (x7 : Int32) (M : Mm), EJ G Y_Ruin_reckon cvV 4 57 [(0, .ref x0), (1, .ref x1), (2, .int x2), (3, .ref x3), (4, .int x4), (5, .int x5), (6, .int x6), (7, .int x7)] [] M (k57 x0 x1 x2 x3 x4 x5 x6 x7 M)) (x0 : Nat) (x1 : Nat) (x2 : Int32) (x3 : Nat) (x4 : Int32) (x5 : Int32) (x6 : Int32) (x7 : Int32) (M : Mm) : EJ G Y_Ruin_reckon cvV 4 57 [(0, .ref x0), (1, .ref x1), (2, .int x2), (3, .ref x3), (4, .int x4), (5, .int x5), (6, .int x6), (7, .int x7)] [] M (Ruin_reckon_B57 k13 k57 x0 x1 x2 x3 x4 x5 x6 x7 M) := by
  unfold Ruin_reckon_B57
  refine EJ_iload 59 7 (dk_21 (bt bc_Ruin_reckon_1 25 rfl) (bt bc_Ruin_reckon_1 26 rfl)) rfl rfl ?_
  refine EJ_iload 61 4 (dk_21 (bt bc_Ruin_reckon_1 27 rfl) (bt bc_Ruin_reckon_1 28 rfl)) rfl rfl ?_
  refine EJ_icmp_ge 108 64 (dk_162 (bt bc_Ruin_reckon_1 29 rfl) (bt bc_Ruin_reckon_1 30 rfl) (bt bc_Ruin_reckon_1 31 rfl) (n := 47) rfl) (by decide) rfl (fun _ => ?_) (fun _ => ?_)
  · refine EJ_iinc 111 6 (lv2 := [(6, .int _), (0, .ref _), (1, .ref _), (2, .int _), (3, .ref _), (4, .int _), (5, .int _), (7, .int _)]) (dk_132 (bt bc_Ruin_reckon_3 12 rfl) (bt bc_Ruin_reckon_3 13 rfl) (bt bc_Ruin_reckon_3 14 rfl) (n := 1) rfl) rfl (by decide) rfl (v := 1) kI_1 rfl ?_
    refine EJ_goto 13 (dk_167 (bt bc_Ruin_reckon_3 15 rfl) (bt bc_Ruin_reckon_3 16 rfl) (bt bc_Ruin_reckon_3 17 rfl) (n := -98) rfl) (by decide) ?_
    exact EJ_pick (lv2 := [(0, .ref _), (1, .ref _), (2, .int _), (3, .ref _), (4, .int _), (5, .int _), (6, .int _)]) [1, 2, 3, 4, 5, 6, 0] rfl (hk13 _ _ _ _ _ _ _ _)
  · refine EJ_aload_n 65 0 (dk_42 (bt bc_Ruin_reckon_2 0 rfl)) rfl rfl ?_
    refine EJ_ck (fun h27 => ?_)
    refine EJ_getR cf7 2 (by decide) 68 tw_182 (fun _ _ _ => rfl) (dk_180 (bt bc_Ruin_reckon_2 1 rfl) (bt bc_Ruin_reckon_2 2 rfl) (bt bc_Ruin_reckon_2 3 rfl) (n := 18) rfl) rfl (of_decide_eq_true h27) (fun b28 => ?_)
    refine EJ_iload 70 6 (dk_21 (bt bc_Ruin_reckon_2 4 rfl) (bt bc_Ruin_reckon_2 5 rfl)) rfl rfl ?_
    refine EJ_dup2 71 (dk_92 (bt bc_Ruin_reckon_2 6 rfl)) rfl rfl rfl ?_
    refine EJ_ck (fun h29 => ?_)
    refine EJ_lald 72 h29 (dk_47 (bt bc_Ruin_reckon_2 7 rfl)) rfl ?_
    refine EJ_aload_n 73 1 (dk_43 (bt bc_Ruin_reckon_2 8 rfl)) rfl rfl ?_
    refine EJ_iload 75 6 (dk_21 (bt bc_Ruin_reckon_2 9 rfl) (bt bc_Ruin_reckon_2 10 rfl)) rfl rfl ?_
    refine EJ_ck (fun h30 => ?_)
    refine EJ_aald 4 76 (by decide) (by decide) rfl h30 (dk_50 (bt bc_Ruin_reckon_2 11 rfl)) rfl (fun b31 => ?_)
    refine EJ_ck (fun h32 => ?_)
    refine EJ_getR cf6 1 (by decide) 79 tw_340 (fun _ _ _ => rfl) (dk_180 (bt bc_Ruin_reckon_2 12 rfl) (bt bc_Ruin_reckon_2 13 rfl) (bt bc_Ruin_reckon_2 14 rfl) (n := 41) rfl) rfl (of_decide_eq_true h32) (fun b33 => ?_)
    refine EJ_iload 81 7 (dk_21 (bt bc_Ruin_reckon_2 15 rfl) (bt bc_Ruin_reckon_2 16 rfl)) rfl rfl ?_
    refine EJ_ck (fun h34 => ?_)
    refine EJ_iald 82 h34 (dk_46 (bt bc_Ruin_reckon_2 17 rfl)) rfl ?_
    refine EJ_i2l 83 (dk_133 (bt bc_Ruin_reckon_2 18 rfl)) rfl ?_
    refine EJ_iload 85 5 (dk_21 (bt bc_Ruin_reckon_2 19 rfl) (bt bc_Ruin_reckon_2 20 rfl)) rfl rfl ?_
    refine EJ_i2l 86 (dk_133 (bt bc_Ruin_reckon_2 21 rfl)) rfl ?_
    refine EJ_lmul 87 (dk_105 (bt bc_Ruin_reckon_2 22 rfl)) rfl ?_
    refine EJ_aload_n 88 3 (dk_45 (bt bc_Ruin_reckon_2 23 rfl)) rfl rfl ?_
    refine EJ_iload 90 7 (dk_21 (bt bc_Ruin_reckon_2 24 rfl) (bt bc_Ruin_reckon_2 25 rfl)) rfl rfl ?_
    refine EJ_ck (fun h35 => ?_)
    refine EJ_aald 5 91 (by decide) (by decide) rfl h35 (dk_50 (bt bc_Ruin_reckon_2 26 rfl)) rfl (fun b36 => ?_)
    refine EJ_ck (fun h37 => ?_)
    refine EJ_callVi (Y2 := Y_Store_share) 94 cf10 (s_Store_share G _ _) (of_decide_eq_true h37) rfl (dk_182 (bt bc_Ruin_reckon_2 27 rfl) (bt bc_Ruin_reckon_2 28 rfl) (bt bc_Ruin_reckon_2 29 rfl) (n := 44) rfl) rfl tw_1134 tw_574 tw_575 tw_576 hd_Store_share rfl (by decide) (Nat.le_of_ble_eq_true rfl) (fun r38 M39 => ?_)
    refine EJ_i2l 95 (dk_133 (bt bc_Ruin_reckon_2 30 rfl)) rfl ?_
    refine EJ_lmul 96 (dk_105 (bt bc_Ruin_reckon_2 31 rfl)) rfl ?_
    refine EJ_ldc2 99 (dk_20 (bt bc_Ruin_reckon_3 0 rfl) (bt bc_Ruin_reckon_3 1 rfl) (bt bc_Ruin_reckon_3 2 rfl) (n := 50) rfl) rfl tw_1135 ?_
    refine EJ_ldiv 100 (dk_109 (bt bc_Ruin_reckon_3 3 rfl)) rfl (by decide) ?_
    refine EJ_ladd 101 (dk_97 (bt bc_Ruin_reckon_3 4 rfl)) rfl ?_
    refine EJ_ck (fun h40 => ?_)
    refine EJ_last 102 h40 (dk_80 (bt bc_Ruin_reckon_3 5 rfl)) rfl ?_
    refine EJ_iinc 105 7 (lv2 := [(7, .int _), (0, .ref _), (1, .ref _), (2, .int _), (3, .ref _), (4, .int _), (5, .int _), (6, .int _)]) (dk_132 (bt bc_Ruin_reckon_3 6 rfl) (bt bc_Ruin_reckon_3 7 rfl) (bt bc_Ruin_reckon_3 8 rfl) (n := 1) rfl) rfl (by decide) rfl (v := 1) kI_1 rfl ?_
    refine EJ_goto 57 (dk_167 (bt bc_Ruin_reckon_3 9 rfl) (bt bc_Ruin_reckon_3 10 rfl) (bt bc_Ruin_reckon_3 11 rfl) (n := -48) rfl) (by decide) ?_
    exact EJ_pick (lv2 := [(0, .ref _), (1, .ref _), (2, .int _), (3, .ref _), (4, .int _), (5, .int _), (6, .int _), (7, .int _)]) [1, 2, 3, 4, 5, 6, 7, 0] rfl (hk57 _ _ _ _ _ _ _ _ _)
def Ruin_reckon_L57 (k13 : Nat → Nat → Int32 → Nat → Int32 → Int32 → Int32 → Mm → Option (Unit × Mm)) (n : Nat) : Nat → Nat → Int32 → Nat → Int32 → Int32 → Int32 → Int32 → Mm → Option (Unit × Mm) :=
  match n with
  | 0 => fun _ _ _ _ _ _ _ _ _ => none
  | n + 1 => Ruin_reckon_B57 k13 (Ruin_reckon_L57 k13 n)
theorem e_Ruin_reckon_L57 {G : Gx} (k13 : Nat → Nat → Int32 → Nat → Int32 → Int32 → Int32 → Mm → Option (Unit × Mm)) (hk13 : ∀ (x0 : Nat) (x1 : Nat) (x2 : Int32) (x3 : Nat) (x4 : Int32) (x5 : Int32) (x6 : Int32) (M : Mm), EJ G Y_Ruin_reckon cvV 4 13 [(0, .ref x0), (1, .ref x1), (2, .int x2), (3, .ref x3), (4, .int x4), (5, .int x5), (6, .int x6)] [] M (k13 x0 x1 x2 x3 x4 x5 x6 M)) : ∀ (n : Nat) (x0 : Nat) (x1 : Nat) (x2 : Int32) (x3 : Nat) (x4 : Int32) (x5 : Int32) (x6 : Int32) (x7 : Int32) (M : Mm), EJ G Y_Ruin_reckon cvV 4 57 [(0, .ref x0), (1, .ref x1), (2, .int x2), (3, .ref x3), (4, .int x4), (5, .int x5), (6, .int x6), (7, .int x7)] [] M (Ruin_reckon_L57 k13 n x0 x1 x2 x3 x4 x5 x6 x7 M) := by
  intro n
  induction n with
  | zero => intros; exact EJ_none
  | succ n ih => intro x0 x1 x2 x3 x4 x5 x6 x7 M; exact e_Ruin_reckon_B57 k13 _ hk13 ih x0 x1 x2 x3 x4 x5 x6 x7 M
def Ruin_reckon_B13 (k13 : Nat → Nat → Int32 → Nat → Int32 → Int32 → Int32 → Mm → Option (Unit × Mm)) (x0 : Nat) (x1 : Nat) (x2 : Int32) (x3 : Nat) (x4 : Int32) (x5 : Int32) (x6 : Int32) (M : Mm) : Option (Unit × Mm) :=
  if x2 ≤ x6 then (
    Ruin_reckon_L117 fu x0 x1 x2 1 M)
  else (
    ck (kO M x0 7 5) (
    nn (mR M x0 0) (fun b12 =>
    ck (kA M b12 20 x6) (
    let M14 := sI M b12 (ix x6) 0
    nn (mR M14 x0 1) (fun b15 =>
    ck (kA M14 b15 20 x6) (
    let M17 := sI M14 b15 (ix x6) 100
    nn (mR M17 x0 2) (fun b18 =>
    ck (kA M17 x1 24 x6) (
    nn (mR M17 x1 (ix x6)) (fun b20 =>
    ck (kO M17 b20 6 9) (
    bd (Math_max_L M17 0 (mL M17 b20 3)) (fun r22 M23 =>
    ck (kA M23 b18 23 x6) (
    let M25 := sL M23 b18 (ix x6) r22
    Ruin_reckon_L57 k13 fu x0 x1 x2 x3 x4 x5 x6 0 M25))))))))))))
set_option maxRecDepth 100000 in
set_option maxHeartbeats 4000000 in
theorem e_Ruin_reckon_B13 {G : Gx} (k13 : Nat → Nat → Int32 → Nat → Int32 → Int32 → Int32 → Mm → Option (Unit × Mm)) (hk13 : ∀ (x0 : Nat) (x1 : Nat) (x2 : Int32) (x3 : Nat) (x4 : Int32) (x5 : Int32) (x6 : Int32) (M : Mm), EJ G Y_Ruin_reckon cvV 4 13 [(0, .ref x0), (1, .ref x1), (2, .int x2), (3, .ref x3), (4, .int x4), (5, .int x5), (6, .int x6)] [] M (k13 x0 x1 x2 x3 x4 x5 x6 M)) (x0 : Nat) (x1 : Nat) (x2 : Int32) (x3 : Nat) (x4 : Int32) (x5 : Int32) (x6 : Int32) (M : Mm) : EJ G Y_Ruin_reckon cvV 4 13 [(0, .ref x0), (1, .ref x1), (2, .int x2), (3, .ref x3), (4, .int x4), (5, .int x5), (6, .int x6)] [] M (Ruin_reckon_B13 k13 x0 x1 x2 x3 x4 x5 x6 M) := by
  unfold Ruin_reckon_B13
  refine EJ_iload 15 6 (dk_21 (bt bc_Ruin_reckon_0 13 rfl) (bt bc_Ruin_reckon_0 14 rfl)) rfl rfl ?_
  refine EJ_iload_n 16 2 (dk_28 (bt bc_Ruin_reckon_0 15 rfl)) rfl rfl ?_
  refine EJ_icmp_ge 114 19 (dk_162 (bt bc_Ruin_reckon_0 16 rfl) (bt bc_Ruin_reckon_0 17 rfl) (bt bc_Ruin_reckon_0 18 rfl) (n := 98) rfl) (by decide) rfl (fun _ => ?_) (fun _ => ?_)
  · refine EJ_iconst 115 (dk_4 (bt bc_Ruin_reckon_3 18 rfl)) rfl (v := 1) kI_1 ?_
    refine EJ_istore 117 (lv2 := [(6, .int _), (0, .ref _), (1, .ref _), (2, .int _), (3, .ref _), (4, .int _), (5, .int _)]) (dk_54 (bt bc_Ruin_reckon_3 19 rfl) (bt bc_Ruin_reckon_3 20 rfl)) rfl (by decide) rfl ?_
    exact EJ_pick (lv2 := [(0, .ref _), (1, .ref _), (2, .int _), (6, .int _)]) [1, 2, 3, 0] rfl (e_Ruin_reckon_L117 fu _ _ _ _ _)
  · refine EJ_aload_n 20 0 (dk_42 (bt bc_Ruin_reckon_0 19 rfl)) rfl rfl ?_
    refine EJ_ck (fun h11 => ?_)
    refine EJ_getR cf7 0 (by decide) 23 tw_178 (fun _ _ _ => rfl) (dk_180 (bt bc_Ruin_reckon_0 20 rfl) (bt bc_Ruin_reckon_0 21 rfl) (bt bc_Ruin_reckon_0 22 rfl) (n := 9) rfl) rfl (of_decide_eq_true h11) (fun b12 => ?_)
    refine EJ_iload 25 6 (dk_21 (bt bc_Ruin_reckon_0 23 rfl) (bt bc_Ruin_reckon_0 24 rfl)) rfl rfl ?_
    refine EJ_iconst 26 (dk_3 (bt bc_Ruin_reckon_0 25 rfl)) rfl (v := 0) kI_0 ?_
    refine EJ_ck (fun h13 => ?_)
    refine EJ_iast 27 h13 (dk_79 (bt bc_Ruin_reckon_0 26 rfl)) rfl ?_
    refine EJ_aload_n 28 0 (dk_42 (bt bc_Ruin_reckon_0 27 rfl)) rfl rfl ?_
    refine EJ_getR cf7 1 (by decide) 31 tw_180 (fun _ _ _ => rfl) (dk_180 (bt bc_Ruin_reckon_0 28 rfl) (bt bc_Ruin_reckon_0 29 rfl) (bt bc_Ruin_reckon_0 30 rfl) (n := 15) rfl) rfl (kp_I (of_decide_eq_true h11)) (fun b15 => ?_)
    refine EJ_iload 33 6 (dk_21 (bt bc_Ruin_reckon_0 31 rfl) (bt bc_Ruin_reckon_1 0 rfl)) rfl rfl ?_
    refine EJ_bipush 35 (dk_16 (bt bc_Ruin_reckon_1 1 rfl) (bt bc_Ruin_reckon_1 2 rfl) (n := 100) rfl) rfl (v := 100) kB_100 ?_
    refine EJ_ck (fun h16 => ?_)
    refine EJ_iast 36 h16 (dk_79 (bt bc_Ruin_reckon_1 3 rfl)) rfl ?_
    refine EJ_aload_n 37 0 (dk_42 (bt bc_Ruin_reckon_1 4 rfl)) rfl rfl ?_
    refine EJ_getR cf7 2 (by decide) 40 tw_182 (fun _ _ _ => rfl) (dk_180 (bt bc_Ruin_reckon_1 5 rfl) (bt bc_Ruin_reckon_1 6 rfl) (bt bc_Ruin_reckon_1 7 rfl) (n := 18) rfl) rfl (kp_I (kp_I (of_decide_eq_true h11))) (fun b18 => ?_)
    refine EJ_iload 42 6 (dk_21 (bt bc_Ruin_reckon_1 8 rfl) (bt bc_Ruin_reckon_1 9 rfl)) rfl rfl ?_
    refine EJ_lconst 43 (dk_9 (bt bc_Ruin_reckon_1 10 rfl)) rfl (v := 0) (by decide) ?_
    refine EJ_aload_n 44 1 (dk_43 (bt bc_Ruin_reckon_1 11 rfl)) rfl rfl ?_
    refine EJ_iload 46 6 (dk_21 (bt bc_Ruin_reckon_1 12 rfl) (bt bc_Ruin_reckon_1 13 rfl)) rfl rfl ?_
    refine EJ_ck (fun h19 => ?_)
    refine EJ_aald 4 47 (by decide) (by decide) rfl h19 (dk_50 (bt bc_Ruin_reckon_1 14 rfl)) rfl (fun b20 => ?_)
    refine EJ_ck (fun h21 => ?_)
    refine EJ_getL cf6 3 (by decide) 50 tw_345 (fun _ _ _ => rfl) (dk_180 (bt bc_Ruin_reckon_1 15 rfl) (bt bc_Ruin_reckon_1 16 rfl) (bt bc_Ruin_reckon_1 17 rfl) (n := 29) rfl) rfl (of_decide_eq_true h21) ?_
    refine EJ_callSl (Y2 := Y_Math_max_L) 53 (s_Math_max_L G _ _ _) rfl (dk_184 (bt bc_Ruin_reckon_1 18 rfl) (bt bc_Ruin_reckon_1 19 rfl) (bt bc_Ruin_reckon_1 20 rfl) (n := 35) rfl) rfl tw_1133 tw_1081 tw_9 tw_1082 hd_Math_max_L rfl (by decide) (Nat.le_of_ble_eq_true rfl) (fun r22 M23 => ?_)
    refine EJ_ck (fun h24 => ?_)
    refine EJ_last 54 h24 (dk_80 (bt bc_Ruin_reckon_1 21 rfl)) rfl ?_
    refine EJ_iconst 55 (dk_3 (bt bc_Ruin_reckon_1 22 rfl)) rfl (v := 0) kI_0 ?_
    refine EJ_istore 57 (lv2 := [(7, .int _), (0, .ref _), (1, .ref _), (2, .int _), (3, .ref _), (4, .int _), (5, .int _), (6, .int _)]) (dk_54 (bt bc_Ruin_reckon_1 23 rfl) (bt bc_Ruin_reckon_1 24 rfl)) rfl (by decide) rfl ?_
    exact EJ_pick (lv2 := [(0, .ref _), (1, .ref _), (2, .int _), (3, .ref _), (4, .int _), (5, .int _), (6, .int _), (7, .int _)]) [1, 2, 3, 4, 5, 6, 7, 0] rfl (e_Ruin_reckon_L57 k13 hk13 fu _ _ _ _ _ _ _ _ _)
def Ruin_reckon_L13 (n : Nat) : Nat → Nat → Int32 → Nat → Int32 → Int32 → Int32 → Mm → Option (Unit × Mm) :=
  match n with
  | 0 => fun _ _ _ _ _ _ _ _ => none
  | n + 1 => Ruin_reckon_B13 (Ruin_reckon_L13 n)
theorem e_Ruin_reckon_L13 {G : Gx} : ∀ (n : Nat) (x0 : Nat) (x1 : Nat) (x2 : Int32) (x3 : Nat) (x4 : Int32) (x5 : Int32) (x6 : Int32) (M : Mm), EJ G Y_Ruin_reckon cvV 4 13 [(0, .ref x0), (1, .ref x1), (2, .int x2), (3, .ref x3), (4, .int x4), (5, .int x5), (6, .int x6)] [] M (Ruin_reckon_L13 n x0 x1 x2 x3 x4 x5 x6 M) := by
  intro n
  induction n with
  | zero => intros; exact EJ_none
  | succ n ih => intro x0 x1 x2 x3 x4 x5 x6 M; exact e_Ruin_reckon_B13 _ ih x0 x1 x2 x3 x4 x5 x6 M
def Ruin_reckon (M : Mm) (a0 : Nat) (a1 : Nat) (a2 : Int32) (a3 : Nat) (a4 : Int32) (a5 : Int32) : Option (Unit × Mm) :=
  ck (kO M a0 7 5) (
  let M2 := sI M a0 3 0
  let M3 := sI M2 a0 4 0
  Ruin_reckon_L13 fu a0 a1 a2 a3 a4 a5 0 M3)
set_option maxRecDepth 100000 in
set_option maxHeartbeats 4000000 in
theorem s_Ruin_reckon (G : Gx) (M : Mm) (a0 : Nat) (a1 : Nat) (a2 : Int32) (a3 : Nat) (a4 : Int32) (a5 : Int32) : FnS G Y_Ruin_reckon cvV 4 [.ref a0, .ref a1, .int a2, .ref a3, .int a4, .int a5] M (Ruin_reckon M a0 a1 a2 a3 a4 a5) := by
  refine FnS.ofE (by decide) (Nat.le_of_ble_eq_true rfl) ?_
  show EJ G Y_Ruin_reckon cvV 4 0 [(0, .ref a0), (1, .ref a1), (2, .int a2), (3, .ref a3), (4, .int a4), (5, .int a5)] [] M _
  unfold Ruin_reckon
  refine EJ_aload_n 1 0 (dk_42 (bt bc_Ruin_reckon_0 0 rfl)) rfl rfl ?_
  refine EJ_iconst 2 (dk_3 (bt bc_Ruin_reckon_0 1 rfl)) rfl (v := 0) kI_0 ?_
  refine EJ_ck (fun h1 => ?_)
  refine EJ_putI cf7 3 (by decide) 5 tw_183 rfl (Or.inl rfl) (dk_181 (bt bc_Ruin_reckon_0 2 rfl) (bt bc_Ruin_reckon_0 3 rfl) (bt bc_Ruin_reckon_0 4 rfl) (n := 22) rfl) rfl (of_decide_eq_true h1) ?_
  refine EJ_aload_n 6 0 (dk_42 (bt bc_Ruin_reckon_0 5 rfl)) rfl rfl ?_
  refine EJ_iconst 7 (dk_3 (bt bc_Ruin_reckon_0 6 rfl)) rfl (v := 0) kI_0 ?_
  refine EJ_putI cf7 4 (by decide) 10 tw_185 rfl (Or.inl rfl) (dk_181 (bt bc_Ruin_reckon_0 7 rfl) (bt bc_Ruin_reckon_0 8 rfl) (bt bc_Ruin_reckon_0 9 rfl) (n := 26) rfl) rfl (kp_I (of_decide_eq_true h1)) ?_
  refine EJ_iconst 11 (dk_3 (bt bc_Ruin_reckon_0 10 rfl)) rfl (v := 0) kI_0 ?_
  refine EJ_istore 13 (lv2 := [(6, .int _), (0, .ref _), (1, .ref _), (2, .int _), (3, .ref _), (4, .int _), (5, .int _)]) (dk_54 (bt bc_Ruin_reckon_0 11 rfl) (bt bc_Ruin_reckon_0 12 rfl)) rfl (by decide) rfl ?_
  exact EJ_pick (lv2 := [(0, .ref _), (1, .ref _), (2, .int _), (3, .ref _), (4, .int _), (5, .int _), (6, .int _)]) [1, 2, 3, 4, 5, 6, 0] rfl (e_Ruin_reckon_L13 fu _ _ _ _ _ _ _ _)
abbrev Y_Land_new : Ym := (⟨"RiceHall$Land", "<init>", "()V"⟩, prog_6_method_1_code, 1, none)
theorem bc_Land_new_0 : bts prog_6_method_1_code 0 [42, 183, 0, 3, 42, 16, 10, 188, 10, 181, 0, 9, 42, 16, 10, 188, 10, 181, 0, 15, 42, 16, 100, 188, 10, 181, 0, 18, 42, 16, 100, 188] := bts_of (by decide +kernel)
theorem bc_Land_new_1 : bts prog_6_method_1_code 32 [10, 181, 0, 21, 42, 16, 10, 188, 10, 181, 0, 24, 42, 16, 10, 188, 4, 181, 0, 27, 42, 4, 181, 0, 31, 42, 180, 0, 9, 2, 184, 0] := bts_of (by decide +kernel)
theorem bc_Land_new_2 : bts prog_6_method_1_code 64 [35, 177] := bts_of (by decide +kernel)
theorem hd_Land_new : Y_Land_new.1.cls ≠ "java/lang/invoke/MethodHandle" ∧ Y_Land_new.1.cls ≠ "java/lang/invoke/VarHandle" ∧ (parseMethodDescriptor Y_Land_new.1.desc).map (fun d => d.parameters.length) = some 0 := by decide +kernel
def Land_new (M : Mm) (a0 : Nat) : Option (Unit × Mm) :=
  let M1 := nw M 20 10
  ck (kO M1 a0 4 7) (
  let M3 := sR M1 a0 0 (some (mZ M))
  let M4 := nw M3 20 10
  ck (kO M4 a0 4 7) (
  let M6 := sR M4 a0 1 (some (mZ M3))
  let M7 := nw M6 20 100
  ck (kO M7 a0 4 7) (
  let M9 := sR M7 a0 2 (some (mZ M6))
  let M10 := nw M9 20 100
  ck (kO M10 a0 4 7) (
  let M12 := sR M10 a0 3 (some (mZ M9))
  let M13 := nw M12 20 10
  ck (kO M13 a0 4 7) (
  let M15 := sR M13 a0 4 (some (mZ M12))
  let M16 := nw M15 22 10
  ck (kO M16 a0 4 7) (
  let M18 := sR M16 a0 5 (some (mZ M15))
  let M19 := sI M18 a0 6 1
  nn (mR M19 a0 0) (fun b20 =>
  bd (Arr_fill M19 b20 (-1)) (fun _ M22 =>
  some ((), M22)))))))))
set_option maxRecDepth 100000 in
set_option maxHeartbeats 4000000 in
theorem s_Land_new (G : Gx) (M : Mm) (a0 : Nat) : FnS G Y_Land_new cvV 2 [.ref a0] M (Land_new M a0) := by
  refine FnS.ofE (by decide) (Nat.le_of_ble_eq_true rfl) ?_
  show EJ G Y_Land_new cvV 2 0 [(0, .ref a0)] [] M _
  unfold Land_new
  refine EJ_aload_n 1 0 (dk_42 (bt bc_Land_new_0 0 rfl)) rfl rfl ?_
  refine EJ_obj 4 (dk_183 (bt bc_Land_new_0 1 rfl) (bt bc_Land_new_0 2 rfl) (bt bc_Land_new_0 3 rfl) (n := 3) rfl) rfl tw_34 tw_27 tw_28 (by decide) (Nat.le_of_ble_eq_true rfl) ?_
  refine EJ_aload_n 5 0 (dk_42 (bt bc_Land_new_0 4 rfl)) rfl rfl ?_
  refine EJ_bipush 7 (dk_16 (bt bc_Land_new_0 5 rfl) (bt bc_Land_new_0 6 rfl) (n := 10) rfl) rfl (v := 10) kB_10 ?_
  refine EJ_newa' 0 9 (c := 20) (N := 10) (by decide) rfl tw_61 rfl (by decide) (by decide) (dk_188_10 (bt bc_Land_new_0 7 rfl) (bt bc_Land_new_0 8 rfl)) rfl ?_
  refine EJ_ck (fun h2 => ?_)
  refine EJ_putR cf4 0 (by decide) 12 tw_38 (fun _ _ _ => rfl) (fun _ => rfl) (fun _ => rfl) (Or.inr ⟨rfl, rfl⟩) (dk_181 (bt bc_Land_new_0 9 rfl) (bt bc_Land_new_0 10 rfl) (bt bc_Land_new_0 11 rfl) (n := 9) rfl) rfl (of_decide_eq_true h2) ?_
  refine EJ_aload_n 13 0 (dk_42 (bt bc_Land_new_0 12 rfl)) rfl rfl ?_
  refine EJ_bipush 15 (dk_16 (bt bc_Land_new_0 13 rfl) (bt bc_Land_new_0 14 rfl) (n := 10) rfl) rfl (v := 10) kB_10 ?_
  refine EJ_newa' 0 17 (c := 20) (N := 10) (by decide) rfl tw_61 rfl (by decide) (by decide) (dk_188_10 (bt bc_Land_new_0 15 rfl) (bt bc_Land_new_0 16 rfl)) rfl ?_
  refine EJ_ck (fun h5 => ?_)
  refine EJ_putR cf4 1 (by decide) 20 tw_39 (fun _ _ _ => rfl) (fun _ => rfl) (fun _ => rfl) (Or.inr ⟨rfl, rfl⟩) (dk_181 (bt bc_Land_new_0 17 rfl) (bt bc_Land_new_0 18 rfl) (bt bc_Land_new_0 19 rfl) (n := 15) rfl) rfl (of_decide_eq_true h5) ?_
  refine EJ_aload_n 21 0 (dk_42 (bt bc_Land_new_0 20 rfl)) rfl rfl ?_
  refine EJ_bipush 23 (dk_16 (bt bc_Land_new_0 21 rfl) (bt bc_Land_new_0 22 rfl) (n := 100) rfl) rfl (v := 100) kB_100 ?_
  refine EJ_newa' 0 25 (c := 20) (N := 100) (by decide) rfl tw_61 rfl (by decide) (by decide) (dk_188_10 (bt bc_Land_new_0 23 rfl) (bt bc_Land_new_0 24 rfl)) rfl ?_
  refine EJ_ck (fun h8 => ?_)
  refine EJ_putR cf4 2 (by decide) 28 tw_40 (fun _ _ _ => rfl) (fun _ => rfl) (fun _ => rfl) (Or.inr ⟨rfl, rfl⟩) (dk_181 (bt bc_Land_new_0 25 rfl) (bt bc_Land_new_0 26 rfl) (bt bc_Land_new_0 27 rfl) (n := 18) rfl) rfl (of_decide_eq_true h8) ?_
  refine EJ_aload_n 29 0 (dk_42 (bt bc_Land_new_0 28 rfl)) rfl rfl ?_
  refine EJ_bipush 31 (dk_16 (bt bc_Land_new_0 29 rfl) (bt bc_Land_new_0 30 rfl) (n := 100) rfl) rfl (v := 100) kB_100 ?_
  refine EJ_newa' 0 33 (c := 20) (N := 100) (by decide) rfl tw_61 rfl (by decide) (by decide) (dk_188_10 (bt bc_Land_new_0 31 rfl) (bt bc_Land_new_1 0 rfl)) rfl ?_
  refine EJ_ck (fun h11 => ?_)
  refine EJ_putR cf4 3 (by decide) 36 tw_41 (fun _ _ _ => rfl) (fun _ => rfl) (fun _ => rfl) (Or.inr ⟨rfl, rfl⟩) (dk_181 (bt bc_Land_new_1 1 rfl) (bt bc_Land_new_1 2 rfl) (bt bc_Land_new_1 3 rfl) (n := 21) rfl) rfl (of_decide_eq_true h11) ?_
  refine EJ_aload_n 37 0 (dk_42 (bt bc_Land_new_1 4 rfl)) rfl rfl ?_
  refine EJ_bipush 39 (dk_16 (bt bc_Land_new_1 5 rfl) (bt bc_Land_new_1 6 rfl) (n := 10) rfl) rfl (v := 10) kB_10 ?_
  refine EJ_newa' 0 41 (c := 20) (N := 10) (by decide) rfl tw_61 rfl (by decide) (by decide) (dk_188_10 (bt bc_Land_new_1 7 rfl) (bt bc_Land_new_1 8 rfl)) rfl ?_
  refine EJ_ck (fun h14 => ?_)
  refine EJ_putR cf4 4 (by decide) 44 tw_42 (fun _ _ _ => rfl) (fun _ => rfl) (fun _ => rfl) (Or.inr ⟨rfl, rfl⟩) (dk_181 (bt bc_Land_new_1 9 rfl) (bt bc_Land_new_1 10 rfl) (bt bc_Land_new_1 11 rfl) (n := 24) rfl) rfl (of_decide_eq_true h14) ?_
  refine EJ_aload_n 45 0 (dk_42 (bt bc_Land_new_1 12 rfl)) rfl rfl ?_
  refine EJ_bipush 47 (dk_16 (bt bc_Land_new_1 13 rfl) (bt bc_Land_new_1 14 rfl) (n := 10) rfl) rfl (v := 10) kB_10 ?_
  refine EJ_newa' 2 49 (c := 22) (N := 10) (by decide) rfl tw_62 rfl (by decide) (by decide) (dk_188_4 (bt bc_Land_new_1 15 rfl) (bt bc_Land_new_1 16 rfl)) rfl ?_
  refine EJ_ck (fun h17 => ?_)
  refine EJ_putR cf4 5 (by decide) 52 tw_43 (fun _ _ _ => rfl) (fun _ => rfl) (fun _ => rfl) (Or.inr ⟨rfl, rfl⟩) (dk_181 (bt bc_Land_new_1 17 rfl) (bt bc_Land_new_1 18 rfl) (bt bc_Land_new_1 19 rfl) (n := 27) rfl) rfl (of_decide_eq_true h17) ?_
  refine EJ_aload_n 53 0 (dk_42 (bt bc_Land_new_1 20 rfl)) rfl rfl ?_
  refine EJ_iconst 54 (dk_4 (bt bc_Land_new_1 21 rfl)) rfl (v := 1) kI_1 ?_
  refine EJ_putI cf4 6 (by decide) 57 tw_44 rfl (Or.inl rfl) (dk_181 (bt bc_Land_new_1 22 rfl) (bt bc_Land_new_1 23 rfl) (bt bc_Land_new_1 24 rfl) (n := 31) rfl) rfl (kp_R (of_decide_eq_true h17)) ?_
  refine EJ_aload_n 58 0 (dk_42 (bt bc_Land_new_1 25 rfl)) rfl rfl ?_
  refine EJ_getR cf4 0 (by decide) 61 tw_38 (fun _ _ _ => rfl) (dk_180 (bt bc_Land_new_1 26 rfl) (bt bc_Land_new_1 27 rfl) (bt bc_Land_new_1 28 rfl) (n := 9) rfl) rfl (kp_I (kp_R (of_decide_eq_true h17))) (fun b20 => ?_)
  refine EJ_iconst 62 (dk_2 (bt bc_Land_new_1 29 rfl)) rfl (v := (-1)) kI_m1 ?_
  refine EJ_callSv (Y2 := Y_Arr_fill) 65 (s_Arr_fill G _ _ _) rfl (dk_184 (bt bc_Land_new_1 30 rfl) (bt bc_Land_new_1 31 rfl) (bt bc_Land_new_2 0 rfl) (n := 35) rfl) rfl tw_35 tw_36 tw_3 tw_37 hd_Arr_fill rfl (by decide) (Nat.le_of_ble_eq_true rfl) (fun _ M22 => ?_)
  exact EJ_vret rfl (dk_177 (bt bc_Land_new_2 1 rfl))
abbrev Y_Land_addTown : Ym := (⟨"RiceHall$Land", "addTown", "()I"⟩, prog_6_method_3_code, 1, (some FieldType.int))
theorem bc_Land_addTown_0 : bts prog_6_method_3_code 0 [42, 180, 0, 31, 16, 10, 161, 0, 5, 2, 172, 42, 89, 180, 0, 31, 4, 96, 181, 0, 31, 42, 180, 0, 31, 4, 100, 172] := bts_of (by decide +kernel)
theorem hd_Land_addTown : Y_Land_addTown.1.cls = RX4 ∧ Y_Land_addTown.1.cls ≠ "java/lang/invoke/MethodHandle" ∧ Y_Land_addTown.1.cls ≠ "java/lang/invoke/VarHandle" ∧ (parseMethodDescriptor Y_Land_addTown.1.desc).map (fun d => d.parameters.length) = some 0 := by decide +kernel
def Land_addTown (M : Mm) (a0 : Nat) : Option (Int32 × Mm) :=
  ck (kO M a0 4 7) (
  if (mI M a0 6) < 10 then (
    let M2 := sI M a0 6 ((mI M a0 6) + 1)
    some ((mI M2 a0 6) - 1, M2))
  else (
    some ((-1), M)))
set_option maxRecDepth 100000 in
set_option maxHeartbeats 4000000 in
theorem s_Land_addTown (G : Gx) (M : Mm) (a0 : Nat) : FnS G Y_Land_addTown cvI 1 [.ref a0] M (Land_addTown M a0) := by
  refine FnS.ofE (by decide) (Nat.le_of_ble_eq_true rfl) ?_
  show EJ G Y_Land_addTown cvI 1 0 [(0, .ref a0)] [] M _
  unfold Land_addTown
  refine EJ_aload_n 1 0 (dk_42 (bt bc_Land_addTown_0 0 rfl)) rfl rfl ?_
  refine EJ_ck (fun h1 => ?_)
  refine EJ_getI cf4 6 (by decide) 4 tw_44 (fun _ _ _ => rfl) (dk_180 (bt bc_Land_addTown_0 1 rfl) (bt bc_Land_addTown_0 2 rfl) (bt bc_Land_addTown_0 3 rfl) (n := 31) rfl) rfl (of_decide_eq_true h1) ?_
  refine EJ_bipush 6 (dk_16 (bt bc_Land_addTown_0 4 rfl) (bt bc_Land_addTown_0 5 rfl) (n := 10) rfl) rfl (v := 10) kB_10 ?_
  refine EJ_icmp_lt 11 9 (dk_161 (bt bc_Land_addTown_0 6 rfl) (bt bc_Land_addTown_0 7 rfl) (bt bc_Land_addTown_0 8 rfl) (n := 5) rfl) (by decide) rfl (fun _ => ?_) (fun _ => ?_)
  · refine EJ_aload_n 12 0 (dk_42 (bt bc_Land_addTown_0 11 rfl)) rfl rfl ?_
    refine EJ_dup 13 (dk_89 (bt bc_Land_addTown_0 12 rfl)) rfl rfl ?_
    refine EJ_getI cf4 6 (by decide) 16 tw_44 (fun _ _ _ => rfl) (dk_180 (bt bc_Land_addTown_0 13 rfl) (bt bc_Land_addTown_0 14 rfl) (bt bc_Land_addTown_0 15 rfl) (n := 31) rfl) rfl (of_decide_eq_true h1) ?_
    refine EJ_iconst 17 (dk_4 (bt bc_Land_addTown_0 16 rfl)) rfl (v := 1) kI_1 ?_
    refine EJ_iadd 18 (dk_96 (bt bc_Land_addTown_0 17 rfl)) rfl ?_
    refine EJ_putI cf4 6 (by decide) 21 tw_44 rfl (Or.inl rfl) (dk_181 (bt bc_Land_addTown_0 18 rfl) (bt bc_Land_addTown_0 19 rfl) (bt bc_Land_addTown_0 20 rfl) (n := 31) rfl) rfl (of_decide_eq_true h1) ?_
    refine EJ_aload_n 22 0 (dk_42 (bt bc_Land_addTown_0 21 rfl)) rfl rfl ?_
    refine EJ_getI cf4 6 (by decide) 25 tw_44 (fun _ _ _ => rfl) (dk_180 (bt bc_Land_addTown_0 22 rfl) (bt bc_Land_addTown_0 23 rfl) (bt bc_Land_addTown_0 24 rfl) (n := 31) rfl) rfl (kp_I (of_decide_eq_true h1)) ?_
    refine EJ_iconst 26 (dk_4 (bt bc_Land_addTown_0 25 rfl)) rfl (v := 1) kI_1 ?_
    refine EJ_isub 27 (dk_100 (bt bc_Land_addTown_0 26 rfl)) rfl ?_
    exact EJ_iret rfl (dk_172 (bt bc_Land_addTown_0 27 rfl))
  · refine EJ_iconst 10 (dk_2 (bt bc_Land_addTown_0 9 rfl)) rfl (v := (-1)) kI_m1 ?_
    exact EJ_iret rfl (dk_172 (bt bc_Land_addTown_0 10 rfl))
abbrev Y_Land_has : Ym := (⟨"RiceHall$Land", "has", "(I)Z"⟩, prog_6_method_2_code, 2, (some FieldType.boolean))
theorem bc_Land_has_0 : bts prog_6_method_2_code 0 [27, 155, 0, 15, 27, 42, 180, 0, 31, 162, 0, 7, 4, 167, 0, 4, 3, 172] := bts_of (by decide +kernel)
theorem hd_Land_has : Y_Land_has.1.cls = RX4 ∧ Y_Land_has.1.cls ≠ "java/lang/invoke/MethodHandle" ∧ Y_Land_has.1.cls ≠ "java/lang/invoke/VarHandle" ∧ (parseMethodDescriptor Y_Land_has.1.desc).map (fun d => d.parameters.length) = some 1 := by decide +kernel
def Land_has (M : Mm) (a0 : Nat) (a1 : Int32) : Option (Int32 × Mm) :=
  if a1 < 0 then (
    some (0, M))
  else (
    ck (kO M a0 4 7) (
    if (mI M a0 6) ≤ a1 then (
      some (0, M))
    else (
      some (1, M))))
set_option maxRecDepth 100000 in
set_option maxHeartbeats 4000000 in
theorem s_Land_has (G : Gx) (M : Mm) (a0 : Nat) (a1 : Int32) : FnS G Y_Land_has cvI 1 [.ref a0, .int a1] M (Land_has M a0 a1) := by
  refine FnS.ofE (by decide) (Nat.le_of_ble_eq_true rfl) ?_
  show EJ G Y_Land_has cvI 1 0 [(0, .ref a0), (1, .int a1)] [] M _
  unfold Land_has
  refine EJ_iload_n 1 1 (dk_27 (bt bc_Land_has_0 0 rfl)) rfl rfl ?_
  refine EJ_if_lt 16 4 (dk_155 (bt bc_Land_has_0 1 rfl) (bt bc_Land_has_0 2 rfl) (bt bc_Land_has_0 3 rfl) (n := 15) rfl) (by decide) rfl (fun _ => ?_) (fun _ => ?_)
  · refine EJ_iconst 17 (dk_3 (bt bc_Land_has_0 16 rfl)) rfl (v := 0) kI_0 ?_
    exact EJ_zret rfl (by decide) (dk_172 (bt bc_Land_has_0 17 rfl))
  · refine EJ_iload_n 5 1 (dk_27 (bt bc_Land_has_0 4 rfl)) rfl rfl ?_
    refine EJ_aload_n 6 0 (dk_42 (bt bc_Land_has_0 5 rfl)) rfl rfl ?_
    refine EJ_ck (fun h1 => ?_)
    refine EJ_getI cf4 6 (by decide) 9 tw_44 (fun _ _ _ => rfl) (dk_180 (bt bc_Land_has_0 6 rfl) (bt bc_Land_has_0 7 rfl) (bt bc_Land_has_0 8 rfl) (n := 31) rfl) rfl (of_decide_eq_true h1) ?_
    refine EJ_icmp_ge 16 12 (dk_162 (bt bc_Land_has_0 9 rfl) (bt bc_Land_has_0 10 rfl) (bt bc_Land_has_0 11 rfl) (n := 7) rfl) (by decide) rfl (fun _ => ?_) (fun _ => ?_)
    · refine EJ_iconst 17 (dk_3 (bt bc_Land_has_0 16 rfl)) rfl (v := 0) kI_0 ?_
      exact EJ_zret rfl (by decide) (dk_172 (bt bc_Land_has_0 17 rfl))
    · refine EJ_iconst 13 (dk_4 (bt bc_Land_has_0 12 rfl)) rfl (v := 1) kI_1 ?_
      refine EJ_goto 17 (dk_167 (bt bc_Land_has_0 13 rfl) (bt bc_Land_has_0 14 rfl) (bt bc_Land_has_0 15 rfl) (n := 4) rfl) (by decide) ?_
      exact EJ_zret rfl (by decide) (dk_172 (bt bc_Land_has_0 17 rfl))
abbrev Y_Hall_isWithin : Ym := (⟨"RiceHall", "isWithin", "(III)Z"⟩, prog_1_method_42_code, 3, (some FieldType.boolean))
theorem bc_Hall_isWithin_0 : bts prog_1_method_42_code 0 [26, 27, 161, 0, 12, 26, 28, 163, 0, 7, 4, 167, 0, 4, 3, 172] := bts_of (by decide +kernel)
theorem hd_Hall_isWithin : Y_Hall_isWithin.1.cls ≠ "java/lang/invoke/MethodHandle" ∧ Y_Hall_isWithin.1.cls ≠ "java/lang/invoke/VarHandle" ∧ (parseMethodDescriptor Y_Hall_isWithin.1.desc).map (fun d => d.parameters.length) = some 3 := by decide +kernel
def Hall_isWithin (M : Mm) (a0 : Int32) (a1 : Int32) (a2 : Int32) : Option (Int32 × Mm) :=
  if a0 < a1 then (
    some (0, M))
  else (
    if a2 < a0 then (
      some (0, M))
    else (
      some (1, M)))
set_option maxRecDepth 100000 in
set_option maxHeartbeats 4000000 in
theorem s_Hall_isWithin (G : Gx) (M : Mm) (a0 : Int32) (a1 : Int32) (a2 : Int32) : FnS G Y_Hall_isWithin cvI 1 [.int a0, .int a1, .int a2] M (Hall_isWithin M a0 a1 a2) := by
  refine FnS.ofE (by decide) (Nat.le_of_ble_eq_true rfl) ?_
  show EJ G Y_Hall_isWithin cvI 1 0 [(0, .int a0), (1, .int a1), (2, .int a2)] [] M _
  unfold Hall_isWithin
  refine EJ_iload_n 1 0 (dk_26 (bt bc_Hall_isWithin_0 0 rfl)) rfl rfl ?_
  refine EJ_iload_n 2 1 (dk_27 (bt bc_Hall_isWithin_0 1 rfl)) rfl rfl ?_
  refine EJ_icmp_lt 14 5 (dk_161 (bt bc_Hall_isWithin_0 2 rfl) (bt bc_Hall_isWithin_0 3 rfl) (bt bc_Hall_isWithin_0 4 rfl) (n := 12) rfl) (by decide) rfl (fun _ => ?_) (fun _ => ?_)
  · refine EJ_iconst 15 (dk_3 (bt bc_Hall_isWithin_0 14 rfl)) rfl (v := 0) kI_0 ?_
    exact EJ_zret rfl (by decide) (dk_172 (bt bc_Hall_isWithin_0 15 rfl))
  · refine EJ_iload_n 6 0 (dk_26 (bt bc_Hall_isWithin_0 5 rfl)) rfl rfl ?_
    refine EJ_iload_n 7 2 (dk_28 (bt bc_Hall_isWithin_0 6 rfl)) rfl rfl ?_
    refine EJ_icmp_gt 14 10 (dk_163 (bt bc_Hall_isWithin_0 7 rfl) (bt bc_Hall_isWithin_0 8 rfl) (bt bc_Hall_isWithin_0 9 rfl) (n := 7) rfl) (by decide) rfl (fun _ => ?_) (fun _ => ?_)
    · refine EJ_iconst 15 (dk_3 (bt bc_Hall_isWithin_0 14 rfl)) rfl (v := 0) kI_0 ?_
      exact EJ_zret rfl (by decide) (dk_172 (bt bc_Hall_isWithin_0 15 rfl))
    · refine EJ_iconst 11 (dk_4 (bt bc_Hall_isWithin_0 10 rfl)) rfl (v := 1) kI_1 ?_
      refine EJ_goto 15 (dk_167 (bt bc_Hall_isWithin_0 11 rfl) (bt bc_Hall_isWithin_0 12 rfl) (bt bc_Hall_isWithin_0 13 rfl) (n := 4) rfl) (by decide) ?_
      exact EJ_zret rfl (by decide) (dk_172 (bt bc_Hall_isWithin_0 15 rfl))
abbrev Y_Land_setFog : Ym := (⟨"RiceHall$Land", "setFog", "(III)Z"⟩, prog_6_method_4_code, 4, (some FieldType.boolean))
theorem bc_Land_setFog_0 : bts prog_6_method_4_code 0 [42, 27, 182, 0, 41, 154, 0, 5, 3, 172, 28, 2, 160, 0, 12, 42, 180, 0, 9, 27, 2, 79, 4, 172, 28, 3, 17, 5, 159, 184, 0, 45] := bts_of (by decide +kernel)
theorem bc_Land_setFog_1 : bts prog_6_method_4_code 32 [153, 0, 14, 29, 3, 17, 5, 159, 184, 0, 45, 154, 0, 5, 3, 172, 42, 180, 0, 9, 27, 28, 79, 42, 180, 0, 15, 27, 29, 79, 4, 172] := bts_of (by decide +kernel)
theorem hd_Land_setFog : Y_Land_setFog.1.cls = RX4 ∧ Y_Land_setFog.1.cls ≠ "java/lang/invoke/MethodHandle" ∧ Y_Land_setFog.1.cls ≠ "java/lang/invoke/VarHandle" ∧ (parseMethodDescriptor Y_Land_setFog.1.desc).map (fun d => d.parameters.length) = some 3 := by decide +kernel
def Land_setFog (M : Mm) (a0 : Nat) (a1 : Int32) (a2 : Int32) (a3 : Int32) : Option (Int32 × Mm) :=
  ck (kO M a0 4 7) (
  bd (Land_has M a0 a1) (fun r2 M3 =>
  if r2 = 0 then (
    some (0, M3))
  else (
    if a2 = (-1) then (
      ck (kO M3 a0 4 7) (
      nn (mR M3 a0 0) (fun b16 =>
      ck (kA M3 b16 20 a1) (
      let M18 := sI M3 b16 (ix a1) (-1)
      some (1, M18)))))
    else (
      bd (Hall_isWithin M3 a2 0 1439) (fun r4 M5 =>
      if r4 = 0 then (
        some (0, M5))
      else (
        bd (Hall_isWithin M5 a3 0 1439) (fun r6 M7 =>
        if r6 = 0 then (
          some (0, M7))
        else (
          ck (kO M7 a0 4 7) (
          nn (mR M7 a0 0) (fun b9 =>
          ck (kA M7 b9 20 a1) (
          let M11 := sI M7 b9 (ix a1) a2
          nn (mR M11 a0 1) (fun b12 =>
          ck (kA M11 b12 20 a1) (
          let M14 := sI M11 b12 (ix a1) a3
          some (1, M14))))))))))))))
set_option maxRecDepth 100000 in
set_option maxHeartbeats 4000000 in
theorem s_Land_setFog (G : Gx) (M : Mm) (a0 : Nat) (a1 : Int32) (a2 : Int32) (a3 : Int32) : FnS G Y_Land_setFog cvI 2 [.ref a0, .int a1, .int a2, .int a3] M (Land_setFog M a0 a1 a2 a3) := by
  refine FnS.ofE (by decide) (Nat.le_of_ble_eq_true rfl) ?_
  show EJ G Y_Land_setFog cvI 2 0 [(0, .ref a0), (1, .int a1), (2, .int a2), (3, .int a3)] [] M _
  unfold Land_setFog
  refine EJ_aload_n 1 0 (dk_42 (bt bc_Land_setFog_0 0 rfl)) rfl rfl ?_
  refine EJ_iload_n 2 1 (dk_27 (bt bc_Land_setFog_0 1 rfl)) rfl rfl ?_
  refine EJ_ck (fun h1 => ?_)
  refine EJ_callVi (Y2 := Y_Land_has) 5 cf4 (s_Land_has G _ _ _) (of_decide_eq_true h1) rfl (dk_182 (bt bc_Land_setFog_0 2 rfl) (bt bc_Land_setFog_0 3 rfl) (bt bc_Land_setFog_0 4 rfl) (n := 41) rfl) rfl tw_271 tw_272 tw_273 tw_274 hd_Land_has rfl (by decide) (Nat.le_of_ble_eq_true rfl) (fun r2 M3 => ?_)
  refine EJ_if_ne 10 8 (dk_154 (bt bc_Land_setFog_0 5 rfl) (bt bc_Land_setFog_0 6 rfl) (bt bc_Land_setFog_0 7 rfl) (n := 5) rfl) (by decide) rfl (fun _ => ?_) (fun _ => ?_)
  · refine EJ_iload_n 11 2 (dk_28 (bt bc_Land_setFog_0 10 rfl)) rfl rfl ?_
    refine EJ_iconst 12 (dk_2 (bt bc_Land_setFog_0 11 rfl)) rfl (v := (-1)) kI_m1 ?_
    refine EJ_icmp_ne 24 15 (dk_160 (bt bc_Land_setFog_0 12 rfl) (bt bc_Land_setFog_0 13 rfl) (bt bc_Land_setFog_0 14 rfl) (n := 12) rfl) (by decide) rfl (fun _ => ?_) (fun _ => ?_)
    · refine EJ_iload_n 25 2 (dk_28 (bt bc_Land_setFog_0 24 rfl)) rfl rfl ?_
      refine EJ_iconst 26 (dk_3 (bt bc_Land_setFog_0 25 rfl)) rfl (v := 0) kI_0 ?_
      refine EJ_sipush 29 (dk_17 (bt bc_Land_setFog_0 26 rfl) (bt bc_Land_setFog_0 27 rfl) (bt bc_Land_setFog_0 28 rfl) (n := 1439) rfl) rfl (v := 1439) kS_1439 ?_
      refine EJ_callNi (Y2 := Y_Hall_isWithin) 32 (s_Hall_isWithin G _ _ _ _) rfl (dk_184 (bt bc_Land_setFog_0 29 rfl) (bt bc_Land_setFog_0 30 rfl) (bt bc_Land_setFog_0 31 rfl) (n := 45) rfl) rfl (fun _ h => h.2.2.2.2.2.2.2.2.1) tw_276 tw_1 tw_277 hd_Hall_isWithin rfl (by decide) (Nat.le_of_ble_eq_true rfl) (fun r4 M5 => ?_)
      refine EJ_if_eq 46 35 (dk_153 (bt bc_Land_setFog_1 0 rfl) (bt bc_Land_setFog_1 1 rfl) (bt bc_Land_setFog_1 2 rfl) (n := 14) rfl) (by decide) rfl (fun _ => ?_) (fun _ => ?_)
      · refine EJ_iconst 47 (dk_3 (bt bc_Land_setFog_1 14 rfl)) rfl (v := 0) kI_0 ?_
        exact EJ_zret rfl (by decide) (dk_172 (bt bc_Land_setFog_1 15 rfl))
      · refine EJ_iload_n 36 3 (dk_29 (bt bc_Land_setFog_1 3 rfl)) rfl rfl ?_
        refine EJ_iconst 37 (dk_3 (bt bc_Land_setFog_1 4 rfl)) rfl (v := 0) kI_0 ?_
        refine EJ_sipush 40 (dk_17 (bt bc_Land_setFog_1 5 rfl) (bt bc_Land_setFog_1 6 rfl) (bt bc_Land_setFog_1 7 rfl) (n := 1439) rfl) rfl (v := 1439) kS_1439 ?_
        refine EJ_callNi (Y2 := Y_Hall_isWithin) 43 (s_Hall_isWithin G _ _ _ _) rfl (dk_184 (bt bc_Land_setFog_1 8 rfl) (bt bc_Land_setFog_1 9 rfl) (bt bc_Land_setFog_1 10 rfl) (n := 45) rfl) rfl (fun _ h => h.2.2.2.2.2.2.2.2.1) tw_276 tw_1 tw_277 hd_Hall_isWithin rfl (by decide) (Nat.le_of_ble_eq_true rfl) (fun r6 M7 => ?_)
        refine EJ_if_ne 48 46 (dk_154 (bt bc_Land_setFog_1 11 rfl) (bt bc_Land_setFog_1 12 rfl) (bt bc_Land_setFog_1 13 rfl) (n := 5) rfl) (by decide) rfl (fun _ => ?_) (fun _ => ?_)
        · refine EJ_aload_n 49 0 (dk_42 (bt bc_Land_setFog_1 16 rfl)) rfl rfl ?_
          refine EJ_ck (fun h8 => ?_)
          refine EJ_getR cf4 0 (by decide) 52 tw_38 (fun _ _ _ => rfl) (dk_180 (bt bc_Land_setFog_1 17 rfl) (bt bc_Land_setFog_1 18 rfl) (bt bc_Land_setFog_1 19 rfl) (n := 9) rfl) rfl (of_decide_eq_true h8) (fun b9 => ?_)
          refine EJ_iload_n 53 1 (dk_27 (bt bc_Land_setFog_1 20 rfl)) rfl rfl ?_
          refine EJ_iload_n 54 2 (dk_28 (bt bc_Land_setFog_1 21 rfl)) rfl rfl ?_
          refine EJ_ck (fun h10 => ?_)
          refine EJ_iast 55 h10 (dk_79 (bt bc_Land_setFog_1 22 rfl)) rfl ?_
          refine EJ_aload_n 56 0 (dk_42 (bt bc_Land_setFog_1 23 rfl)) rfl rfl ?_
          refine EJ_getR cf4 1 (by decide) 59 tw_39 (fun _ _ _ => rfl) (dk_180 (bt bc_Land_setFog_1 24 rfl) (bt bc_Land_setFog_1 25 rfl) (bt bc_Land_setFog_1 26 rfl) (n := 15) rfl) rfl (kp_I (of_decide_eq_true h8)) (fun b12 => ?_)
          refine EJ_iload_n 60 1 (dk_27 (bt bc_Land_setFog_1 27 rfl)) rfl rfl ?_
          refine EJ_iload_n 61 3 (dk_29 (bt bc_Land_setFog_1 28 rfl)) rfl rfl ?_
          refine EJ_ck (fun h13 => ?_)
          refine EJ_iast 62 h13 (dk_79 (bt bc_Land_setFog_1 29 rfl)) rfl ?_
          refine EJ_iconst 63 (dk_4 (bt bc_Land_setFog_1 30 rfl)) rfl (v := 1) kI_1 ?_
          exact EJ_zret rfl (by decide) (dk_172 (bt bc_Land_setFog_1 31 rfl))
        · refine EJ_iconst 47 (dk_3 (bt bc_Land_setFog_1 14 rfl)) rfl (v := 0) kI_0 ?_
          exact EJ_zret rfl (by decide) (dk_172 (bt bc_Land_setFog_1 15 rfl))
    · refine EJ_aload_n 16 0 (dk_42 (bt bc_Land_setFog_0 15 rfl)) rfl rfl ?_
      refine EJ_ck (fun h15 => ?_)
      refine EJ_getR cf4 0 (by decide) 19 tw_38 (fun _ _ _ => rfl) (dk_180 (bt bc_Land_setFog_0 16 rfl) (bt bc_Land_setFog_0 17 rfl) (bt bc_Land_setFog_0 18 rfl) (n := 9) rfl) rfl (of_decide_eq_true h15) (fun b16 => ?_)
      refine EJ_iload_n 20 1 (dk_27 (bt bc_Land_setFog_0 19 rfl)) rfl rfl ?_
      refine EJ_iconst 21 (dk_2 (bt bc_Land_setFog_0 20 rfl)) rfl (v := (-1)) kI_m1 ?_
      refine EJ_ck (fun h17 => ?_)
      refine EJ_iast 22 h17 (dk_79 (bt bc_Land_setFog_0 21 rfl)) rfl ?_
      refine EJ_iconst 23 (dk_4 (bt bc_Land_setFog_0 22 rfl)) rfl (v := 1) kI_1 ?_
      exact EJ_zret rfl (by decide) (dk_172 (bt bc_Land_setFog_0 23 rfl))
  · refine EJ_iconst 9 (dk_3 (bt bc_Land_setFog_0 8 rfl)) rfl (v := 0) kI_0 ?_
    exact EJ_zret rfl (by decide) (dk_172 (bt bc_Land_setFog_0 9 rfl))
abbrev Y_Land_setRoad : Ym := (⟨"RiceHall$Land", "setRoad", "(IIII)Z"⟩, prog_6_method_5_code, 5, (some FieldType.boolean))
theorem bc_Land_setRoad_0 : bts prog_6_method_5_code 0 [42, 27, 182, 0, 41, 153, 0, 39, 42, 28, 182, 0, 41, 153, 0, 31, 27, 28, 159, 0, 26, 29, 3, 17, 0, 200, 184, 0, 45, 153, 0, 15] := bts_of (by decide +kernel)
theorem bc_Land_setRoad_1 : bts prog_6_method_5_code 32 [21, 4, 4, 17, 7, 208, 184, 0, 45, 154, 0, 5, 3, 172, 42, 180, 0, 18, 27, 16, 10, 104, 28, 96, 29, 79, 42, 180, 0, 18, 28, 16] := bts_of (by decide +kernel)
theorem bc_Land_setRoad_2 : bts prog_6_method_5_code 64 [10, 104, 27, 96, 29, 79, 42, 180, 0, 21, 27, 16, 10, 104, 28, 96, 21, 4, 79, 42, 180, 0, 21, 28, 16, 10, 104, 27, 96, 21, 4, 79] := bts_of (by decide +kernel)
theorem bc_Land_setRoad_3 : bts prog_6_method_5_code 96 [4, 172] := bts_of (by decide +kernel)
theorem hd_Land_setRoad : Y_Land_setRoad.1.cls = RX4 ∧ Y_Land_setRoad.1.cls ≠ "java/lang/invoke/MethodHandle" ∧ Y_Land_setRoad.1.cls ≠ "java/lang/invoke/VarHandle" ∧ (parseMethodDescriptor Y_Land_setRoad.1.desc).map (fun d => d.parameters.length) = some 4 := by decide +kernel
def Land_setRoad (M : Mm) (a0 : Nat) (a1 : Int32) (a2 : Int32) (a3 : Int32) (a4 : Int32) : Option (Int32 × Mm) :=
  ck (kO M a0 4 7) (
  bd (Land_has M a0 a1) (fun r2 M3 =>
  if r2 = 0 then (
    some (0, M3))
  else (
    ck (kO M3 a0 4 7) (
    bd (Land_has M3 a0 a2) (fun r5 M6 =>
    if r5 = 0 then (
      some (0, M6))
    else (
      if a1 = a2 then (
        some (0, M6))
      else (
        bd (Hall_isWithin M6 a3 0 200) (fun r7 M8 =>
        if r7 = 0 then (
          some (0, M8))
        else (
          bd (Hall_isWithin M8 a4 1 2000) (fun r9 M10 =>
          if r9 = 0 then (
            some (0, M10))
          else (
            ck (kO M10 a0 4 7) (
            nn (mR M10 a0 2) (fun b12 =>
            ck (kA M10 b12 20 ((a1 * 10) + a2)) (
            let M14 := sI M10 b12 (ix ((a1 * 10) + a2)) a3
            nn (mR M14 a0 2) (fun b15 =>
            ck (kA M14 b15 20 ((a2 * 10) + a1)) (
            let M17 := sI M14 b15 (ix ((a2 * 10) + a1)) a3
            nn (mR M17 a0 3) (fun b18 =>
            ck (kA M17 b18 20 ((a1 * 10) + a2)) (
            let M20 := sI M17 b18 (ix ((a1 * 10) + a2)) a4
            nn (mR M20 a0 3) (fun b21 =>
            ck (kA M20 b21 20 ((a2 * 10) + a1)) (
            let M23 := sI M20 b21 (ix ((a2 * 10) + a1)) a4
            some (1, M23)))))))))))))))))))))
set_option maxRecDepth 100000 in
set_option maxHeartbeats 4000000 in
theorem s_Land_setRoad (G : Gx) (M : Mm) (a0 : Nat) (a1 : Int32) (a2 : Int32) (a3 : Int32) (a4 : Int32) : FnS G Y_Land_setRoad cvI 2 [.ref a0, .int a1, .int a2, .int a3, .int a4] M (Land_setRoad M a0 a1 a2 a3 a4) := by
  refine FnS.ofE (by decide) (Nat.le_of_ble_eq_true rfl) ?_
  show EJ G Y_Land_setRoad cvI 2 0 [(0, .ref a0), (1, .int a1), (2, .int a2), (3, .int a3), (4, .int a4)] [] M _
  unfold Land_setRoad
  refine EJ_aload_n 1 0 (dk_42 (bt bc_Land_setRoad_0 0 rfl)) rfl rfl ?_
  refine EJ_iload_n 2 1 (dk_27 (bt bc_Land_setRoad_0 1 rfl)) rfl rfl ?_
  refine EJ_ck (fun h1 => ?_)
  refine EJ_callVi (Y2 := Y_Land_has) 5 cf4 (s_Land_has G _ _ _) (of_decide_eq_true h1) rfl (dk_182 (bt bc_Land_setRoad_0 2 rfl) (bt bc_Land_setRoad_0 3 rfl) (bt bc_Land_setRoad_0 4 rfl) (n := 41) rfl) rfl tw_271 tw_272 tw_273 tw_274 hd_Land_has rfl (by decide) (Nat.le_of_ble_eq_true rfl) (fun r2 M3 => ?_)
  refine EJ_if_eq 44 8 (dk_153 (bt bc_Land_setRoad_0 5 rfl) (bt bc_Land_setRoad_0 6 rfl) (bt bc_Land_setRoad_0 7 rfl) (n := 39) rfl) (by decide) rfl (fun _ => ?_) (fun _ => ?_)
  · refine EJ_iconst 45 (dk_3 (bt bc_Land_setRoad_1 12 rfl)) rfl (v := 0) kI_0 ?_
    exact EJ_zret rfl (by decide) (dk_172 (bt bc_Land_setRoad_1 13 rfl))
  · refine EJ_aload_n 9 0 (dk_42 (bt bc_Land_setRoad_0 8 rfl)) rfl rfl ?_
    refine EJ_iload_n 10 2 (dk_28 (bt bc_Land_setRoad_0 9 rfl)) rfl rfl ?_
    refine EJ_ck (fun h4 => ?_)
    refine EJ_callVi (Y2 := Y_Land_has) 13 cf4 (s_Land_has G _ _ _) (of_decide_eq_true h4) rfl (dk_182 (bt bc_Land_setRoad_0 10 rfl) (bt bc_Land_setRoad_0 11 rfl) (bt bc_Land_setRoad_0 12 rfl) (n := 41) rfl) rfl tw_271 tw_272 tw_273 tw_274 hd_Land_has rfl (by decide) (Nat.le_of_ble_eq_true rfl) (fun r5 M6 => ?_)
    refine EJ_if_eq 44 16 (dk_153 (bt bc_Land_setRoad_0 13 rfl) (bt bc_Land_setRoad_0 14 rfl) (bt bc_Land_setRoad_0 15 rfl) (n := 31) rfl) (by decide) rfl (fun _ => ?_) (fun _ => ?_)
    · refine EJ_iconst 45 (dk_3 (bt bc_Land_setRoad_1 12 rfl)) rfl (v := 0) kI_0 ?_
      exact EJ_zret rfl (by decide) (dk_172 (bt bc_Land_setRoad_1 13 rfl))
    · refine EJ_iload_n 17 1 (dk_27 (bt bc_Land_setRoad_0 16 rfl)) rfl rfl ?_
      refine EJ_iload_n 18 2 (dk_28 (bt bc_Land_setRoad_0 17 rfl)) rfl rfl ?_
      refine EJ_icmp_eq 44 21 (dk_159 (bt bc_Land_setRoad_0 18 rfl) (bt bc_Land_setRoad_0 19 rfl) (bt bc_Land_setRoad_0 20 rfl) (n := 26) rfl) (by decide) rfl (fun _ => ?_) (fun _ => ?_)
      · refine EJ_iconst 45 (dk_3 (bt bc_Land_setRoad_1 12 rfl)) rfl (v := 0) kI_0 ?_
        exact EJ_zret rfl (by decide) (dk_172 (bt bc_Land_setRoad_1 13 rfl))
      · refine EJ_iload_n 22 3 (dk_29 (bt bc_Land_setRoad_0 21 rfl)) rfl rfl ?_
        refine EJ_iconst 23 (dk_3 (bt bc_Land_setRoad_0 22 rfl)) rfl (v := 0) kI_0 ?_
        refine EJ_sipush 26 (dk_17 (bt bc_Land_setRoad_0 23 rfl) (bt bc_Land_setRoad_0 24 rfl) (bt bc_Land_setRoad_0 25 rfl) (n := 200) rfl) rfl (v := 200) kS_200 ?_
        refine EJ_callNi (Y2 := Y_Hall_isWithin) 29 (s_Hall_isWithin G _ _ _ _) rfl (dk_184 (bt bc_Land_setRoad_0 26 rfl) (bt bc_Land_setRoad_0 27 rfl) (bt bc_Land_setRoad_0 28 rfl) (n := 45) rfl) rfl (fun _ h => h.2.2.2.2.2.2.2.2.1) tw_276 tw_1 tw_277 hd_Hall_isWithin rfl (by decide) (Nat.le_of_ble_eq_true rfl) (fun r7 M8 => ?_)
        refine EJ_if_eq 44 32 (dk_153 (bt bc_Land_setRoad_0 29 rfl) (bt bc_Land_setRoad_0 30 rfl) (bt bc_Land_setRoad_0 31 rfl) (n := 15) rfl) (by decide) rfl (fun _ => ?_) (fun _ => ?_)
        · refine EJ_iconst 45 (dk_3 (bt bc_Land_setRoad_1 12 rfl)) rfl (v := 0) kI_0 ?_
          exact EJ_zret rfl (by decide) (dk_172 (bt bc_Land_setRoad_1 13 rfl))
        · refine EJ_iload 34 4 (dk_21 (bt bc_Land_setRoad_1 0 rfl) (bt bc_Land_setRoad_1 1 rfl)) rfl rfl ?_
          refine EJ_iconst 35 (dk_4 (bt bc_Land_setRoad_1 2 rfl)) rfl (v := 1) kI_1 ?_
          refine EJ_sipush 38 (dk_17 (bt bc_Land_setRoad_1 3 rfl) (bt bc_Land_setRoad_1 4 rfl) (bt bc_Land_setRoad_1 5 rfl) (n := 2000) rfl) rfl (v := 2000) kS_2000 ?_
          refine EJ_callNi (Y2 := Y_Hall_isWithin) 41 (s_Hall_isWithin G _ _ _ _) rfl (dk_184 (bt bc_Land_setRoad_1 6 rfl) (bt bc_Land_setRoad_1 7 rfl) (bt bc_Land_setRoad_1 8 rfl) (n := 45) rfl) rfl (fun _ h => h.2.2.2.2.2.2.2.2.1) tw_276 tw_1 tw_277 hd_Hall_isWithin rfl (by decide) (Nat.le_of_ble_eq_true rfl) (fun r9 M10 => ?_)
          refine EJ_if_ne 46 44 (dk_154 (bt bc_Land_setRoad_1 9 rfl) (bt bc_Land_setRoad_1 10 rfl) (bt bc_Land_setRoad_1 11 rfl) (n := 5) rfl) (by decide) rfl (fun _ => ?_) (fun _ => ?_)
          · refine EJ_aload_n 47 0 (dk_42 (bt bc_Land_setRoad_1 14 rfl)) rfl rfl ?_
            refine EJ_ck (fun h11 => ?_)
            refine EJ_getR cf4 2 (by decide) 50 tw_40 (fun _ _ _ => rfl) (dk_180 (bt bc_Land_setRoad_1 15 rfl) (bt bc_Land_setRoad_1 16 rfl) (bt bc_Land_setRoad_1 17 rfl) (n := 18) rfl) rfl (of_decide_eq_true h11) (fun b12 => ?_)
            refine EJ_iload_n 51 1 (dk_27 (bt bc_Land_setRoad_1 18 rfl)) rfl rfl ?_
            refine EJ_bipush 53 (dk_16 (bt bc_Land_setRoad_1 19 rfl) (bt bc_Land_setRoad_1 20 rfl) (n := 10) rfl) rfl (v := 10) kB_10 ?_
            refine EJ_imul 54 (dk_104 (bt bc_Land_setRoad_1 21 rfl)) rfl ?_
            refine EJ_iload_n 55 2 (dk_28 (bt bc_Land_setRoad_1 22 rfl)) rfl rfl ?_
            refine EJ_iadd 56 (dk_96 (bt bc_Land_setRoad_1 23 rfl)) rfl ?_
            refine EJ_iload_n 57 3 (dk_29 (bt bc_Land_setRoad_1 24 rfl)) rfl rfl ?_
            refine EJ_ck (fun h13 => ?_)
            refine EJ_iast 58 h13 (dk_79 (bt bc_Land_setRoad_1 25 rfl)) rfl ?_
            refine EJ_aload_n 59 0 (dk_42 (bt bc_Land_setRoad_1 26 rfl)) rfl rfl ?_
            refine EJ_getR cf4 2 (by decide) 62 tw_40 (fun _ _ _ => rfl) (dk_180 (bt bc_Land_setRoad_1 27 rfl) (bt bc_Land_setRoad_1 28 rfl) (bt bc_Land_setRoad_1 29 rfl) (n := 18) rfl) rfl (kp_I (of_decide_eq_true h11)) (fun b15 => ?_)
            refine EJ_iload_n 63 2 (dk_28 (bt bc_Land_setRoad_1 30 rfl)) rfl rfl ?_
            refine EJ_bipush 65 (dk_16 (bt bc_Land_setRoad_1 31 rfl) (bt bc_Land_setRoad_2 0 rfl) (n := 10) rfl) rfl (v := 10) kB_10 ?_
            refine EJ_imul 66 (dk_104 (bt bc_Land_setRoad_2 1 rfl)) rfl ?_
            refine EJ_iload_n 67 1 (dk_27 (bt bc_Land_setRoad_2 2 rfl)) rfl rfl ?_
            refine EJ_iadd 68 (dk_96 (bt bc_Land_setRoad_2 3 rfl)) rfl ?_
            refine EJ_iload_n 69 3 (dk_29 (bt bc_Land_setRoad_2 4 rfl)) rfl rfl ?_
            refine EJ_ck (fun h16 => ?_)
            refine EJ_iast 70 h16 (dk_79 (bt bc_Land_setRoad_2 5 rfl)) rfl ?_
            refine EJ_aload_n 71 0 (dk_42 (bt bc_Land_setRoad_2 6 rfl)) rfl rfl ?_
            refine EJ_getR cf4 3 (by decide) 74 tw_41 (fun _ _ _ => rfl) (dk_180 (bt bc_Land_setRoad_2 7 rfl) (bt bc_Land_setRoad_2 8 rfl) (bt bc_Land_setRoad_2 9 rfl) (n := 21) rfl) rfl (kp_I (kp_I (of_decide_eq_true h11))) (fun b18 => ?_)
            refine EJ_iload_n 75 1 (dk_27 (bt bc_Land_setRoad_2 10 rfl)) rfl rfl ?_
            refine EJ_bipush 77 (dk_16 (bt bc_Land_setRoad_2 11 rfl) (bt bc_Land_setRoad_2 12 rfl) (n := 10) rfl) rfl (v := 10) kB_10 ?_
            refine EJ_imul 78 (dk_104 (bt bc_Land_setRoad_2 13 rfl)) rfl ?_
            refine EJ_iload_n 79 2 (dk_28 (bt bc_Land_setRoad_2 14 rfl)) rfl rfl ?_
            refine EJ_iadd 80 (dk_96 (bt bc_Land_setRoad_2 15 rfl)) rfl ?_
            refine EJ_iload 82 4 (dk_21 (bt bc_Land_setRoad_2 16 rfl) (bt bc_Land_setRoad_2 17 rfl)) rfl rfl ?_
            refine EJ_ck (fun h19 => ?_)
            refine EJ_iast 83 h19 (dk_79 (bt bc_Land_setRoad_2 18 rfl)) rfl ?_
            refine EJ_aload_n 84 0 (dk_42 (bt bc_Land_setRoad_2 19 rfl)) rfl rfl ?_
            refine EJ_getR cf4 3 (by decide) 87 tw_41 (fun _ _ _ => rfl) (dk_180 (bt bc_Land_setRoad_2 20 rfl) (bt bc_Land_setRoad_2 21 rfl) (bt bc_Land_setRoad_2 22 rfl) (n := 21) rfl) rfl (kp_I (kp_I (kp_I (of_decide_eq_true h11)))) (fun b21 => ?_)
            refine EJ_iload_n 88 2 (dk_28 (bt bc_Land_setRoad_2 23 rfl)) rfl rfl ?_
            refine EJ_bipush 90 (dk_16 (bt bc_Land_setRoad_2 24 rfl) (bt bc_Land_setRoad_2 25 rfl) (n := 10) rfl) rfl (v := 10) kB_10 ?_
            refine EJ_imul 91 (dk_104 (bt bc_Land_setRoad_2 26 rfl)) rfl ?_
            refine EJ_iload_n 92 1 (dk_27 (bt bc_Land_setRoad_2 27 rfl)) rfl rfl ?_
            refine EJ_iadd 93 (dk_96 (bt bc_Land_setRoad_2 28 rfl)) rfl ?_
            refine EJ_iload 95 4 (dk_21 (bt bc_Land_setRoad_2 29 rfl) (bt bc_Land_setRoad_2 30 rfl)) rfl rfl ?_
            refine EJ_ck (fun h22 => ?_)
            refine EJ_iast 96 h22 (dk_79 (bt bc_Land_setRoad_2 31 rfl)) rfl ?_
            refine EJ_iconst 97 (dk_4 (bt bc_Land_setRoad_3 0 rfl)) rfl (v := 1) kI_1 ?_
            exact EJ_zret rfl (by decide) (dk_172 (bt bc_Land_setRoad_3 1 rfl))
          · refine EJ_iconst 45 (dk_3 (bt bc_Land_setRoad_1 12 rfl)) rfl (v := 0) kI_0 ?_
            exact EJ_zret rfl (by decide) (dk_172 (bt bc_Land_setRoad_1 13 rfl))
abbrev Y_Land_earliestToPassOn : Ym := (⟨"RiceHall$Land", "earliestToPassOn", "()I"⟩, prog_6_method_8_code, 3, (some FieldType.int))
theorem bc_Land_earliestToPassOn_0 : bts prog_6_method_8_code 0 [2, 60, 3, 61, 28, 42, 180, 0, 31, 162, 0, 51, 42, 180, 0, 27, 28, 51, 154, 0, 36, 42, 180, 0, 24, 28, 46, 18, 49, 159, 0, 25] := bts_of (by decide +kernel)
theorem bc_Land_earliestToPassOn_1 : bts prog_6_method_8_code 32 [27, 2, 159, 0, 18, 42, 180, 0, 24, 28, 46, 42, 180, 0, 24, 27, 46, 162, 0, 5, 28, 60, 132, 2, 1, 167, 255, 203, 27, 172] := bts_of (by decide +kernel)
theorem hd_Land_earliestToPassOn : Y_Land_earliestToPassOn.1.cls = RX4 ∧ Y_Land_earliestToPassOn.1.cls ≠ "java/lang/invoke/MethodHandle" ∧ Y_Land_earliestToPassOn.1.cls ≠ "java/lang/invoke/VarHandle" ∧ (parseMethodDescriptor Y_Land_earliestToPassOn.1.desc).map (fun d => d.parameters.length) = some 0 := by decide +kernel
def Land_earliestToPassOn_J54 (k4 : Nat → Int32 → Int32 → Mm → Option (Int32 × Mm)) (x0 : Nat) (x1 : Int32) (x2 : Int32) (M : Mm) : Option (Int32 × Mm) :=
  let v4 : Int32 := x2 + 1
  k4 x0 x1 v4 M
set_option maxRecDepth 100000 in
set_option maxHeartbeats 4000000 in
theorem e_Land_earliestToPassOn_J54 {G : Gx} (k4 : Nat → Int32 → Int32 → Mm → Option (Int32 × Mm)) (hk4 : ∀ (x0 : Nat) (x1 : Int32) (x2 : Int32) (M : Mm), EJ G Y_Land_earliestToPassOn cvI 1 4 [(0, .ref x0), (1, .int x1), (2, .int x2)] [] M (k4 x0 x1 x2 M)) (x0 : Nat) (x1 : Int32) (x2 : Int32) (M : Mm) : EJ G Y_Land_earliestToPassOn cvI 1 54 [(0, .ref x0), (1, .int x1), (2, .int x2)] [] M (Land_earliestToPassOn_J54 k4 x0 x1 x2 M) := by
  unfold Land_earliestToPassOn_J54
  refine EJ_iinc 57 2 (lv2 := [(2, .int _), (0, .ref _), (1, .int _)]) (dk_132 (bt bc_Land_earliestToPassOn_1 22 rfl) (bt bc_Land_earliestToPassOn_1 23 rfl) (bt bc_Land_earliestToPassOn_1 24 rfl) (n := 1) rfl) rfl (by decide) rfl (v := 1) kI_1 rfl ?_
  refine EJ_goto 4 (dk_167 (bt bc_Land_earliestToPassOn_1 25 rfl) (bt bc_Land_earliestToPassOn_1 26 rfl) (bt bc_Land_earliestToPassOn_1 27 rfl) (n := -53) rfl) (by decide) ?_
  exact EJ_pick (lv2 := [(0, .ref _), (1, .int _), (2, .int _)]) [1, 2, 0] rfl (hk4 _ _ _ _)
def Land_earliestToPassOn_J52 (k4 : Nat → Int32 → Int32 → Mm → Option (Int32 × Mm)) (x0 : Nat) (x2 : Int32) (M : Mm) : Option (Int32 × Mm) :=
  Land_earliestToPassOn_J54 k4 x0 x2 x2 M
set_option maxRecDepth 100000 in
set_option maxHeartbeats 4000000 in
theorem e_Land_earliestToPassOn_J52 {G : Gx} (k4 : Nat → Int32 → Int32 → Mm → Option (Int32 × Mm)) (hk4 : ∀ (x0 : Nat) (x1 : Int32) (x2 : Int32) (M : Mm), EJ G Y_Land_earliestToPassOn cvI 1 4 [(0, .ref x0), (1, .int x1), (2, .int x2)] [] M (k4 x0 x1 x2 M)) (x0 : Nat) (x2 : Int32) (M : Mm) : EJ G Y_Land_earliestToPassOn cvI 1 52 [(0, .ref x0), (2, .int x2)] [] M (Land_earliestToPassOn_J52 k4 x0 x2 M) := by
  unfold Land_earliestToPassOn_J52
  refine EJ_iload_n 53 1 (dk_28 (bt bc_Land_earliestToPassOn_1 20 rfl)) rfl rfl ?_
  refine EJ_istore_n 54 (lv2 := [(1, .int _), (0, .ref _), (2, .int _)]) (dk_60 (bt bc_Land_earliestToPassOn_1 21 rfl)) rfl (by decide) rfl ?_
  exact EJ_pick (lv2 := [(0, .ref _), (1, .int _), (2, .int _)]) [1, 0, 2] rfl (e_Land_earliestToPassOn_J54 k4 hk4 _ _ _ _)
def Land_earliestToPassOn_B4 (k4 : Nat → Int32 → Int32 → Mm → Option (Int32 × Mm)) (x0 : Nat) (x1 : Int32) (x2 : Int32) (M : Mm) : Option (Int32 × Mm) :=
  ck (kO M x0 4 7) (
  if (mI M x0 6) ≤ x2 then (
    some (x1, M))
  else (
    nn (mR M x0 5) (fun b2 =>
    ck (kA M b2 22 x2) (
    if (mI M b2 (ix x2)) = 0 then (
      nn (mR M x0 4) (fun b5 =>
      ck (kA M b5 20 x2) (
      if (mI M b5 (ix x2)) = 2147483647 then (
        Land_earliestToPassOn_J54 k4 x0 x1 x2 M)
      else (
        if x1 = (-1) then (
          Land_earliestToPassOn_J52 k4 x0 x2 M)
        else (
          nn (mR M x0 4) (fun b7 =>
          ck (kA M b7 20 x2) (
          nn (mR M x0 4) (fun b9 =>
          ck (kA M b9 20 x1) (
          if (mI M b9 (ix x1)) ≤ (mI M b7 (ix x2)) then (
            Land_earliestToPassOn_J54 k4 x0 x1 x2 M)
          else (
            Land_earliestToPassOn_J52 k4 x0 x2 M))))))))))
    else (
      Land_earliestToPassOn_J54 k4 x0 x1 x2 M)))))
set_option maxRecDepth 100000 in
set_option maxHeartbeats 4000000 in
theorem e_Land_earliestToPassOn_B4 {G : Gx} (k4 : Nat → Int32 → Int32 → Mm → Option (Int32 × Mm)) (hk4 : ∀ (x0 : Nat) (x1 : Int32) (x2 : Int32) (M : Mm), EJ G Y_Land_earliestToPassOn cvI 1 4 [(0, .ref x0), (1, .int x1), (2, .int x2)] [] M (k4 x0 x1 x2 M)) (x0 : Nat) (x1 : Int32) (x2 : Int32) (M : Mm) : EJ G Y_Land_earliestToPassOn cvI 1 4 [(0, .ref x0), (1, .int x1), (2, .int x2)] [] M (Land_earliestToPassOn_B4 k4 x0 x1 x2 M) := by
  unfold Land_earliestToPassOn_B4
  refine EJ_iload_n 5 2 (dk_28 (bt bc_Land_earliestToPassOn_0 4 rfl)) rfl rfl ?_
  refine EJ_aload_n 6 0 (dk_42 (bt bc_Land_earliestToPassOn_0 5 rfl)) rfl rfl ?_
  refine EJ_ck (fun h1 => ?_)
  refine EJ_getI cf4 6 (by decide) 9 tw_44 (fun _ _ _ => rfl) (dk_180 (bt bc_Land_earliestToPassOn_0 6 rfl) (bt bc_Land_earliestToPassOn_0 7 rfl) (bt bc_Land_earliestToPassOn_0 8 rfl) (n := 31) rfl) rfl (of_decide_eq_true h1) ?_
  refine EJ_icmp_ge 60 12 (dk_162 (bt bc_Land_earliestToPassOn_0 9 rfl) (bt bc_Land_earliestToPassOn_0 10 rfl) (bt bc_Land_earliestToPassOn_0 11 rfl) (n := 51) rfl) (by decide) rfl (fun _ => ?_) (fun _ => ?_)
  · refine EJ_iload_n 61 1 (dk_27 (bt bc_Land_earliestToPassOn_1 28 rfl)) rfl rfl ?_
    exact EJ_iret rfl (dk_172 (bt bc_Land_earliestToPassOn_1 29 rfl))
  · refine EJ_aload_n 13 0 (dk_42 (bt bc_Land_earliestToPassOn_0 12 rfl)) rfl rfl ?_
    refine EJ_getR cf4 5 (by decide) 16 tw_43 (fun _ _ _ => rfl) (dk_180 (bt bc_Land_earliestToPassOn_0 13 rfl) (bt bc_Land_earliestToPassOn_0 14 rfl) (bt bc_Land_earliestToPassOn_0 15 rfl) (n := 27) rfl) rfl (of_decide_eq_true h1) (fun b2 => ?_)
    refine EJ_iload_n 17 2 (dk_28 (bt bc_Land_earliestToPassOn_0 16 rfl)) rfl rfl ?_
    refine EJ_ck (fun h3 => ?_)
    refine EJ_zald 18 h3 (dk_51 (bt bc_Land_earliestToPassOn_0 17 rfl)) rfl ?_
    refine EJ_if_ne 54 21 (dk_154 (bt bc_Land_earliestToPassOn_0 18 rfl) (bt bc_Land_earliestToPassOn_0 19 rfl) (bt bc_Land_earliestToPassOn_0 20 rfl) (n := 36) rfl) (by decide) rfl (fun _ => ?_) (fun _ => ?_)
    · exact EJ_pick (lv2 := [(0, .ref _), (1, .int _), (2, .int _)]) [0, 1, 2] rfl (e_Land_earliestToPassOn_J54 k4 hk4 _ _ _ _)
    · refine EJ_aload_n 22 0 (dk_42 (bt bc_Land_earliestToPassOn_0 21 rfl)) rfl rfl ?_
      refine EJ_getR cf4 4 (by decide) 25 tw_42 (fun _ _ _ => rfl) (dk_180 (bt bc_Land_earliestToPassOn_0 22 rfl) (bt bc_Land_earliestToPassOn_0 23 rfl) (bt bc_Land_earliestToPassOn_0 24 rfl) (n := 24) rfl) rfl (of_decide_eq_true h1) (fun b5 => ?_)
      refine EJ_iload_n 26 2 (dk_28 (bt bc_Land_earliestToPassOn_0 25 rfl)) rfl rfl ?_
      refine EJ_ck (fun h6 => ?_)
      refine EJ_iald 27 h6 (dk_46 (bt bc_Land_earliestToPassOn_0 26 rfl)) rfl ?_
      refine EJ_ldc 29 (dk_18 (bt bc_Land_earliestToPassOn_0 27 rfl) (bt bc_Land_earliestToPassOn_0 28 rfl)) rfl tw_297 ?_
      refine EJ_icmp_eq 54 32 (dk_159 (bt bc_Land_earliestToPassOn_0 29 rfl) (bt bc_Land_earliestToPassOn_0 30 rfl) (bt bc_Land_earliestToPassOn_0 31 rfl) (n := 25) rfl) (by decide) rfl (fun _ => ?_) (fun _ => ?_)
      · exact EJ_pick (lv2 := [(0, .ref _), (1, .int _), (2, .int _)]) [0, 1, 2] rfl (e_Land_earliestToPassOn_J54 k4 hk4 _ _ _ _)
      · refine EJ_iload_n 33 1 (dk_27 (bt bc_Land_earliestToPassOn_1 0 rfl)) rfl rfl ?_
        refine EJ_iconst 34 (dk_2 (bt bc_Land_earliestToPassOn_1 1 rfl)) rfl (v := (-1)) kI_m1 ?_
        refine EJ_icmp_eq 52 37 (dk_159 (bt bc_Land_earliestToPassOn_1 2 rfl) (bt bc_Land_earliestToPassOn_1 3 rfl) (bt bc_Land_earliestToPassOn_1 4 rfl) (n := 18) rfl) (by decide) rfl (fun _ => ?_) (fun _ => ?_)
        · exact EJ_pick (lv2 := [(0, .ref _), (2, .int _)]) [0, 2] rfl (e_Land_earliestToPassOn_J52 k4 hk4 _ _ _)
        · refine EJ_aload_n 38 0 (dk_42 (bt bc_Land_earliestToPassOn_1 5 rfl)) rfl rfl ?_
          refine EJ_getR cf4 4 (by decide) 41 tw_42 (fun _ _ _ => rfl) (dk_180 (bt bc_Land_earliestToPassOn_1 6 rfl) (bt bc_Land_earliestToPassOn_1 7 rfl) (bt bc_Land_earliestToPassOn_1 8 rfl) (n := 24) rfl) rfl (of_decide_eq_true h1) (fun b7 => ?_)
          refine EJ_iload_n 42 2 (dk_28 (bt bc_Land_earliestToPassOn_1 9 rfl)) rfl rfl ?_
          refine EJ_ck (fun h8 => ?_)
          refine EJ_iald 43 h8 (dk_46 (bt bc_Land_earliestToPassOn_1 10 rfl)) rfl ?_
          refine EJ_aload_n 44 0 (dk_42 (bt bc_Land_earliestToPassOn_1 11 rfl)) rfl rfl ?_
          refine EJ_getR cf4 4 (by decide) 47 tw_42 (fun _ _ _ => rfl) (dk_180 (bt bc_Land_earliestToPassOn_1 12 rfl) (bt bc_Land_earliestToPassOn_1 13 rfl) (bt bc_Land_earliestToPassOn_1 14 rfl) (n := 24) rfl) rfl (of_decide_eq_true h1) (fun b9 => ?_)
          refine EJ_iload_n 48 1 (dk_27 (bt bc_Land_earliestToPassOn_1 15 rfl)) rfl rfl ?_
          refine EJ_ck (fun h10 => ?_)
          refine EJ_iald 49 h10 (dk_46 (bt bc_Land_earliestToPassOn_1 16 rfl)) rfl ?_
          refine EJ_icmp_ge 54 52 (dk_162 (bt bc_Land_earliestToPassOn_1 17 rfl) (bt bc_Land_earliestToPassOn_1 18 rfl) (bt bc_Land_earliestToPassOn_1 19 rfl) (n := 5) rfl) (by decide) rfl (fun _ => ?_) (fun _ => ?_)
          · exact EJ_pick (lv2 := [(0, .ref _), (1, .int _), (2, .int _)]) [0, 1, 2] rfl (e_Land_earliestToPassOn_J54 k4 hk4 _ _ _ _)
          · exact EJ_pick (lv2 := [(0, .ref _), (2, .int _)]) [0, 2] rfl (e_Land_earliestToPassOn_J52 k4 hk4 _ _ _)
def Land_earliestToPassOn_L4 (n : Nat) : Nat → Int32 → Int32 → Mm → Option (Int32 × Mm) :=
  match n with
  | 0 => fun _ _ _ _ => none
  | n + 1 => Land_earliestToPassOn_B4 (Land_earliestToPassOn_L4 n)
theorem e_Land_earliestToPassOn_L4 {G : Gx} : ∀ (n : Nat) (x0 : Nat) (x1 : Int32) (x2 : Int32) (M : Mm), EJ G Y_Land_earliestToPassOn cvI 1 4 [(0, .ref x0), (1, .int x1), (2, .int x2)] [] M (Land_earliestToPassOn_L4 n x0 x1 x2 M) := by
  intro n
  induction n with
  | zero => intros; exact EJ_none
  | succ n ih => intro x0 x1 x2 M; exact e_Land_earliestToPassOn_B4 _ ih x0 x1 x2 M
def Land_earliestToPassOn (M : Mm) (a0 : Nat) : Option (Int32 × Mm) :=
  Land_earliestToPassOn_L4 fu a0 (-1) 0 M
set_option maxRecDepth 100000 in
set_option maxHeartbeats 4000000 in
theorem s_Land_earliestToPassOn (G : Gx) (M : Mm) (a0 : Nat) : FnS G Y_Land_earliestToPassOn cvI 1 [.ref a0] M (Land_earliestToPassOn M a0) := by
  refine FnS.ofE (by decide) (Nat.le_of_ble_eq_true rfl) ?_
  show EJ G Y_Land_earliestToPassOn cvI 1 0 [(0, .ref a0)] [] M _
  unfold Land_earliestToPassOn
  refine EJ_iconst 1 (dk_2 (bt bc_Land_earliestToPassOn_0 0 rfl)) rfl (v := (-1)) kI_m1 ?_
  refine EJ_istore_n 2 (lv2 := [(1, .int _), (0, .ref _)]) (dk_60 (bt bc_Land_earliestToPassOn_0 1 rfl)) rfl (by decide) rfl ?_
  refine EJ_iconst 3 (dk_3 (bt bc_Land_earliestToPassOn_0 2 rfl)) rfl (v := 0) kI_0 ?_
  refine EJ_istore_n 4 (lv2 := [(2, .int _), (1, .int _), (0, .ref _)]) (dk_61 (bt bc_Land_earliestToPassOn_0 3 rfl)) rfl (by decide) rfl ?_
  exact EJ_pick (lv2 := [(0, .ref _), (1, .int _), (2, .int _)]) [2, 1, 0] rfl (e_Land_earliestToPassOn_L4 fu _ _ _ _)
abbrev Y_Land_pastNight : Ym := (⟨"RiceHall$Land", "pastNight", "(I)I"⟩, prog_6_method_12_code, 2, (some FieldType.int))
theorem bc_Land_pastNight_0 : bts prog_6_method_12_code 0 [26, 17, 5, 160, 112, 60, 27, 17, 1, 104, 162, 0, 11, 26, 17, 1, 104, 96, 27, 100, 172, 27, 17, 4, 55, 164, 0, 17, 26, 17, 5, 160] := bts_of (by decide +kernel)
theorem bc_Land_pastNight_1 : bts prog_6_method_12_code 32 [96, 17, 1, 104, 96, 27, 100, 167, 0, 4, 26, 172] := bts_of (by decide +kernel)
theorem hd_Land_pastNight : Y_Land_pastNight.1.cls ≠ "java/lang/invoke/MethodHandle" ∧ Y_Land_pastNight.1.cls ≠ "java/lang/invoke/VarHandle" ∧ (parseMethodDescriptor Y_Land_pastNight.1.desc).map (fun d => d.parameters.length) = some 1 := by decide +kernel
def Land_pastNight (M : Mm) (a0 : Int32) : Option (Int32 × Mm) :=
  let v1 : Int32 := rm a0 1440
  if 360 ≤ v1 then (
    if v1 ≤ 1079 then (
      some (a0, M))
    else (
      some (((a0 + 1440) + 360) - v1, M)))
  else (
    some ((a0 + 360) - v1, M))
set_option maxRecDepth 100000 in
set_option maxHeartbeats 4000000 in
theorem s_Land_pastNight (G : Gx) (M : Mm) (a0 : Int32) : FnS G Y_Land_pastNight cvI 1 [.int a0] M (Land_pastNight M a0) := by
  refine FnS.ofE (by decide) (Nat.le_of_ble_eq_true rfl) ?_
  show EJ G Y_Land_pastNight cvI 1 0 [(0, .int a0)] [] M _
  unfold Land_pastNight
  refine EJ_iload_n 1 0 (dk_26 (bt bc_Land_pastNight_0 0 rfl)) rfl rfl ?_
  refine EJ_sipush 4 (dk_17 (bt bc_Land_pastNight_0 1 rfl) (bt bc_Land_pastNight_0 2 rfl) (bt bc_Land_pastNight_0 3 rfl) (n := 1440) rfl) rfl (v := 1440) kS_1440 ?_
  refine EJ_irem 5 (dk_112 (bt bc_Land_pastNight_0 4 rfl)) rfl (by decide) ?_
  refine EJ_istore_n 6 (lv2 := [(1, .int _), (0, .int _)]) (dk_60 (bt bc_Land_pastNight_0 5 rfl)) rfl (by decide) rfl ?_
  refine EJ_iload_n 7 0 (dk_27 (bt bc_Land_pastNight_0 6 rfl)) rfl rfl ?_
  refine EJ_sipush 10 (dk_17 (bt bc_Land_pastNight_0 7 rfl) (bt bc_Land_pastNight_0 8 rfl) (bt bc_Land_pastNight_0 9 rfl) (n := 360) rfl) rfl (v := 360) kS_360 ?_
  refine EJ_icmp_ge 21 13 (dk_162 (bt bc_Land_pastNight_0 10 rfl) (bt bc_Land_pastNight_0 11 rfl) (bt bc_Land_pastNight_0 12 rfl) (n := 11) rfl) (by decide) rfl (fun _ => ?_) (fun _ => ?_)
  · refine EJ_iload_n 22 0 (dk_27 (bt bc_Land_pastNight_0 21 rfl)) rfl rfl ?_
    refine EJ_sipush 25 (dk_17 (bt bc_Land_pastNight_0 22 rfl) (bt bc_Land_pastNight_0 23 rfl) (bt bc_Land_pastNight_0 24 rfl) (n := 1079) rfl) rfl (v := 1079) kS_1079 ?_
    refine EJ_icmp_le 42 28 (dk_164 (bt bc_Land_pastNight_0 25 rfl) (bt bc_Land_pastNight_0 26 rfl) (bt bc_Land_pastNight_0 27 rfl) (n := 17) rfl) (by decide) rfl (fun _ => ?_) (fun _ => ?_)
    · refine EJ_iload_n 43 1 (dk_26 (bt bc_Land_pastNight_1 10 rfl)) rfl rfl ?_
      exact EJ_iret rfl (dk_172 (bt bc_Land_pastNight_1 11 rfl))
    · refine EJ_iload_n 29 1 (dk_26 (bt bc_Land_pastNight_0 28 rfl)) rfl rfl ?_
      refine EJ_sipush 32 (dk_17 (bt bc_Land_pastNight_0 29 rfl) (bt bc_Land_pastNight_0 30 rfl) (bt bc_Land_pastNight_0 31 rfl) (n := 1440) rfl) rfl (v := 1440) kS_1440 ?_
      refine EJ_iadd 33 (dk_96 (bt bc_Land_pastNight_1 0 rfl)) rfl ?_
      refine EJ_sipush 36 (dk_17 (bt bc_Land_pastNight_1 1 rfl) (bt bc_Land_pastNight_1 2 rfl) (bt bc_Land_pastNight_1 3 rfl) (n := 360) rfl) rfl (v := 360) kS_360 ?_
      refine EJ_iadd 37 (dk_96 (bt bc_Land_pastNight_1 4 rfl)) rfl ?_
      refine EJ_iload_n 38 0 (dk_27 (bt bc_Land_pastNight_1 5 rfl)) rfl rfl ?_
      refine EJ_isub 39 (dk_100 (bt bc_Land_pastNight_1 6 rfl)) rfl ?_
      refine EJ_goto 43 (dk_167 (bt bc_Land_pastNight_1 7 rfl) (bt bc_Land_pastNight_1 8 rfl) (bt bc_Land_pastNight_1 9 rfl) (n := 4) rfl) (by decide) ?_
      exact EJ_iret rfl (dk_172 (bt bc_Land_pastNight_1 11 rfl))
  · refine EJ_iload_n 14 1 (dk_26 (bt bc_Land_pastNight_0 13 rfl)) rfl rfl ?_
    refine EJ_sipush 17 (dk_17 (bt bc_Land_pastNight_0 14 rfl) (bt bc_Land_pastNight_0 15 rfl) (bt bc_Land_pastNight_0 16 rfl) (n := 360) rfl) rfl (v := 360) kS_360 ?_
    refine EJ_iadd 18 (dk_96 (bt bc_Land_pastNight_0 17 rfl)) rfl ?_
    refine EJ_iload_n 19 0 (dk_27 (bt bc_Land_pastNight_0 18 rfl)) rfl rfl ?_
    refine EJ_isub 20 (dk_100 (bt bc_Land_pastNight_0 19 rfl)) rfl ?_
    exact EJ_iret rfl (dk_172 (bt bc_Land_pastNight_0 20 rfl))
abbrev Y_Land_pastFog : Ym := (⟨"RiceHall$Land", "pastFog", "(II)I"⟩, prog_6_method_13_code, 6, (some FieldType.int))
theorem bc_Land_pastFog_0 : bts prog_6_method_13_code 0 [42, 180, 0, 9, 27, 46, 62, 29, 2, 160, 0, 5, 28, 172, 42, 180, 0, 15, 27, 46, 29, 100, 17, 5, 160, 96, 17, 5, 160, 112, 54, 4] := bts_of (by decide +kernel)
theorem bc_Land_pastFog_1 : bts prog_6_method_13_code 32 [28, 17, 5, 160, 112, 29, 100, 17, 5, 160, 96, 17, 5, 160, 112, 54, 5, 21, 5, 21, 4, 163, 0, 15, 28, 21, 4, 96, 21, 5, 100, 4] := bts_of (by decide +kernel)
theorem bc_Land_pastFog_2 : bts prog_6_method_13_code 64 [96, 167, 0, 4, 28, 172] := bts_of (by decide +kernel)
theorem hd_Land_pastFog : Y_Land_pastFog.1.cls = RX4 ∧ Y_Land_pastFog.1.cls ≠ "java/lang/invoke/MethodHandle" ∧ Y_Land_pastFog.1.cls ≠ "java/lang/invoke/VarHandle" ∧ (parseMethodDescriptor Y_Land_pastFog.1.desc).map (fun d => d.parameters.length) = some 2 := by decide +kernel
def Land_pastFog (M : Mm) (a0 : Nat) (a1 : Int32) (a2 : Int32) : Option (Int32 × Mm) :=
  ck (kO M a0 4 7) (
  nn (mR M a0 0) (fun b2 =>
  ck (kA M b2 20 a1) (
  let v4 : Int32 := mI M b2 (ix a1)
  if v4 = (-1) then (
    some (a2, M))
  else (
    nn (mR M a0 1) (fun b5 =>
    ck (kA M b5 20 a1) (
    let v7 : Int32 := rm (((mI M b5 (ix a1)) - v4) + 1440) 1440
    let v8 : Int32 := rm (((rm a2 1440) - v4) + 1440) 1440
    if v7 < v8 then (
      some (a2, M))
    else (
      some (((a2 + v7) - v8) + 1, M))))))))
set_option maxRecDepth 100000 in
set_option maxHeartbeats 4000000 in
theorem s_Land_pastFog (G : Gx) (M : Mm) (a0 : Nat) (a1 : Int32) (a2 : Int32) : FnS G Y_Land_pastFog cvI 1 [.ref a0, .int a1, .int a2] M (Land_pastFog M a0 a1 a2) := by
  refine FnS.ofE (by decide) (Nat.le_of_ble_eq_true rfl) ?_
  show EJ G Y_Land_pastFog cvI 1 0 [(0, .ref a0), (1, .int a1), (2, .int a2)] [] M _
  unfold Land_pastFog
  refine EJ_aload_n 1 0 (dk_42 (bt bc_Land_pastFog_0 0 rfl)) rfl rfl ?_
  refine EJ_ck (fun h1 => ?_)
  refine EJ_getR cf4 0 (by decide) 4 tw_38 (fun _ _ _ => rfl) (dk_180 (bt bc_Land_pastFog_0 1 rfl) (bt bc_Land_pastFog_0 2 rfl) (bt bc_Land_pastFog_0 3 rfl) (n := 9) rfl) rfl (of_decide_eq_true h1) (fun b2 => ?_)
  refine EJ_iload_n 5 1 (dk_27 (bt bc_Land_pastFog_0 4 rfl)) rfl rfl ?_
  refine EJ_ck (fun h3 => ?_)
  refine EJ_iald 6 h3 (dk_46 (bt bc_Land_pastFog_0 5 rfl)) rfl ?_
  refine EJ_istore_n 7 (lv2 := [(3, .int _), (0, .ref _), (1, .int _), (2, .int _)]) (dk_62 (bt bc_Land_pastFog_0 6 rfl)) rfl (by decide) rfl ?_
  refine EJ_iload_n 8 0 (dk_29 (bt bc_Land_pastFog_0 7 rfl)) rfl rfl ?_
  refine EJ_iconst 9 (dk_2 (bt bc_Land_pastFog_0 8 rfl)) rfl (v := (-1)) kI_m1 ?_
  refine EJ_icmp_ne 14 12 (dk_160 (bt bc_Land_pastFog_0 9 rfl) (bt bc_Land_pastFog_0 10 rfl) (bt bc_Land_pastFog_0 11 rfl) (n := 5) rfl) (by decide) rfl (fun _ => ?_) (fun _ => ?_)
  · refine EJ_aload_n 15 1 (dk_42 (bt bc_Land_pastFog_0 14 rfl)) rfl rfl ?_
    refine EJ_getR cf4 1 (by decide) 18 tw_39 (fun _ _ _ => rfl) (dk_180 (bt bc_Land_pastFog_0 15 rfl) (bt bc_Land_pastFog_0 16 rfl) (bt bc_Land_pastFog_0 17 rfl) (n := 15) rfl) rfl (of_decide_eq_true h1) (fun b5 => ?_)
    refine EJ_iload_n 19 2 (dk_27 (bt bc_Land_pastFog_0 18 rfl)) rfl rfl ?_
    refine EJ_ck (fun h6 => ?_)
    refine EJ_iald 20 h6 (dk_46 (bt bc_Land_pastFog_0 19 rfl)) rfl ?_
    refine EJ_iload_n 21 0 (dk_29 (bt bc_Land_pastFog_0 20 rfl)) rfl rfl ?_
    refine EJ_isub 22 (dk_100 (bt bc_Land_pastFog_0 21 rfl)) rfl ?_
    refine EJ_sipush 25 (dk_17 (bt bc_Land_pastFog_0 22 rfl) (bt bc_Land_pastFog_0 23 rfl) (bt bc_Land_pastFog_0 24 rfl) (n := 1440) rfl) rfl (v := 1440) kS_1440 ?_
    refine EJ_iadd 26 (dk_96 (bt bc_Land_pastFog_0 25 rfl)) rfl ?_
    refine EJ_sipush 29 (dk_17 (bt bc_Land_pastFog_0 26 rfl) (bt bc_Land_pastFog_0 27 rfl) (bt bc_Land_pastFog_0 28 rfl) (n := 1440) rfl) rfl (v := 1440) kS_1440 ?_
    refine EJ_irem 30 (dk_112 (bt bc_Land_pastFog_0 29 rfl)) rfl (by decide) ?_
    refine EJ_istore 32 (lv2 := [(4, .int _), (3, .int _), (0, .ref _), (1, .int _), (2, .int _)]) (dk_54 (bt bc_Land_pastFog_0 30 rfl) (bt bc_Land_pastFog_0 31 rfl)) rfl (by decide) rfl ?_
    refine EJ_iload_n 33 4 (dk_28 (bt bc_Land_pastFog_1 0 rfl)) rfl rfl ?_
    refine EJ_sipush 36 (dk_17 (bt bc_Land_pastFog_1 1 rfl) (bt bc_Land_pastFog_1 2 rfl) (bt bc_Land_pastFog_1 3 rfl) (n := 1440) rfl) rfl (v := 1440) kS_1440 ?_
    refine EJ_irem 37 (dk_112 (bt bc_Land_pastFog_1 4 rfl)) rfl (by decide) ?_
    refine EJ_iload_n 38 1 (dk_29 (bt bc_Land_pastFog_1 5 rfl)) rfl rfl ?_
    refine EJ_isub 39 (dk_100 (bt bc_Land_pastFog_1 6 rfl)) rfl ?_
    refine EJ_sipush 42 (dk_17 (bt bc_Land_pastFog_1 7 rfl) (bt bc_Land_pastFog_1 8 rfl) (bt bc_Land_pastFog_1 9 rfl) (n := 1440) rfl) rfl (v := 1440) kS_1440 ?_
    refine EJ_iadd 43 (dk_96 (bt bc_Land_pastFog_1 10 rfl)) rfl ?_
    refine EJ_sipush 46 (dk_17 (bt bc_Land_pastFog_1 11 rfl) (bt bc_Land_pastFog_1 12 rfl) (bt bc_Land_pastFog_1 13 rfl) (n := 1440) rfl) rfl (v := 1440) kS_1440 ?_
    refine EJ_irem 47 (dk_112 (bt bc_Land_pastFog_1 14 rfl)) rfl (by decide) ?_
    refine EJ_istore 49 (lv2 := [(5, .int _), (4, .int _), (3, .int _), (0, .ref _), (1, .int _), (2, .int _)]) (dk_54 (bt bc_Land_pastFog_1 15 rfl) (bt bc_Land_pastFog_1 16 rfl)) rfl (by decide) rfl ?_
    refine EJ_iload 51 0 (dk_21 (bt bc_Land_pastFog_1 17 rfl) (bt bc_Land_pastFog_1 18 rfl)) rfl rfl ?_
    refine EJ_iload 53 1 (dk_21 (bt bc_Land_pastFog_1 19 rfl) (bt bc_Land_pastFog_1 20 rfl)) rfl rfl ?_
    refine EJ_icmp_gt 68 56 (dk_163 (bt bc_Land_pastFog_1 21 rfl) (bt bc_Land_pastFog_1 22 rfl) (bt bc_Land_pastFog_1 23 rfl) (n := 15) rfl) (by decide) rfl (fun _ => ?_) (fun _ => ?_)
    · refine EJ_iload_n 69 5 (dk_28 (bt bc_Land_pastFog_2 4 rfl)) rfl rfl ?_
      exact EJ_iret rfl (dk_172 (bt bc_Land_pastFog_2 5 rfl))
    · refine EJ_iload_n 57 5 (dk_28 (bt bc_Land_pastFog_1 24 rfl)) rfl rfl ?_
      refine EJ_iload 59 1 (dk_21 (bt bc_Land_pastFog_1 25 rfl) (bt bc_Land_pastFog_1 26 rfl)) rfl rfl ?_
      refine EJ_iadd 60 (dk_96 (bt bc_Land_pastFog_1 27 rfl)) rfl ?_
      refine EJ_iload 62 0 (dk_21 (bt bc_Land_pastFog_1 28 rfl) (bt bc_Land_pastFog_1 29 rfl)) rfl rfl ?_
      refine EJ_isub 63 (dk_100 (bt bc_Land_pastFog_1 30 rfl)) rfl ?_
      refine EJ_iconst 64 (dk_4 (bt bc_Land_pastFog_1 31 rfl)) rfl (v := 1) kI_1 ?_
      refine EJ_iadd 65 (dk_96 (bt bc_Land_pastFog_2 0 rfl)) rfl ?_
      refine EJ_goto 69 (dk_167 (bt bc_Land_pastFog_2 1 rfl) (bt bc_Land_pastFog_2 2 rfl) (bt bc_Land_pastFog_2 3 rfl) (n := 4) rfl) (by decide) ?_
      exact EJ_iret rfl (dk_172 (bt bc_Land_pastFog_2 5 rfl))
  · refine EJ_iload_n 13 3 (dk_28 (bt bc_Land_pastFog_0 12 rfl)) rfl rfl ?_
    exact EJ_iret rfl (dk_172 (bt bc_Land_pastFog_0 13 rfl))
abbrev Y_Land_flagsSeen : Ym := (⟨"RiceHall$Land", "flagsSeen", "(III)I"⟩, prog_6_method_11_code, 7, (some FieldType.int))
theorem bc_Land_flagsSeen_0 : bts prog_6_method_11_code 0 [29, 54, 4, 3, 54, 5, 21, 5, 17, 11, 64, 162, 0, 50, 21, 4, 29, 17, 11, 64, 96, 162, 0, 40, 42, 28, 42, 27, 21, 4, 184, 0] := bts_of (by decide +kernel)
theorem bc_Land_flagsSeen_1 : bts prog_6_method_11_code 32 [71, 182, 0, 75, 182, 0, 75, 54, 6, 21, 6, 21, 4, 160, 0, 6, 21, 4, 172, 21, 6, 54, 4, 132, 5, 1, 167, 255, 204, 18, 49, 172] := bts_of (by decide +kernel)
theorem hd_Land_flagsSeen : Y_Land_flagsSeen.1.cls = RX4 ∧ Y_Land_flagsSeen.1.cls ≠ "java/lang/invoke/MethodHandle" ∧ Y_Land_flagsSeen.1.cls ≠ "java/lang/invoke/VarHandle" ∧ (parseMethodDescriptor Y_Land_flagsSeen.1.desc).map (fun d => d.parameters.length) = some 3 := by decide +kernel
def Land_flagsSeen_B6 (k6 : Nat → Int32 → Int32 → Int32 → Int32 → Int32 → Mm → Option (Int32 × Mm)) (x0 : Nat) (x1 : Int32) (x2 : Int32) (x3 : Int32) (x4 : Int32) (x5 : Int32) (M : Mm) : Option (Int32 × Mm) :=
  if 2880 ≤ x5 then (
    some (2147483647, M))
  else (
    if (x3 + 2880) ≤ x4 then (
      some (2147483647, M))
    else (
      bd (Land_pastNight M x4) (fun r1 M2 =>
      ck (kO M2 x0 4 7) (
      bd (Land_pastFog M2 x0 x1 r1) (fun r4 M5 =>
      ck (kO M5 x0 4 7) (
      bd (Land_pastFog M5 x0 x2 r4) (fun r7 M8 =>
      if r7 = x4 then (
        some (x4, M8))
      else (
        let v9 : Int32 := x5 + 1
        k6 x0 x1 x2 x3 r7 v9 M8))))))))
set_option maxRecDepth 100000 in
set_option maxHeartbeats 4000000 in
theorem e_Land_flagsSeen_B6 {G : Gx} (k6 : Nat → Int32 → Int32 → Int32 → Int32 → Int32 → Mm → Option (Int32 × Mm)) (hk6 : ∀ (x0 : Nat) (x1 : Int32) (x2 : Int32) (x3 : Int32) (x4 : Int32) (x5 : Int32) (M : Mm), EJ G Y_Land_flagsSeen cvI 2 6 [(0, .ref x0), (1, .int x1), (2, .int x2), (3, .int x3), (4, .int x4), (5, .int x5)] [] M (k6 x0 x1 x2 x3 x4 x5 M)) (x0 : Nat) (x1 : Int32) (x2 : Int32) (x3 : Int32) (x4 : Int32) (x5 : Int32) (M : Mm) : EJ G Y_Land_flagsSeen cvI 2 6 [(0, .ref x0), (1, .int x1), (2, .int x2), (3, .int x3), (4, .int x4), (5, .int x5)] [] M (Land_flagsSeen_B6 k6 x0 x1 x2 x3 x4 x5 M) := by
  unfold Land_flagsSeen_B6
  refine EJ_iload 8 5 (dk_21 (bt bc_Land_flagsSeen_0 6 rfl) (bt bc_Land_flagsSeen_0 7 rfl)) rfl rfl ?_
  refine EJ_sipush 11 (dk_17 (bt bc_Land_flagsSeen_0 8 rfl) (bt bc_Land_flagsSeen_0 9 rfl) (bt bc_Land_flagsSeen_0 10 rfl) (n := 2880) rfl) rfl (v := 2880) kS_2880 ?_
  refine EJ_icmp_ge 61 14 (dk_162 (bt bc_Land_flagsSeen_0 11 rfl) (bt bc_Land_flagsSeen_0 12 rfl) (bt bc_Land_flagsSeen_0 13 rfl) (n := 50) rfl) (by decide) rfl (fun _ => ?_) (fun _ => ?_)
  · refine EJ_ldc 63 (dk_18 (bt bc_Land_flagsSeen_1 29 rfl) (bt bc_Land_flagsSeen_1 30 rfl)) rfl tw_297 ?_
    exact EJ_iret rfl (dk_172 (bt bc_Land_flagsSeen_1 31 rfl))
  · refine EJ_iload 16 4 (dk_21 (bt bc_Land_flagsSeen_0 14 rfl) (bt bc_Land_flagsSeen_0 15 rfl)) rfl rfl ?_
    refine EJ_iload_n 17 3 (dk_29 (bt bc_Land_flagsSeen_0 16 rfl)) rfl rfl ?_
    refine EJ_sipush 20 (dk_17 (bt bc_Land_flagsSeen_0 17 rfl) (bt bc_Land_flagsSeen_0 18 rfl) (bt bc_Land_flagsSeen_0 19 rfl) (n := 2880) rfl) rfl (v := 2880) kS_2880 ?_
    refine EJ_iadd 21 (dk_96 (bt bc_Land_flagsSeen_0 20 rfl)) rfl ?_
    refine EJ_icmp_ge 61 24 (dk_162 (bt bc_Land_flagsSeen_0 21 rfl) (bt bc_Land_flagsSeen_0 22 rfl) (bt bc_Land_flagsSeen_0 23 rfl) (n := 40) rfl) (by decide) rfl (fun _ => ?_) (fun _ => ?_)
    · refine EJ_ldc 63 (dk_18 (bt bc_Land_flagsSeen_1 29 rfl) (bt bc_Land_flagsSeen_1 30 rfl)) rfl tw_297 ?_
      exact EJ_iret rfl (dk_172 (bt bc_Land_flagsSeen_1 31 rfl))
    · refine EJ_aload_n 25 0 (dk_42 (bt bc_Land_flagsSeen_0 24 rfl)) rfl rfl ?_
      refine EJ_iload_n 26 2 (dk_28 (bt bc_Land_flagsSeen_0 25 rfl)) rfl rfl ?_
      refine EJ_aload_n 27 0 (dk_42 (bt bc_Land_flagsSeen_0 26 rfl)) rfl rfl ?_
      refine EJ_iload_n 28 1 (dk_27 (bt bc_Land_flagsSeen_0 27 rfl)) rfl rfl ?_
      refine EJ_iload 30 4 (dk_21 (bt bc_Land_flagsSeen_0 28 rfl) (bt bc_Land_flagsSeen_0 29 rfl)) rfl rfl ?_
      refine EJ_callSi (Y2 := Y_Land_pastNight) 33 (s_Land_pastNight G _ _) rfl (dk_184 (bt bc_Land_flagsSeen_0 30 rfl) (bt bc_Land_flagsSeen_0 31 rfl) (bt bc_Land_flagsSeen_1 0 rfl) (n := 71) rfl) rfl tw_314 tw_315 tw_2 tw_316 hd_Land_pastNight rfl (by decide) (Nat.le_of_ble_eq_true rfl) (fun r1 M2 => ?_)
      refine EJ_ck (fun h3 => ?_)
      refine EJ_callVi (Y2 := Y_Land_pastFog) 36 cf4 (s_Land_pastFog G _ _ _ _) (of_decide_eq_true h3) rfl (dk_182 (bt bc_Land_flagsSeen_1 1 rfl) (bt bc_Land_flagsSeen_1 2 rfl) (bt bc_Land_flagsSeen_1 3 rfl) (n := 75) rfl) rfl tw_317 tw_319 ts_4 tw_320 hd_Land_pastFog rfl (by decide) (Nat.le_of_ble_eq_true rfl) (fun r4 M5 => ?_)
      refine EJ_ck (fun h6 => ?_)
      refine EJ_callVi (Y2 := Y_Land_pastFog) 39 cf4 (s_Land_pastFog G _ _ _ _) (of_decide_eq_true h6) rfl (dk_182 (bt bc_Land_flagsSeen_1 4 rfl) (bt bc_Land_flagsSeen_1 5 rfl) (bt bc_Land_flagsSeen_1 6 rfl) (n := 75) rfl) rfl tw_317 tw_319 ts_4 tw_320 hd_Land_pastFog rfl (by decide) (Nat.le_of_ble_eq_true rfl) (fun r7 M8 => ?_)
      refine EJ_istore 41 (lv2 := [(6, .int _), (0, .ref _), (1, .int _), (2, .int _), (3, .int _), (4, .int _), (5, .int _)]) (dk_54 (bt bc_Land_flagsSeen_1 7 rfl) (bt bc_Land_flagsSeen_1 8 rfl)) rfl (by decide) rfl ?_
      refine EJ_iload 43 0 (dk_21 (bt bc_Land_flagsSeen_1 9 rfl) (bt bc_Land_flagsSeen_1 10 rfl)) rfl rfl ?_
      refine EJ_iload 45 5 (dk_21 (bt bc_Land_flagsSeen_1 11 rfl) (bt bc_Land_flagsSeen_1 12 rfl)) rfl rfl ?_
      refine EJ_icmp_ne 51 48 (dk_160 (bt bc_Land_flagsSeen_1 13 rfl) (bt bc_Land_flagsSeen_1 14 rfl) (bt bc_Land_flagsSeen_1 15 rfl) (n := 6) rfl) (by decide) rfl (fun _ => ?_) (fun _ => ?_)
      · refine EJ_iload 53 0 (dk_21 (bt bc_Land_flagsSeen_1 19 rfl) (bt bc_Land_flagsSeen_1 20 rfl)) rfl rfl ?_
        refine EJ_istore 55 (lv2 := [(4, .int _), (6, .int _), (0, .ref _), (1, .int _), (2, .int _), (3, .int _), (5, .int _)]) (dk_54 (bt bc_Land_flagsSeen_1 21 rfl) (bt bc_Land_flagsSeen_1 22 rfl)) rfl (by decide) rfl ?_
        refine EJ_iinc 58 6 (lv2 := [(5, .int _), (4, .int _), (6, .int _), (0, .ref _), (1, .int _), (2, .int _), (3, .int _)]) (dk_132 (bt bc_Land_flagsSeen_1 23 rfl) (bt bc_Land_flagsSeen_1 24 rfl) (bt bc_Land_flagsSeen_1 25 rfl) (n := 1) rfl) rfl (by decide) rfl (v := 1) kI_1 rfl ?_
        refine EJ_goto 6 (dk_167 (bt bc_Land_flagsSeen_1 26 rfl) (bt bc_Land_flagsSeen_1 27 rfl) (bt bc_Land_flagsSeen_1 28 rfl) (n := -52) rfl) (by decide) ?_
        exact EJ_pick (lv2 := [(0, .ref _), (1, .int _), (2, .int _), (3, .int _), (4, .int _), (5, .int _)]) [3, 4, 5, 6, 1, 0] rfl (hk6 _ _ _ _ _ _ _)
      · refine EJ_iload 50 5 (dk_21 (bt bc_Land_flagsSeen_1 16 rfl) (bt bc_Land_flagsSeen_1 17 rfl)) rfl rfl ?_
        exact EJ_iret rfl (dk_172 (bt bc_Land_flagsSeen_1 18 rfl))
def Land_flagsSeen_L6 (n : Nat) : Nat → Int32 → Int32 → Int32 → Int32 → Int32 → Mm → Option (Int32 × Mm) :=
  match n with
  | 0 => fun _ _ _ _ _ _ _ => none
  | n + 1 => Land_flagsSeen_B6 (Land_flagsSeen_L6 n)
theorem e_Land_flagsSeen_L6 {G : Gx} : ∀ (n : Nat) (x0 : Nat) (x1 : Int32) (x2 : Int32) (x3 : Int32) (x4 : Int32) (x5 : Int32) (M : Mm), EJ G Y_Land_flagsSeen cvI 2 6 [(0, .ref x0), (1, .int x1), (2, .int x2), (3, .int x3), (4, .int x4), (5, .int x5)] [] M (Land_flagsSeen_L6 n x0 x1 x2 x3 x4 x5 M) := by
  intro n
  induction n with
  | zero => intros; exact EJ_none
  | succ n ih => intro x0 x1 x2 x3 x4 x5 M; exact e_Land_flagsSeen_B6 _ ih x0 x1 x2 x3 x4 x5 M
def Land_flagsSeen (M : Mm) (a0 : Nat) (a1 : Int32) (a2 : Int32) (a3 : Int32) : Option (Int32 × Mm) :=
  Land_flagsSeen_L6 fu a0 a1 a2 a3 a3 0 M
set_option maxRecDepth 100000 in
set_option maxHeartbeats 4000000 in
theorem s_Land_flagsSeen (G : Gx) (M : Mm) (a0 : Nat) (a1 : Int32) (a2 : Int32) (a3 : Int32) : FnS G Y_Land_flagsSeen cvI 2 [.ref a0, .int a1, .int a2, .int a3] M (Land_flagsSeen M a0 a1 a2 a3) := by
  refine FnS.ofE (by decide) (Nat.le_of_ble_eq_true rfl) ?_
  show EJ G Y_Land_flagsSeen cvI 2 0 [(0, .ref a0), (1, .int a1), (2, .int a2), (3, .int a3)] [] M _
  unfold Land_flagsSeen
  refine EJ_iload_n 1 3 (dk_29 (bt bc_Land_flagsSeen_0 0 rfl)) rfl rfl ?_
  refine EJ_istore 3 (lv2 := [(4, .int _), (0, .ref _), (1, .int _), (2, .int _), (3, .int _)]) (dk_54 (bt bc_Land_flagsSeen_0 1 rfl) (bt bc_Land_flagsSeen_0 2 rfl)) rfl (by decide) rfl ?_
  refine EJ_iconst 4 (dk_3 (bt bc_Land_flagsSeen_0 3 rfl)) rfl (v := 0) kI_0 ?_
  refine EJ_istore 6 (lv2 := [(5, .int _), (4, .int _), (0, .ref _), (1, .int _), (2, .int _), (3, .int _)]) (dk_54 (bt bc_Land_flagsSeen_0 4 rfl) (bt bc_Land_flagsSeen_0 5 rfl)) rfl (by decide) rfl ?_
  exact EJ_pick (lv2 := [(0, .ref _), (1, .int _), (2, .int _), (3, .int _), (4, .int _), (5, .int _)]) [2, 3, 4, 5, 1, 0] rfl (e_Land_flagsSeen_L6 fu _ _ _ _ _ _ _)
abbrev Y_Land_arrival : Ym := (⟨"RiceHall$Land", "arrival", "(II)I"⟩, prog_6_method_10_code, 7, (some FieldType.int))
theorem bc_Land_arrival_0 : bts prog_6_method_10_code 0 [27, 16, 10, 104, 28, 96, 62, 42, 180, 0, 24, 27, 46, 54, 4, 21, 4, 42, 180, 0, 21, 29, 46, 96, 54, 5, 42, 180, 0, 18, 29, 46] := bts_of (by decide +kernel)
theorem bc_Land_arrival_1 : bts prog_6_method_10_code 32 [154, 0, 6, 21, 5, 172, 42, 27, 28, 21, 4, 182, 0, 67, 54, 6, 21, 6, 18, 49, 160, 0, 8, 21, 5, 167, 0, 17, 21, 5, 21, 6] := bts_of (by decide +kernel)
theorem bc_Land_arrival_2 : bts prog_6_method_10_code 64 [42, 180, 0, 18, 29, 46, 96, 184, 0, 62, 172] := bts_of (by decide +kernel)
theorem hd_Land_arrival : Y_Land_arrival.1.cls = RX4 ∧ Y_Land_arrival.1.cls ≠ "java/lang/invoke/MethodHandle" ∧ Y_Land_arrival.1.cls ≠ "java/lang/invoke/VarHandle" ∧ (parseMethodDescriptor Y_Land_arrival.1.desc).map (fun d => d.parameters.length) = some 2 := by decide +kernel
def Land_arrival (M : Mm) (a0 : Nat) (a1 : Int32) (a2 : Int32) : Option (Int32 × Mm) :=
  let v1 : Int32 := (a1 * 10) + a2
  ck (kO M a0 4 7) (
  nn (mR M a0 4) (fun b3 =>
  ck (kA M b3 20 a1) (
  let v5 : Int32 := mI M b3 (ix a1)
  nn (mR M a0 3) (fun b6 =>
  ck (kA M b6 20 v1) (
  let v8 : Int32 := v5 + (mI M b6 (ix v1))
  nn (mR M a0 2) (fun b9 =>
  ck (kA M b9 20 v1) (
  if (mI M b9 (ix v1)) = 0 then (
    some (v8, M))
  else (
    bd (Land_flagsSeen M a0 a1 a2 v5) (fun r11 M12 =>
    if r11 = 2147483647 then (
      some (v8, M12))
    else (
      ck (kO M12 a0 4 7) (
      nn (mR M12 a0 2) (fun b14 =>
      ck (kA M12 b14 20 v1) (
      bd (Math_min_I M12 v8 (r11 + (mI M12 b14 (ix v1)))) (fun r16 M17 =>
      some (r16, M17)))))))))))))))
set_option maxRecDepth 100000 in
set_option maxHeartbeats 4000000 in
theorem s_Land_arrival (G : Gx) (M : Mm) (a0 : Nat) (a1 : Int32) (a2 : Int32) : FnS G Y_Land_arrival cvI 3 [.ref a0, .int a1, .int a2] M (Land_arrival M a0 a1 a2) := by
  refine FnS.ofE (by decide) (Nat.le_of_ble_eq_true rfl) ?_
  show EJ G Y_Land_arrival cvI 3 0 [(0, .ref a0), (1, .int a1), (2, .int a2)] [] M _
  unfold Land_arrival
  refine EJ_iload_n 1 1 (dk_27 (bt bc_Land_arrival_0 0 rfl)) rfl rfl ?_
  refine EJ_bipush 3 (dk_16 (bt bc_Land_arrival_0 1 rfl) (bt bc_Land_arrival_0 2 rfl) (n := 10) rfl) rfl (v := 10) kB_10 ?_
  refine EJ_imul 4 (dk_104 (bt bc_Land_arrival_0 3 rfl)) rfl ?_
  refine EJ_iload_n 5 2 (dk_28 (bt bc_Land_arrival_0 4 rfl)) rfl rfl ?_
  refine EJ_iadd 6 (dk_96 (bt bc_Land_arrival_0 5 rfl)) rfl ?_
  refine EJ_istore_n 7 (lv2 := [(3, .int _), (0, .ref _), (1, .int _), (2, .int _)]) (dk_62 (bt bc_Land_arrival_0 6 rfl)) rfl (by decide) rfl ?_
  refine EJ_aload_n 8 1 (dk_42 (bt bc_Land_arrival_0 7 rfl)) rfl rfl ?_
  refine EJ_ck (fun h2 => ?_)
  refine EJ_getR cf4 4 (by decide) 11 tw_42 (fun _ _ _ => rfl) (dk_180 (bt bc_Land_arrival_0 8 rfl) (bt bc_Land_arrival_0 9 rfl) (bt bc_Land_arrival_0 10 rfl) (n := 24) rfl) rfl (of_decide_eq_true h2) (fun b3 => ?_)
  refine EJ_iload_n 12 2 (dk_27 (bt bc_Land_arrival_0 11 rfl)) rfl rfl ?_
  refine EJ_ck (fun h4 => ?_)
  refine EJ_iald 13 h4 (dk_46 (bt bc_Land_arrival_0 12 rfl)) rfl ?_
  refine EJ_istore 15 (lv2 := [(4, .int _), (3, .int _), (0, .ref _), (1, .int _), (2, .int _)]) (dk_54 (bt bc_Land_arrival_0 13 rfl) (bt bc_Land_arrival_0 14 rfl)) rfl (by decide) rfl ?_
  refine EJ_iload 17 0 (dk_21 (bt bc_Land_arrival_0 15 rfl) (bt bc_Land_arrival_0 16 rfl)) rfl rfl ?_
  refine EJ_aload_n 18 2 (dk_42 (bt bc_Land_arrival_0 17 rfl)) rfl rfl ?_
  refine EJ_getR cf4 3 (by decide) 21 tw_41 (fun _ _ _ => rfl) (dk_180 (bt bc_Land_arrival_0 18 rfl) (bt bc_Land_arrival_0 19 rfl) (bt bc_Land_arrival_0 20 rfl) (n := 21) rfl) rfl (of_decide_eq_true h2) (fun b6 => ?_)
  refine EJ_iload_n 22 1 (dk_29 (bt bc_Land_arrival_0 21 rfl)) rfl rfl ?_
  refine EJ_ck (fun h7 => ?_)
  refine EJ_iald 23 h7 (dk_46 (bt bc_Land_arrival_0 22 rfl)) rfl ?_
  refine EJ_iadd 24 (dk_96 (bt bc_Land_arrival_0 23 rfl)) rfl ?_
  refine EJ_istore 26 (lv2 := [(5, .int _), (4, .int _), (3, .int _), (0, .ref _), (1, .int _), (2, .int _)]) (dk_54 (bt bc_Land_arrival_0 24 rfl) (bt bc_Land_arrival_0 25 rfl)) rfl (by decide) rfl ?_
  refine EJ_aload_n 27 3 (dk_42 (bt bc_Land_arrival_0 26 rfl)) rfl rfl ?_
  refine EJ_getR cf4 2 (by decide) 30 tw_40 (fun _ _ _ => rfl) (dk_180 (bt bc_Land_arrival_0 27 rfl) (bt bc_Land_arrival_0 28 rfl) (bt bc_Land_arrival_0 29 rfl) (n := 18) rfl) rfl (of_decide_eq_true h2) (fun b9 => ?_)
  refine EJ_iload_n 31 2 (dk_29 (bt bc_Land_arrival_0 30 rfl)) rfl rfl ?_
  refine EJ_ck (fun h10 => ?_)
  refine EJ_iald 32 h10 (dk_46 (bt bc_Land_arrival_0 31 rfl)) rfl ?_
  refine EJ_if_ne 38 35 (dk_154 (bt bc_Land_arrival_1 0 rfl) (bt bc_Land_arrival_1 1 rfl) (bt bc_Land_arrival_1 2 rfl) (n := 6) rfl) (by decide) rfl (fun _ => ?_) (fun _ => ?_)
  · refine EJ_aload_n 39 3 (dk_42 (bt bc_Land_arrival_1 6 rfl)) rfl rfl ?_
    refine EJ_iload_n 40 4 (dk_27 (bt bc_Land_arrival_1 7 rfl)) rfl rfl ?_
    refine EJ_iload_n 41 5 (dk_28 (bt bc_Land_arrival_1 8 rfl)) rfl rfl ?_
    refine EJ_iload 43 1 (dk_21 (bt bc_Land_arrival_1 9 rfl) (bt bc_Land_arrival_1 10 rfl)) rfl rfl ?_
    refine EJ_callVi (Y2 := Y_Land_flagsSeen) 46 cf4 (s_Land_flagsSeen G _ _ _ _ _) (of_decide_eq_true h2) rfl (dk_182 (bt bc_Land_arrival_1 11 rfl) (bt bc_Land_arrival_1 12 rfl) (bt bc_Land_arrival_1 13 rfl) (n := 67) rfl) rfl tw_310 tw_312 ts_3 tw_313 hd_Land_flagsSeen rfl (by decide) (Nat.le_of_ble_eq_true rfl) (fun r11 M12 => ?_)
    refine EJ_istore 48 (lv2 := [(6, .int _), (5, .int _), (4, .int _), (3, .int _), (0, .ref _), (1, .int _), (2, .int _)]) (dk_54 (bt bc_Land_arrival_1 14 rfl) (bt bc_Land_arrival_1 15 rfl)) rfl (by decide) rfl ?_
    refine EJ_iload 50 0 (dk_21 (bt bc_Land_arrival_1 16 rfl) (bt bc_Land_arrival_1 17 rfl)) rfl rfl ?_
    refine EJ_ldc 52 (dk_18 (bt bc_Land_arrival_1 18 rfl) (bt bc_Land_arrival_1 19 rfl)) rfl tw_297 ?_
    refine EJ_icmp_ne 60 55 (dk_160 (bt bc_Land_arrival_1 20 rfl) (bt bc_Land_arrival_1 21 rfl) (bt bc_Land_arrival_1 22 rfl) (n := 8) rfl) (by decide) rfl (fun _ => ?_) (fun _ => ?_)
    · refine EJ_iload 62 1 (dk_21 (bt bc_Land_arrival_1 28 rfl) (bt bc_Land_arrival_1 29 rfl)) rfl rfl ?_
      refine EJ_iload 64 0 (dk_21 (bt bc_Land_arrival_1 30 rfl) (bt bc_Land_arrival_1 31 rfl)) rfl rfl ?_
      refine EJ_aload_n 65 4 (dk_42 (bt bc_Land_arrival_2 0 rfl)) rfl rfl ?_
      refine EJ_ck (fun h13 => ?_)
      refine EJ_getR cf4 2 (by decide) 68 tw_40 (fun _ _ _ => rfl) (dk_180 (bt bc_Land_arrival_2 1 rfl) (bt bc_Land_arrival_2 2 rfl) (bt bc_Land_arrival_2 3 rfl) (n := 18) rfl) rfl (of_decide_eq_true h13) (fun b14 => ?_)
      refine EJ_iload_n 69 3 (dk_29 (bt bc_Land_arrival_2 4 rfl)) rfl rfl ?_
      refine EJ_ck (fun h15 => ?_)
      refine EJ_iald 70 h15 (dk_46 (bt bc_Land_arrival_2 5 rfl)) rfl ?_
      refine EJ_iadd 71 (dk_96 (bt bc_Land_arrival_2 6 rfl)) rfl ?_
      refine EJ_callSi (Y2 := Y_Math_min_I) 74 (s_Math_min_I G _ _ _) rfl (dk_184 (bt bc_Land_arrival_2 7 rfl) (bt bc_Land_arrival_2 8 rfl) (bt bc_Land_arrival_2 9 rfl) (n := 62) rfl) rfl tw_321 tw_322 tw_9 tw_323 hd_Math_min_I rfl (by decide) (Nat.le_of_ble_eq_true rfl) (fun r16 M17 => ?_)
      exact EJ_iret rfl (dk_172 (bt bc_Land_arrival_2 10 rfl))
    · refine EJ_iload 57 1 (dk_21 (bt bc_Land_arrival_1 23 rfl) (bt bc_Land_arrival_1 24 rfl)) rfl rfl ?_
      refine EJ_goto 74 (dk_167 (bt bc_Land_arrival_1 25 rfl) (bt bc_Land_arrival_1 26 rfl) (bt bc_Land_arrival_1 27 rfl) (n := 17) rfl) (by decide) ?_
      exact EJ_iret rfl (dk_172 (bt bc_Land_arrival_2 10 rfl))
  · refine EJ_iload 37 0 (dk_21 (bt bc_Land_arrival_1 3 rfl) (bt bc_Land_arrival_1 4 rfl)) rfl rfl ?_
    exact EJ_iret rfl (dk_172 (bt bc_Land_arrival_1 5 rfl))
abbrev Y_Land_passOn : Ym := (⟨"RiceHall$Land", "passOn", "(I)V"⟩, prog_6_method_9_code, 3, none)
theorem bc_Land_passOn_0 : bts prog_6_method_9_code 0 [42, 180, 0, 27, 27, 4, 84, 3, 61, 28, 42, 180, 0, 31, 162, 0, 53, 42, 180, 0, 21, 27, 16, 10, 104, 28, 96, 46, 158, 0, 33, 42] := bts_of (by decide +kernel)
theorem bc_Land_passOn_1 : bts prog_6_method_9_code 32 [180, 0, 27, 28, 51, 154, 0, 24, 42, 180, 0, 24, 28, 42, 180, 0, 24, 28, 46, 42, 27, 28, 182, 0, 58, 184, 0, 62, 79, 132, 2, 1] := bts_of (by decide +kernel)
theorem bc_Land_passOn_2 : bts prog_6_method_9_code 64 [167, 255, 201, 177] := bts_of (by decide +kernel)
theorem hd_Land_passOn : Y_Land_passOn.1.cls = RX4 ∧ Y_Land_passOn.1.cls ≠ "java/lang/invoke/MethodHandle" ∧ Y_Land_passOn.1.cls ≠ "java/lang/invoke/VarHandle" ∧ (parseMethodDescriptor Y_Land_passOn.1.desc).map (fun d => d.parameters.length) = some 1 := by decide +kernel
def Land_passOn_J61 (k9 : Nat → Int32 → Int32 → Mm → Option (Unit × Mm)) (x0 : Nat) (x1 : Int32) (x2 : Int32) (M : Mm) : Option (Unit × Mm) :=
  let v8 : Int32 := x2 + 1
  k9 x0 x1 v8 M
set_option maxRecDepth 100000 in
set_option maxHeartbeats 4000000 in
theorem e_Land_passOn_J61 {G : Gx} (k9 : Nat → Int32 → Int32 → Mm → Option (Unit × Mm)) (hk9 : ∀ (x0 : Nat) (x1 : Int32) (x2 : Int32) (M : Mm), EJ G Y_Land_passOn cvV 4 9 [(0, .ref x0), (1, .int x1), (2, .int x2)] [] M (k9 x0 x1 x2 M)) (x0 : Nat) (x1 : Int32) (x2 : Int32) (M : Mm) : EJ G Y_Land_passOn cvV 4 61 [(0, .ref x0), (1, .int x1), (2, .int x2)] [] M (Land_passOn_J61 k9 x0 x1 x2 M) := by
  unfold Land_passOn_J61
  refine EJ_iinc 64 2 (lv2 := [(2, .int _), (0, .ref _), (1, .int _)]) (dk_132 (bt bc_Land_passOn_1 29 rfl) (bt bc_Land_passOn_1 30 rfl) (bt bc_Land_passOn_1 31 rfl) (n := 1) rfl) rfl (by decide) rfl (v := 1) kI_1 rfl ?_
  refine EJ_goto 9 (dk_167 (bt bc_Land_passOn_2 0 rfl) (bt bc_Land_passOn_2 1 rfl) (bt bc_Land_passOn_2 2 rfl) (n := -55) rfl) (by decide) ?_
  exact EJ_pick (lv2 := [(0, .ref _), (1, .int _), (2, .int _)]) [1, 2, 0] rfl (hk9 _ _ _ _)
def Land_passOn_B9 (k9 : Nat → Int32 → Int32 → Mm → Option (Unit × Mm)) (x0 : Nat) (x1 : Int32) (x2 : Int32) (M : Mm) : Option (Unit × Mm) :=
  ck (kO M x0 4 7) (
  if (mI M x0 6) ≤ x2 then (
    some ((), M))
  else (
    nn (mR M x0 3) (fun b6 =>
    ck (kA M b6 20 ((x1 * 10) + x2)) (
    if (mI M b6 (ix ((x1 * 10) + x2))) ≤ 0 then (
      Land_passOn_J61 k9 x0 x1 x2 M)
    else (
      nn (mR M x0 5) (fun b9 =>
      ck (kA M b9 22 x2) (
      if (mI M b9 (ix x2)) = 0 then (
        nn (mR M x0 4) (fun b11 =>
        nn (mR M x0 4) (fun b12 =>
        ck (kA M b12 20 x2) (
        bd (Land_arrival M x0 x1 x2) (fun r14 M15 =>
        bd (Math_min_I M15 (mI M b12 (ix x2)) r14) (fun r16 M17 =>
        ck (kA M17 b11 20 x2) (
        let M19 := sI M17 b11 (ix x2) r16
        Land_passOn_J61 k9 x0 x1 x2 M19)))))))
      else (
        Land_passOn_J61 k9 x0 x1 x2 M))))))))
set_option maxRecDepth 100000 in
set_option maxHeartbeats 4000000 in
theorem e_Land_passOn_B9 {G : Gx} (k9 : Nat → Int32 → Int32 → Mm → Option (Unit × Mm)) (hk9 : ∀ (x0 : Nat) (x1 : Int32) (x2 : Int32) (M : Mm), EJ G Y_Land_passOn cvV 4 9 [(0, .ref x0), (1, .int x1), (2, .int x2)] [] M (k9 x0 x1 x2 M)) (x0 : Nat) (x1 : Int32) (x2 : Int32) (M : Mm) : EJ G Y_Land_passOn cvV 4 9 [(0, .ref x0), (1, .int x1), (2, .int x2)] [] M (Land_passOn_B9 k9 x0 x1 x2 M) := by
  unfold Land_passOn_B9
  refine EJ_iload_n 10 2 (dk_28 (bt bc_Land_passOn_0 9 rfl)) rfl rfl ?_
  refine EJ_aload_n 11 0 (dk_42 (bt bc_Land_passOn_0 10 rfl)) rfl rfl ?_
  refine EJ_ck (fun h5 => ?_)
  refine EJ_getI cf4 6 (by decide) 14 tw_44 (fun _ _ _ => rfl) (dk_180 (bt bc_Land_passOn_0 11 rfl) (bt bc_Land_passOn_0 12 rfl) (bt bc_Land_passOn_0 13 rfl) (n := 31) rfl) rfl (of_decide_eq_true h5) ?_
  refine EJ_icmp_ge 67 17 (dk_162 (bt bc_Land_passOn_0 14 rfl) (bt bc_Land_passOn_0 15 rfl) (bt bc_Land_passOn_0 16 rfl) (n := 53) rfl) (by decide) rfl (fun _ => ?_) (fun _ => ?_)
  · exact EJ_vret rfl (dk_177 (bt bc_Land_passOn_2 3 rfl))
  · refine EJ_aload_n 18 0 (dk_42 (bt bc_Land_passOn_0 17 rfl)) rfl rfl ?_
    refine EJ_getR cf4 3 (by decide) 21 tw_41 (fun _ _ _ => rfl) (dk_180 (bt bc_Land_passOn_0 18 rfl) (bt bc_Land_passOn_0 19 rfl) (bt bc_Land_passOn_0 20 rfl) (n := 21) rfl) rfl (of_decide_eq_true h5) (fun b6 => ?_)
    refine EJ_iload_n 22 1 (dk_27 (bt bc_Land_passOn_0 21 rfl)) rfl rfl ?_
    refine EJ_bipush 24 (dk_16 (bt bc_Land_passOn_0 22 rfl) (bt bc_Land_passOn_0 23 rfl) (n := 10) rfl) rfl (v := 10) kB_10 ?_
    refine EJ_imul 25 (dk_104 (bt bc_Land_passOn_0 24 rfl)) rfl ?_
    refine EJ_iload_n 26 2 (dk_28 (bt bc_Land_passOn_0 25 rfl)) rfl rfl ?_
    refine EJ_iadd 27 (dk_96 (bt bc_Land_passOn_0 26 rfl)) rfl ?_
    refine EJ_ck (fun h7 => ?_)
    refine EJ_iald 28 h7 (dk_46 (bt bc_Land_passOn_0 27 rfl)) rfl ?_
    refine EJ_if_le 61 31 (dk_158 (bt bc_Land_passOn_0 28 rfl) (bt bc_Land_passOn_0 29 rfl) (bt bc_Land_passOn_0 30 rfl) (n := 33) rfl) (by decide) rfl (fun _ => ?_) (fun _ => ?_)
    · exact EJ_pick (lv2 := [(0, .ref _), (1, .int _), (2, .int _)]) [0, 1, 2] rfl (e_Land_passOn_J61 k9 hk9 _ _ _ _)
    · refine EJ_aload_n 32 0 (dk_42 (bt bc_Land_passOn_0 31 rfl)) rfl rfl ?_
      refine EJ_getR cf4 5 (by decide) 35 tw_43 (fun _ _ _ => rfl) (dk_180 (bt bc_Land_passOn_1 0 rfl) (bt bc_Land_passOn_1 1 rfl) (bt bc_Land_passOn_1 2 rfl) (n := 27) rfl) rfl (of_decide_eq_true h5) (fun b9 => ?_)
      refine EJ_iload_n 36 2 (dk_28 (bt bc_Land_passOn_1 3 rfl)) rfl rfl ?_
      refine EJ_ck (fun h10 => ?_)
      refine EJ_zald 37 h10 (dk_51 (bt bc_Land_passOn_1 4 rfl)) rfl ?_
      refine EJ_if_ne 61 40 (dk_154 (bt bc_Land_passOn_1 5 rfl) (bt bc_Land_passOn_1 6 rfl) (bt bc_Land_passOn_1 7 rfl) (n := 24) rfl) (by decide) rfl (fun _ => ?_) (fun _ => ?_)
      · exact EJ_pick (lv2 := [(0, .ref _), (1, .int _), (2, .int _)]) [0, 1, 2] rfl (e_Land_passOn_J61 k9 hk9 _ _ _ _)
      · refine EJ_aload_n 41 0 (dk_42 (bt bc_Land_passOn_1 8 rfl)) rfl rfl ?_
        refine EJ_getR cf4 4 (by decide) 44 tw_42 (fun _ _ _ => rfl) (dk_180 (bt bc_Land_passOn_1 9 rfl) (bt bc_Land_passOn_1 10 rfl) (bt bc_Land_passOn_1 11 rfl) (n := 24) rfl) rfl (of_decide_eq_true h5) (fun b11 => ?_)
        refine EJ_iload_n 45 2 (dk_28 (bt bc_Land_passOn_1 12 rfl)) rfl rfl ?_
        refine EJ_aload_n 46 0 (dk_42 (bt bc_Land_passOn_1 13 rfl)) rfl rfl ?_
        refine EJ_getR cf4 4 (by decide) 49 tw_42 (fun _ _ _ => rfl) (dk_180 (bt bc_Land_passOn_1 14 rfl) (bt bc_Land_passOn_1 15 rfl) (bt bc_Land_passOn_1 16 rfl) (n := 24) rfl) rfl (of_decide_eq_true h5) (fun b12 => ?_)
        refine EJ_iload_n 50 2 (dk_28 (bt bc_Land_passOn_1 17 rfl)) rfl rfl ?_
        refine EJ_ck (fun h13 => ?_)
        refine EJ_iald 51 h13 (dk_46 (bt bc_Land_passOn_1 18 rfl)) rfl ?_
        refine EJ_aload_n 52 0 (dk_42 (bt bc_Land_passOn_1 19 rfl)) rfl rfl ?_
        refine EJ_iload_n 53 1 (dk_27 (bt bc_Land_passOn_1 20 rfl)) rfl rfl ?_
        refine EJ_iload_n 54 2 (dk_28 (bt bc_Land_passOn_1 21 rfl)) rfl rfl ?_
        refine EJ_callVi (Y2 := Y_Land_arrival) 57 cf4 (s_Land_arrival G _ _ _ _) (of_decide_eq_true h5) rfl (dk_182 (bt bc_Land_passOn_1 22 rfl) (bt bc_Land_passOn_1 23 rfl) (bt bc_Land_passOn_1 24 rfl) (n := 58) rfl) rfl tw_306 tw_308 ts_2 tw_309 hd_Land_arrival rfl (by decide) (Nat.le_of_ble_eq_true rfl) (fun r14 M15 => ?_)
        refine EJ_callSi (Y2 := Y_Math_min_I) 60 (s_Math_min_I G _ _ _) rfl (dk_184 (bt bc_Land_passOn_1 25 rfl) (bt bc_Land_passOn_1 26 rfl) (bt bc_Land_passOn_1 27 rfl) (n := 62) rfl) rfl tw_321 tw_322 tw_9 tw_323 hd_Math_min_I rfl (by decide) (Nat.le_of_ble_eq_true rfl) (fun r16 M17 => ?_)
        refine EJ_ck (fun h18 => ?_)
        refine EJ_iast 61 h18 (dk_79 (bt bc_Land_passOn_1 28 rfl)) rfl ?_
        exact EJ_pick (lv2 := [(0, .ref _), (1, .int _), (2, .int _)]) [0, 1, 2] rfl (e_Land_passOn_J61 k9 hk9 _ _ _ _)
def Land_passOn_L9 (n : Nat) : Nat → Int32 → Int32 → Mm → Option (Unit × Mm) :=
  match n with
  | 0 => fun _ _ _ _ => none
  | n + 1 => Land_passOn_B9 (Land_passOn_L9 n)
theorem e_Land_passOn_L9 {G : Gx} : ∀ (n : Nat) (x0 : Nat) (x1 : Int32) (x2 : Int32) (M : Mm), EJ G Y_Land_passOn cvV 4 9 [(0, .ref x0), (1, .int x1), (2, .int x2)] [] M (Land_passOn_L9 n x0 x1 x2 M) := by
  intro n
  induction n with
  | zero => intros; exact EJ_none
  | succ n ih => intro x0 x1 x2 M; exact e_Land_passOn_B9 _ ih x0 x1 x2 M
def Land_passOn (M : Mm) (a0 : Nat) (a1 : Int32) : Option (Unit × Mm) :=
  ck (kO M a0 4 7) (
  nn (mR M a0 5) (fun b2 =>
  ck (kA M b2 22 a1) (
  let M4 := sI M b2 (ix a1) 1
  Land_passOn_L9 fu a0 a1 0 M4)))
set_option maxRecDepth 100000 in
set_option maxHeartbeats 4000000 in
theorem s_Land_passOn (G : Gx) (M : Mm) (a0 : Nat) (a1 : Int32) : FnS G Y_Land_passOn cvV 4 [.ref a0, .int a1] M (Land_passOn M a0 a1) := by
  refine FnS.ofE (by decide) (Nat.le_of_ble_eq_true rfl) ?_
  show EJ G Y_Land_passOn cvV 4 0 [(0, .ref a0), (1, .int a1)] [] M _
  unfold Land_passOn
  refine EJ_aload_n 1 0 (dk_42 (bt bc_Land_passOn_0 0 rfl)) rfl rfl ?_
  refine EJ_ck (fun h1 => ?_)
  refine EJ_getR cf4 5 (by decide) 4 tw_43 (fun _ _ _ => rfl) (dk_180 (bt bc_Land_passOn_0 1 rfl) (bt bc_Land_passOn_0 2 rfl) (bt bc_Land_passOn_0 3 rfl) (n := 27) rfl) rfl (of_decide_eq_true h1) (fun b2 => ?_)
  refine EJ_iload_n 5 1 (dk_27 (bt bc_Land_passOn_0 4 rfl)) rfl rfl ?_
  refine EJ_iconst 6 (dk_4 (bt bc_Land_passOn_0 5 rfl)) rfl (v := 1) kI_1 ?_
  refine EJ_ck (fun h3 => ?_)
  refine EJ_zast 7 h3 rfl (dk_84 (bt bc_Land_passOn_0 6 rfl)) rfl ?_
  refine EJ_iconst 8 (dk_3 (bt bc_Land_passOn_0 7 rfl)) rfl (v := 0) kI_0 ?_
  refine EJ_istore_n 9 (lv2 := [(2, .int _), (0, .ref _), (1, .int _)]) (dk_61 (bt bc_Land_passOn_0 8 rfl)) rfl (by decide) rfl ?_
  exact EJ_pick (lv2 := [(0, .ref _), (1, .int _), (2, .int _)]) [1, 2, 0] rfl (e_Land_passOn_L9 fu _ _ _ _)
abbrev Y_Land_spread : Ym := (⟨"RiceHall$Land", "spread", "(II)V"⟩, prog_6_method_6_code, 5, none)
theorem bc_Land_spread_0 : bts prog_6_method_6_code 0 [3, 62, 29, 16, 10, 162, 0, 24, 42, 180, 0, 24, 29, 18, 49, 79, 42, 180, 0, 27, 29, 3, 84, 132, 3, 1, 167, 255, 232, 42, 27, 182] := bts_of (by decide +kernel)
theorem bc_Land_spread_1 : bts prog_6_method_6_code 32 [0, 41, 154, 0, 4, 177, 42, 180, 0, 24, 27, 28, 79, 3, 62, 29, 42, 180, 0, 31, 162, 0, 28, 42, 182, 0, 50, 54, 4, 21, 4, 2] := bts_of (by decide +kernel)
theorem bc_Land_spread_2 : bts prog_6_method_6_code 64 [160, 0, 4, 177, 42, 21, 4, 182, 0, 54, 132, 3, 1, 167, 255, 226, 177] := bts_of (by decide +kernel)
theorem hd_Land_spread : Y_Land_spread.1.cls = RX4 ∧ Y_Land_spread.1.cls ≠ "java/lang/invoke/MethodHandle" ∧ Y_Land_spread.1.cls ≠ "java/lang/invoke/VarHandle" ∧ (parseMethodDescriptor Y_Land_spread.1.desc).map (fun d => d.parameters.length) = some 2 := by decide +kernel
def Land_spread_B47 (k47 : Nat → Int32 → Mm → Option (Unit × Mm)) (x0 : Nat) (x3 : Int32) (M : Mm) : Option (Unit × Mm) :=
  ck (kO M x0 4 7) (
  if (mI M x0 6) ≤ x3 then (
    some ((), M))
  else (
    bd (Land_earliestToPassOn M x0) (fun r9 M10 =>
    if r9 = (-1) then (
      some ((), M10))
    else (
      ck (kO M10 x0 4 7) (
      bd (Land_passOn M10 x0 r9) (fun _ M13 =>
      let v14 : Int32 := x3 + 1
      k47 x0 v14 M13))))))
set_option maxRecDepth 100000 in
set_option maxHeartbeats 4000000 in
theorem e_Land_spread_B47 {G : Gx} (k47 : Nat → Int32 → Mm → Option (Unit × Mm)) (hk47 : ∀ (x0 : Nat) (x3 : Int32) (M : Mm), EJ G Y_Land_spread cvV 5 47 [(0, .ref x0), (3, .int x3)] [] M (k47 x0 x3 M)) (x0 : Nat) (x3 : Int32) (M : Mm) : EJ G Y_Land_spread cvV 5 47 [(0, .ref x0), (3, .int x3)] [] M (Land_spread_B47 k47 x0 x3 M) := by
  unfold Land_spread_B47
  refine EJ_iload_n 48 1 (dk_29 (bt bc_Land_spread_1 15 rfl)) rfl rfl ?_
  refine EJ_aload_n 49 0 (dk_42 (bt bc_Land_spread_1 16 rfl)) rfl rfl ?_
  refine EJ_ck (fun h8 => ?_)
  refine EJ_getI cf4 6 (by decide) 52 tw_44 (fun _ _ _ => rfl) (dk_180 (bt bc_Land_spread_1 17 rfl) (bt bc_Land_spread_1 18 rfl) (bt bc_Land_spread_1 19 rfl) (n := 31) rfl) rfl (of_decide_eq_true h8) ?_
  refine EJ_icmp_ge 80 55 (dk_162 (bt bc_Land_spread_1 20 rfl) (bt bc_Land_spread_1 21 rfl) (bt bc_Land_spread_1 22 rfl) (n := 28) rfl) (by decide) rfl (fun _ => ?_) (fun _ => ?_)
  · exact EJ_vret rfl (dk_177 (bt bc_Land_spread_2 16 rfl))
  · refine EJ_aload_n 56 0 (dk_42 (bt bc_Land_spread_1 23 rfl)) rfl rfl ?_
    refine EJ_callVi (Y2 := Y_Land_earliestToPassOn) 59 cf4 (s_Land_earliestToPassOn G _ _) (of_decide_eq_true h8) rfl (dk_182 (bt bc_Land_spread_1 24 rfl) (bt bc_Land_spread_1 25 rfl) (bt bc_Land_spread_1 26 rfl) (n := 50) rfl) rfl tw_298 tw_300 ts_0 tw_301 hd_Land_earliestToPassOn rfl (by decide) (Nat.le_of_ble_eq_true rfl) (fun r9 M10 => ?_)
    refine EJ_istore 61 (lv2 := [(4, .int _), (0, .ref _), (3, .int _)]) (dk_54 (bt bc_Land_spread_1 27 rfl) (bt bc_Land_spread_1 28 rfl)) rfl (by decide) rfl ?_
    refine EJ_iload 63 0 (dk_21 (bt bc_Land_spread_1 29 rfl) (bt bc_Land_spread_1 30 rfl)) rfl rfl ?_
    refine EJ_iconst 64 (dk_2 (bt bc_Land_spread_1 31 rfl)) rfl (v := (-1)) kI_m1 ?_
    refine EJ_icmp_ne 68 67 (dk_160 (bt bc_Land_spread_2 0 rfl) (bt bc_Land_spread_2 1 rfl) (bt bc_Land_spread_2 2 rfl) (n := 4) rfl) (by decide) rfl (fun _ => ?_) (fun _ => ?_)
    · refine EJ_aload_n 69 1 (dk_42 (bt bc_Land_spread_2 4 rfl)) rfl rfl ?_
      refine EJ_iload 71 0 (dk_21 (bt bc_Land_spread_2 5 rfl) (bt bc_Land_spread_2 6 rfl)) rfl rfl ?_
      refine EJ_ck (fun h11 => ?_)
      refine EJ_callVv (Y2 := Y_Land_passOn) 74 cf4 (s_Land_passOn G _ _ _) (of_decide_eq_true h11) rfl (dk_182 (bt bc_Land_spread_2 7 rfl) (bt bc_Land_spread_2 8 rfl) (bt bc_Land_spread_2 9 rfl) (n := 54) rfl) rfl tw_302 tw_304 ts_1 tw_305 hd_Land_passOn rfl (by decide) (Nat.le_of_ble_eq_true rfl) (fun _ M13 => ?_)
      refine EJ_iinc 77 2 (lv2 := [(3, .int _), (4, .int _), (0, .ref _)]) (dk_132 (bt bc_Land_spread_2 10 rfl) (bt bc_Land_spread_2 11 rfl) (bt bc_Land_spread_2 12 rfl) (n := 1) rfl) rfl (by decide) rfl (v := 1) kI_1 rfl ?_
      refine EJ_goto 47 (dk_167 (bt bc_Land_spread_2 13 rfl) (bt bc_Land_spread_2 14 rfl) (bt bc_Land_spread_2 15 rfl) (n := -30) rfl) (by decide) ?_
      exact EJ_pick (lv2 := [(0, .ref _), (3, .int _)]) [2, 0] rfl (hk47 _ _ _)
    · exact EJ_vret rfl (dk_177 (bt bc_Land_spread_2 3 rfl))
def Land_spread_L47 (n : Nat) : Nat → Int32 → Mm → Option (Unit × Mm) :=
  match n with
  | 0 => fun _ _ _ => none
  | n + 1 => Land_spread_B47 (Land_spread_L47 n)
theorem e_Land_spread_L47 {G : Gx} : ∀ (n : Nat) (x0 : Nat) (x3 : Int32) (M : Mm), EJ G Y_Land_spread cvV 5 47 [(0, .ref x0), (3, .int x3)] [] M (Land_spread_L47 n x0 x3 M) := by
  intro n
  induction n with
  | zero => intros; exact EJ_none
  | succ n ih => intro x0 x3 M; exact e_Land_spread_B47 _ ih x0 x3 M
def Land_spread_B2 (k2 : Nat → Int32 → Int32 → Int32 → Mm → Option (Unit × Mm)) (x0 : Nat) (x1 : Int32) (x2 : Int32) (x3 : Int32) (M : Mm) : Option (Unit × Mm) :=
  if 10 ≤ x3 then (
    ck (kO M x0 4 7) (
    bd (Land_has M x0 x1) (fun r2 M3 =>
    if r2 = 0 then (
      some ((), M3))
    else (
      ck (kO M3 x0 4 7) (
      nn (mR M3 x0 4) (fun b5 =>
      ck (kA M3 b5 20 x1) (
      let M7 := sI M3 b5 (ix x1) x2
      Land_spread_L47 fu x0 0 M7)))))))
  else (
    ck (kO M x0 4 7) (
    nn (mR M x0 4) (fun b16 =>
    ck (kA M b16 20 x3) (
    let M18 := sI M b16 (ix x3) 2147483647
    nn (mR M18 x0 5) (fun b19 =>
    ck (kA M18 b19 22 x3) (
    let M21 := sI M18 b19 (ix x3) 0
    let v22 : Int32 := x3 + 1
    k2 x0 x1 x2 v22 M21))))))
set_option maxRecDepth 100000 in
set_option maxHeartbeats 4000000 in
theorem e_Land_spread_B2 {G : Gx} (k2 : Nat → Int32 → Int32 → Int32 → Mm → Option (Unit × Mm)) (hk2 : ∀ (x0 : Nat) (x1 : Int32) (x2 : Int32) (x3 : Int32) (M : Mm), EJ G Y_Land_spread cvV 5 2 [(0, .ref x0), (1, .int x1), (2, .int x2), (3, .int x3)] [] M (k2 x0 x1 x2 x3 M)) (x0 : Nat) (x1 : Int32) (x2 : Int32) (x3 : Int32) (M : Mm) : EJ G Y_Land_spread cvV 5 2 [(0, .ref x0), (1, .int x1), (2, .int x2), (3, .int x3)] [] M (Land_spread_B2 k2 x0 x1 x2 x3 M) := by
  unfold Land_spread_B2
  refine EJ_iload_n 3 3 (dk_29 (bt bc_Land_spread_0 2 rfl)) rfl rfl ?_
  refine EJ_bipush 5 (dk_16 (bt bc_Land_spread_0 3 rfl) (bt bc_Land_spread_0 4 rfl) (n := 10) rfl) rfl (v := 10) kB_10 ?_
  refine EJ_icmp_ge 29 8 (dk_162 (bt bc_Land_spread_0 5 rfl) (bt bc_Land_spread_0 6 rfl) (bt bc_Land_spread_0 7 rfl) (n := 24) rfl) (by decide) rfl (fun _ => ?_) (fun _ => ?_)
  · refine EJ_aload_n 30 0 (dk_42 (bt bc_Land_spread_0 29 rfl)) rfl rfl ?_
    refine EJ_iload_n 31 1 (dk_27 (bt bc_Land_spread_0 30 rfl)) rfl rfl ?_
    refine EJ_ck (fun h1 => ?_)
    refine EJ_callVi (Y2 := Y_Land_has) 34 cf4 (s_Land_has G _ _ _) (of_decide_eq_true h1) rfl (dk_182 (bt bc_Land_spread_0 31 rfl) (bt bc_Land_spread_1 0 rfl) (bt bc_Land_spread_1 1 rfl) (n := 41) rfl) rfl tw_271 tw_272 tw_273 tw_274 hd_Land_has rfl (by decide) (Nat.le_of_ble_eq_true rfl) (fun r2 M3 => ?_)
    refine EJ_if_ne 38 37 (dk_154 (bt bc_Land_spread_1 2 rfl) (bt bc_Land_spread_1 3 rfl) (bt bc_Land_spread_1 4 rfl) (n := 4) rfl) (by decide) rfl (fun _ => ?_) (fun _ => ?_)
    · refine EJ_aload_n 39 0 (dk_42 (bt bc_Land_spread_1 6 rfl)) rfl rfl ?_
      refine EJ_ck (fun h4 => ?_)
      refine EJ_getR cf4 4 (by decide) 42 tw_42 (fun _ _ _ => rfl) (dk_180 (bt bc_Land_spread_1 7 rfl) (bt bc_Land_spread_1 8 rfl) (bt bc_Land_spread_1 9 rfl) (n := 24) rfl) rfl (of_decide_eq_true h4) (fun b5 => ?_)
      refine EJ_iload_n 43 1 (dk_27 (bt bc_Land_spread_1 10 rfl)) rfl rfl ?_
      refine EJ_iload_n 44 2 (dk_28 (bt bc_Land_spread_1 11 rfl)) rfl rfl ?_
      refine EJ_ck (fun h6 => ?_)
      refine EJ_iast 45 h6 (dk_79 (bt bc_Land_spread_1 12 rfl)) rfl ?_
      refine EJ_iconst 46 (dk_3 (bt bc_Land_spread_1 13 rfl)) rfl (v := 0) kI_0 ?_
      refine EJ_istore_n 47 (lv2 := [(3, .int _), (0, .ref _), (1, .int _), (2, .int _)]) (dk_62 (bt bc_Land_spread_1 14 rfl)) rfl (by decide) rfl ?_
      exact EJ_pick (lv2 := [(0, .ref _), (3, .int _)]) [1, 0] rfl (e_Land_spread_L47 fu _ _ _)
    · exact EJ_vret rfl (dk_177 (bt bc_Land_spread_1 5 rfl))
  · refine EJ_aload_n 9 0 (dk_42 (bt bc_Land_spread_0 8 rfl)) rfl rfl ?_
    refine EJ_ck (fun h15 => ?_)
    refine EJ_getR cf4 4 (by decide) 12 tw_42 (fun _ _ _ => rfl) (dk_180 (bt bc_Land_spread_0 9 rfl) (bt bc_Land_spread_0 10 rfl) (bt bc_Land_spread_0 11 rfl) (n := 24) rfl) rfl (of_decide_eq_true h15) (fun b16 => ?_)
    refine EJ_iload_n 13 3 (dk_29 (bt bc_Land_spread_0 12 rfl)) rfl rfl ?_
    refine EJ_ldc 15 (dk_18 (bt bc_Land_spread_0 13 rfl) (bt bc_Land_spread_0 14 rfl)) rfl tw_297 ?_
    refine EJ_ck (fun h17 => ?_)
    refine EJ_iast 16 h17 (dk_79 (bt bc_Land_spread_0 15 rfl)) rfl ?_
    refine EJ_aload_n 17 0 (dk_42 (bt bc_Land_spread_0 16 rfl)) rfl rfl ?_
    refine EJ_getR cf4 5 (by decide) 20 tw_43 (fun _ _ _ => rfl) (dk_180 (bt bc_Land_spread_0 17 rfl) (bt bc_Land_spread_0 18 rfl) (bt bc_Land_spread_0 19 rfl) (n := 27) rfl) rfl (kp_I (of_decide_eq_true h15)) (fun b19 => ?_)
    refine EJ_iload_n 21 3 (dk_29 (bt bc_Land_spread_0 20 rfl)) rfl rfl ?_
    refine EJ_iconst 22 (dk_3 (bt bc_Land_spread_0 21 rfl)) rfl (v := 0) kI_0 ?_
    refine EJ_ck (fun h20 => ?_)
    refine EJ_zast 23 h20 rfl (dk_84 (bt bc_Land_spread_0 22 rfl)) rfl ?_
    refine EJ_iinc 26 3 (lv2 := [(3, .int _), (0, .ref _), (1, .int _), (2, .int _)]) (dk_132 (bt bc_Land_spread_0 23 rfl) (bt bc_Land_spread_0 24 rfl) (bt bc_Land_spread_0 25 rfl) (n := 1) rfl) rfl (by decide) rfl (v := 1) kI_1 rfl ?_
    refine EJ_goto 2 (dk_167 (bt bc_Land_spread_0 26 rfl) (bt bc_Land_spread_0 27 rfl) (bt bc_Land_spread_0 28 rfl) (n := -24) rfl) (by decide) ?_
    exact EJ_pick (lv2 := [(0, .ref _), (1, .int _), (2, .int _), (3, .int _)]) [1, 2, 3, 0] rfl (hk2 _ _ _ _ _)
def Land_spread_L2 (n : Nat) : Nat → Int32 → Int32 → Int32 → Mm → Option (Unit × Mm) :=
  match n with
  | 0 => fun _ _ _ _ _ => none
  | n + 1 => Land_spread_B2 (Land_spread_L2 n)
theorem e_Land_spread_L2 {G : Gx} : ∀ (n : Nat) (x0 : Nat) (x1 : Int32) (x2 : Int32) (x3 : Int32) (M : Mm), EJ G Y_Land_spread cvV 5 2 [(0, .ref x0), (1, .int x1), (2, .int x2), (3, .int x3)] [] M (Land_spread_L2 n x0 x1 x2 x3 M) := by
  intro n
  induction n with
  | zero => intros; exact EJ_none
  | succ n ih => intro x0 x1 x2 x3 M; exact e_Land_spread_B2 _ ih x0 x1 x2 x3 M
def Land_spread (M : Mm) (a0 : Nat) (a1 : Int32) (a2 : Int32) : Option (Unit × Mm) :=
  Land_spread_L2 fu a0 a1 a2 0 M
set_option maxRecDepth 100000 in
set_option maxHeartbeats 4000000 in
theorem s_Land_spread (G : Gx) (M : Mm) (a0 : Nat) (a1 : Int32) (a2 : Int32) : FnS G Y_Land_spread cvV 5 [.ref a0, .int a1, .int a2] M (Land_spread M a0 a1 a2) := by
  refine FnS.ofE (by decide) (Nat.le_of_ble_eq_true rfl) ?_
  show EJ G Y_Land_spread cvV 5 0 [(0, .ref a0), (1, .int a1), (2, .int a2)] [] M _
  unfold Land_spread
  refine EJ_iconst 1 (dk_3 (bt bc_Land_spread_0 0 rfl)) rfl (v := 0) kI_0 ?_
  refine EJ_istore_n 2 (lv2 := [(3, .int _), (0, .ref _), (1, .int _), (2, .int _)]) (dk_62 (bt bc_Land_spread_0 1 rfl)) rfl (by decide) rfl ?_
  exact EJ_pick (lv2 := [(0, .ref _), (1, .int _), (2, .int _), (3, .int _)]) [1, 2, 3, 0] rfl (e_Land_spread_L2 fu _ _ _ _ _)
