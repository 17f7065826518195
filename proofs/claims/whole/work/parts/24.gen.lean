abbrev Y_Mod_nameOf : Ym := (⟨"RiceHallModel", "nameOf", "(J)I"⟩, prog_14_method_43_code, 3, (some FieldType.int))
theorem bc_Mod_nameOf_0 : bts prog_14_method_43_code 0 [31, 20, 1, 126, 148, 154, 0, 5, 3, 172, 31, 20, 1, 128, 148, 154, 0, 5, 4, 172, 31, 20, 1, 130, 148, 154, 0, 5, 5, 172, 31, 20] := bts_of (by decide +kernel)
theorem bc_Mod_nameOf_1 : bts prog_14_method_43_code 32 [1, 132, 148, 154, 0, 5, 6, 172, 31, 20, 1, 134, 148, 154, 0, 5, 7, 172, 31, 20, 1, 136, 148, 154, 0, 5, 8, 172, 31, 20, 1, 138] := bts_of (by decide +kernel)
theorem bc_Mod_nameOf_2 : bts prog_14_method_43_code 64 [148, 154, 0, 6, 16, 6, 172, 2, 172] := bts_of (by decide +kernel)
theorem hd_Mod_nameOf : Y_Mod_nameOf.1.cls = RX12 ∧ Y_Mod_nameOf.1.cls ≠ "java/lang/invoke/MethodHandle" ∧ Y_Mod_nameOf.1.cls ≠ "java/lang/invoke/VarHandle" ∧ (parseMethodDescriptor Y_Mod_nameOf.1.desc).map (fun d => d.parameters.length) = some 1 := by decide +kernel
def Mod_nameOf (M : Mm) (a0 : Nat) (a1 : Int64) : Option (Int32 × Mm) :=
  if a1 = 2968 then (
    some (0, M))
  else (
    if a1 = 168984 then (
      some (1, M))
    else (
      if a1 = 459652 then (
        some (2, M))
      else (
        if a1 = 1841972 then (
          some (3, M))
        else (
          if a1 = 200966728393 then (
            some (4, M))
          else (
            if a1 = 360941 then (
              some (5, M))
            else (
              if a1 = 11522 then (
                some (6, M))
              else (
                some ((-1), M))))))))
set_option maxRecDepth 100000 in
set_option maxHeartbeats 4000000 in
theorem s_Mod_nameOf (G : Gx) (M : Mm) (a0 : Nat) (a1 : Int64) : FnS G Y_Mod_nameOf cvI 1 [.ref a0, .long a1] M (Mod_nameOf M a0 a1) := by
  refine FnS.ofE (by decide) (Nat.le_of_ble_eq_true rfl) ?_
  show EJ G Y_Mod_nameOf cvI 1 0 [(0, .ref a0), (1, .long a1)] [] M _
  unfold Mod_nameOf
  refine EJ_lload_n 1 1 (dk_31 (bt bc_Mod_nameOf_0 0 rfl)) rfl rfl ?_
  refine EJ_ldc2 4 (dk_20 (bt bc_Mod_nameOf_0 1 rfl) (bt bc_Mod_nameOf_0 2 rfl) (bt bc_Mod_nameOf_0 3 rfl) (n := 382) rfl) rfl tw_1731 ?_
  refine EJ_lcmp_ne 10 8 (dk_148 (bt bc_Mod_nameOf_0 4 rfl)) (dk_154 (bt bc_Mod_nameOf_0 5 rfl) (bt bc_Mod_nameOf_0 6 rfl) (bt bc_Mod_nameOf_0 7 rfl) (n := 5) rfl) (by decide) rfl (fun _ => ?_) (fun _ => ?_)
  · refine EJ_lload_n 11 1 (dk_31 (bt bc_Mod_nameOf_0 10 rfl)) rfl rfl ?_
    refine EJ_ldc2 14 (dk_20 (bt bc_Mod_nameOf_0 11 rfl) (bt bc_Mod_nameOf_0 12 rfl) (bt bc_Mod_nameOf_0 13 rfl) (n := 384) rfl) rfl tw_1732 ?_
    refine EJ_lcmp_ne 20 18 (dk_148 (bt bc_Mod_nameOf_0 14 rfl)) (dk_154 (bt bc_Mod_nameOf_0 15 rfl) (bt bc_Mod_nameOf_0 16 rfl) (bt bc_Mod_nameOf_0 17 rfl) (n := 5) rfl) (by decide) rfl (fun _ => ?_) (fun _ => ?_)
    · refine EJ_lload_n 21 1 (dk_31 (bt bc_Mod_nameOf_0 20 rfl)) rfl rfl ?_
      refine EJ_ldc2 24 (dk_20 (bt bc_Mod_nameOf_0 21 rfl) (bt bc_Mod_nameOf_0 22 rfl) (bt bc_Mod_nameOf_0 23 rfl) (n := 386) rfl) rfl tw_1733 ?_
      refine EJ_lcmp_ne 30 28 (dk_148 (bt bc_Mod_nameOf_0 24 rfl)) (dk_154 (bt bc_Mod_nameOf_0 25 rfl) (bt bc_Mod_nameOf_0 26 rfl) (bt bc_Mod_nameOf_0 27 rfl) (n := 5) rfl) (by decide) rfl (fun _ => ?_) (fun _ => ?_)
      · refine EJ_lload_n 31 1 (dk_31 (bt bc_Mod_nameOf_0 30 rfl)) rfl rfl ?_
        refine EJ_ldc2 34 (dk_20 (bt bc_Mod_nameOf_0 31 rfl) (bt bc_Mod_nameOf_1 0 rfl) (bt bc_Mod_nameOf_1 1 rfl) (n := 388) rfl) rfl tw_1734 ?_
        refine EJ_lcmp_ne 40 38 (dk_148 (bt bc_Mod_nameOf_1 2 rfl)) (dk_154 (bt bc_Mod_nameOf_1 3 rfl) (bt bc_Mod_nameOf_1 4 rfl) (bt bc_Mod_nameOf_1 5 rfl) (n := 5) rfl) (by decide) rfl (fun _ => ?_) (fun _ => ?_)
        · refine EJ_lload_n 41 1 (dk_31 (bt bc_Mod_nameOf_1 8 rfl)) rfl rfl ?_
          refine EJ_ldc2 44 (dk_20 (bt bc_Mod_nameOf_1 9 rfl) (bt bc_Mod_nameOf_1 10 rfl) (bt bc_Mod_nameOf_1 11 rfl) (n := 390) rfl) rfl tw_1735 ?_
          refine EJ_lcmp_ne 50 48 (dk_148 (bt bc_Mod_nameOf_1 12 rfl)) (dk_154 (bt bc_Mod_nameOf_1 13 rfl) (bt bc_Mod_nameOf_1 14 rfl) (bt bc_Mod_nameOf_1 15 rfl) (n := 5) rfl) (by decide) rfl (fun _ => ?_) (fun _ => ?_)
          · refine EJ_lload_n 51 1 (dk_31 (bt bc_Mod_nameOf_1 18 rfl)) rfl rfl ?_
            refine EJ_ldc2 54 (dk_20 (bt bc_Mod_nameOf_1 19 rfl) (bt bc_Mod_nameOf_1 20 rfl) (bt bc_Mod_nameOf_1 21 rfl) (n := 392) rfl) rfl tw_1736 ?_
            refine EJ_lcmp_ne 60 58 (dk_148 (bt bc_Mod_nameOf_1 22 rfl)) (dk_154 (bt bc_Mod_nameOf_1 23 rfl) (bt bc_Mod_nameOf_1 24 rfl) (bt bc_Mod_nameOf_1 25 rfl) (n := 5) rfl) (by decide) rfl (fun _ => ?_) (fun _ => ?_)
            · refine EJ_lload_n 61 1 (dk_31 (bt bc_Mod_nameOf_1 28 rfl)) rfl rfl ?_
              refine EJ_ldc2 64 (dk_20 (bt bc_Mod_nameOf_1 29 rfl) (bt bc_Mod_nameOf_1 30 rfl) (bt bc_Mod_nameOf_1 31 rfl) (n := 394) rfl) rfl tw_1737 ?_
              refine EJ_lcmp_ne 71 68 (dk_148 (bt bc_Mod_nameOf_2 0 rfl)) (dk_154 (bt bc_Mod_nameOf_2 1 rfl) (bt bc_Mod_nameOf_2 2 rfl) (bt bc_Mod_nameOf_2 3 rfl) (n := 6) rfl) (by decide) rfl (fun _ => ?_) (fun _ => ?_)
              · refine EJ_iconst 72 (dk_2 (bt bc_Mod_nameOf_2 7 rfl)) rfl (v := (-1)) kI_m1 ?_
                exact EJ_iret rfl (dk_172 (bt bc_Mod_nameOf_2 8 rfl))
              · refine EJ_bipush 70 (dk_16 (bt bc_Mod_nameOf_2 4 rfl) (bt bc_Mod_nameOf_2 5 rfl) (n := 6) rfl) rfl (v := 6) kB_6 ?_
                exact EJ_iret rfl (dk_172 (bt bc_Mod_nameOf_2 6 rfl))
            · refine EJ_iconst 59 (dk_8 (bt bc_Mod_nameOf_1 26 rfl)) rfl (v := 5) kI_5 ?_
              exact EJ_iret rfl (dk_172 (bt bc_Mod_nameOf_1 27 rfl))
          · refine EJ_iconst 49 (dk_7 (bt bc_Mod_nameOf_1 16 rfl)) rfl (v := 4) kI_4 ?_
            exact EJ_iret rfl (dk_172 (bt bc_Mod_nameOf_1 17 rfl))
        · refine EJ_iconst 39 (dk_6 (bt bc_Mod_nameOf_1 6 rfl)) rfl (v := 3) kI_3 ?_
          exact EJ_iret rfl (dk_172 (bt bc_Mod_nameOf_1 7 rfl))
      · refine EJ_iconst 29 (dk_5 (bt bc_Mod_nameOf_0 28 rfl)) rfl (v := 2) kI_2 ?_
        exact EJ_iret rfl (dk_172 (bt bc_Mod_nameOf_0 29 rfl))
    · refine EJ_iconst 19 (dk_4 (bt bc_Mod_nameOf_0 18 rfl)) rfl (v := 1) kI_1 ?_
      exact EJ_iret rfl (dk_172 (bt bc_Mod_nameOf_0 19 rfl))
  · refine EJ_iconst 9 (dk_3 (bt bc_Mod_nameOf_0 8 rfl)) rfl (v := 0) kI_0 ?_
    exact EJ_iret rfl (dk_172 (bt bc_Mod_nameOf_0 9 rfl))
abbrev Y_Mod_number : Ym := (⟨"RiceHallModel", "number", "(I)I"⟩, prog_14_method_42_code, 3, (some FieldType.int))
theorem bc_Mod_number_0 : bts prog_14_method_42_code 0 [42, 180, 1, 107, 61, 42, 180, 1, 110, 5, 160, 0, 15, 28, 27, 161, 0, 10, 42, 182, 1, 120, 167, 0, 7, 42, 182, 1, 123, 28, 172] := bts_of (by decide +kernel)
theorem hd_Mod_number : Y_Mod_number.1.cls = RX12 ∧ Y_Mod_number.1.cls ≠ "java/lang/invoke/MethodHandle" ∧ Y_Mod_number.1.cls ≠ "java/lang/invoke/VarHandle" ∧ (parseMethodDescriptor Y_Mod_number.1.desc).map (fun d => d.parameters.length) = some 1 := by decide +kernel
def Mod_number_J25 (x0 : Nat) (x2 : Int32) (M : Mm) : Option (Int32 × Mm) :=
  ck (kO M x0 12 107) (
  bd (Mod_fails0 M x0) (fun _ M5 =>
  some (x2, M5)))
set_option maxRecDepth 100000 in
set_option maxHeartbeats 4000000 in
theorem e_Mod_number_J25 {G : Gx} (x0 : Nat) (x2 : Int32) (M : Mm) : EJ G Y_Mod_number cvI 3 25 [(0, .ref x0), (2, .int x2)] [] M (Mod_number_J25 x0 x2 M) := by
  unfold Mod_number_J25
  refine EJ_aload_n 26 0 (dk_42 (bt bc_Mod_number_0 25 rfl)) rfl rfl ?_
  refine EJ_ck (fun h3 => ?_)
  refine EJ_callVv (Y2 := Y_Mod_fails0) 29 cf12 (s_Mod_fails0 G _ _) (of_decide_eq_true h3) rfl (dk_182 (bt bc_Mod_number_0 26 rfl) (bt bc_Mod_number_0 27 rfl) (bt bc_Mod_number_0 28 rfl) (n := 379) rfl) rfl tw_1693 tw_1695 ts_53 tw_1696 hd_Mod_fails0 rfl (by decide) (Nat.le_of_ble_eq_true rfl) (fun _ M5 => ?_)
  refine EJ_iload_n 30 1 (dk_28 (bt bc_Mod_number_0 29 rfl)) rfl rfl ?_
  exact EJ_iret rfl (dk_172 (bt bc_Mod_number_0 30 rfl))
def Mod_number (M : Mm) (a0 : Nat) (a1 : Int32) : Option (Int32 × Mm) :=
  ck (kO M a0 12 107) (
  let v2 : Int32 := mI M a0 61
  if (mI M a0 59) = 2 then (
    if v2 < a1 then (
      Mod_number_J25 a0 v2 M)
    else (
      bd (Mod_next M a0) (fun _ M7 =>
      some (v2, M7))))
  else (
    Mod_number_J25 a0 v2 M))
set_option maxRecDepth 100000 in
set_option maxHeartbeats 4000000 in
theorem s_Mod_number (G : Gx) (M : Mm) (a0 : Nat) (a1 : Int32) : FnS G Y_Mod_number cvI 3 [.ref a0, .int a1] M (Mod_number M a0 a1) := by
  refine FnS.ofE (by decide) (Nat.le_of_ble_eq_true rfl) ?_
  show EJ G Y_Mod_number cvI 3 0 [(0, .ref a0), (1, .int a1)] [] M _
  unfold Mod_number
  refine EJ_aload_n 1 0 (dk_42 (bt bc_Mod_number_0 0 rfl)) rfl rfl ?_
  refine EJ_ck (fun h1 => ?_)
  refine EJ_getI cf12 61 (by decide) 4 tw_1259 (fun _ _ _ => rfl) (dk_180 (bt bc_Mod_number_0 1 rfl) (bt bc_Mod_number_0 2 rfl) (bt bc_Mod_number_0 3 rfl) (n := 363) rfl) rfl (of_decide_eq_true h1) ?_
  refine EJ_istore_n 5 (lv2 := [(2, .int _), (0, .ref _), (1, .int _)]) (dk_61 (bt bc_Mod_number_0 4 rfl)) rfl (by decide) rfl ?_
  refine EJ_aload_n 6 1 (dk_42 (bt bc_Mod_number_0 5 rfl)) rfl rfl ?_
  refine EJ_getI cf12 59 (by decide) 9 tw_1257 (fun _ _ _ => rfl) (dk_180 (bt bc_Mod_number_0 6 rfl) (bt bc_Mod_number_0 7 rfl) (bt bc_Mod_number_0 8 rfl) (n := 366) rfl) rfl (of_decide_eq_true h1) ?_
  refine EJ_iconst 10 (dk_5 (bt bc_Mod_number_0 9 rfl)) rfl (v := 2) kI_2 ?_
  refine EJ_icmp_ne 25 13 (dk_160 (bt bc_Mod_number_0 10 rfl) (bt bc_Mod_number_0 11 rfl) (bt bc_Mod_number_0 12 rfl) (n := 15) rfl) (by decide) rfl (fun _ => ?_) (fun _ => ?_)
  · exact EJ_pick (lv2 := [(0, .ref _), (2, .int _)]) [1, 0] rfl (e_Mod_number_J25 _ _ _)
  · refine EJ_iload_n 14 0 (dk_28 (bt bc_Mod_number_0 13 rfl)) rfl rfl ?_
    refine EJ_iload_n 15 2 (dk_27 (bt bc_Mod_number_0 14 rfl)) rfl rfl ?_
    refine EJ_icmp_lt 25 18 (dk_161 (bt bc_Mod_number_0 15 rfl) (bt bc_Mod_number_0 16 rfl) (bt bc_Mod_number_0 17 rfl) (n := 10) rfl) (by decide) rfl (fun _ => ?_) (fun _ => ?_)
    · exact EJ_pick (lv2 := [(0, .ref _), (2, .int _)]) [1, 0] rfl (e_Mod_number_J25 _ _ _)
    · refine EJ_aload_n 19 1 (dk_42 (bt bc_Mod_number_0 18 rfl)) rfl rfl ?_
      refine EJ_callVv (Y2 := Y_Mod_next) 22 cf12 (s_Mod_next G _ _) (of_decide_eq_true h1) rfl (dk_182 (bt bc_Mod_number_0 19 rfl) (bt bc_Mod_number_0 20 rfl) (bt bc_Mod_number_0 21 rfl) (n := 376) rfl) rfl tw_1682 tw_1684 ts_51 tw_1685 hd_Mod_next rfl (by decide) (Nat.le_of_ble_eq_true rfl) (fun _ M7 => ?_)
      refine EJ_goto 29 (dk_167 (bt bc_Mod_number_0 22 rfl) (bt bc_Mod_number_0 23 rfl) (bt bc_Mod_number_0 24 rfl) (n := 7) rfl) (by decide) ?_
      refine EJ_iload_n 30 0 (dk_28 (bt bc_Mod_number_0 29 rfl)) rfl rfl ?_
      exact EJ_iret rfl (dk_172 (bt bc_Mod_number_0 30 rfl))
abbrev Y_Mod_node : Ym := (⟨"RiceHallModel", "node", "(IIII)I"⟩, prog_14_method_45_code, 5, (some FieldType.int))
theorem bc_Mod_node_0 : bts prog_14_method_45_code 0 [42, 180, 0, 118, 42, 180, 1, 162, 27, 79, 42, 180, 0, 121, 42, 180, 1, 162, 28, 79, 42, 180, 0, 124, 42, 180, 1, 162, 29, 79, 42, 180] := bts_of (by decide +kernel)
theorem bc_Mod_node_1 : bts prog_14_method_45_code 32 [0, 127, 42, 180, 1, 162, 21, 4, 79, 42, 89, 180, 1, 162, 4, 96, 181, 1, 162, 42, 180, 1, 162, 4, 100, 172] := bts_of (by decide +kernel)
theorem hd_Mod_node : Y_Mod_node.1.cls = RX12 ∧ Y_Mod_node.1.cls ≠ "java/lang/invoke/MethodHandle" ∧ Y_Mod_node.1.cls ≠ "java/lang/invoke/VarHandle" ∧ (parseMethodDescriptor Y_Mod_node.1.desc).map (fun d => d.parameters.length) = some 4 := by decide +kernel
def Mod_node (M : Mm) (a0 : Nat) (a1 : Int32) (a2 : Int32) (a3 : Int32) (a4 : Int32) : Option (Int32 × Mm) :=
  ck (kO M a0 12 107) (
  nn (mR M a0 47) (fun b2 =>
  ck (kA M b2 20 (mI M a0 52)) (
  let M4 := sI M b2 (ix (mI M a0 52)) a1
  nn (mR M4 a0 48) (fun b5 =>
  ck (kA M4 b5 20 (mI M4 a0 52)) (
  let M7 := sI M4 b5 (ix (mI M4 a0 52)) a2
  nn (mR M7 a0 49) (fun b8 =>
  ck (kA M7 b8 20 (mI M7 a0 52)) (
  let M10 := sI M7 b8 (ix (mI M7 a0 52)) a3
  nn (mR M10 a0 50) (fun b11 =>
  ck (kA M10 b11 20 (mI M10 a0 52)) (
  let M13 := sI M10 b11 (ix (mI M10 a0 52)) a4
  let M14 := sI M13 a0 52 ((mI M13 a0 52) + 1)
  some ((mI M14 a0 52) - 1, M14))))))))))
set_option maxRecDepth 100000 in
set_option maxHeartbeats 4000000 in
theorem s_Mod_node (G : Gx) (M : Mm) (a0 : Nat) (a1 : Int32) (a2 : Int32) (a3 : Int32) (a4 : Int32) : FnS G Y_Mod_node cvI 1 [.ref a0, .int a1, .int a2, .int a3, .int a4] M (Mod_node M a0 a1 a2 a3 a4) := by
  refine FnS.ofE (by decide) (Nat.le_of_ble_eq_true rfl) ?_
  show EJ G Y_Mod_node cvI 1 0 [(0, .ref a0), (1, .int a1), (2, .int a2), (3, .int a3), (4, .int a4)] [] M _
  unfold Mod_node
  refine EJ_aload_n 1 0 (dk_42 (bt bc_Mod_node_0 0 rfl)) rfl rfl ?_
  refine EJ_ck (fun h1 => ?_)
  refine EJ_getR cf12 47 (by decide) 4 tw_1245 (fun _ _ _ => rfl) (dk_180 (bt bc_Mod_node_0 1 rfl) (bt bc_Mod_node_0 2 rfl) (bt bc_Mod_node_0 3 rfl) (n := 118) rfl) rfl (of_decide_eq_true h1) (fun b2 => ?_)
  refine EJ_aload_n 5 0 (dk_42 (bt bc_Mod_node_0 4 rfl)) rfl rfl ?_
  refine EJ_getI cf12 52 (by decide) 8 tw_1250 (fun _ _ _ => rfl) (dk_180 (bt bc_Mod_node_0 5 rfl) (bt bc_Mod_node_0 6 rfl) (bt bc_Mod_node_0 7 rfl) (n := 418) rfl) rfl (of_decide_eq_true h1) ?_
  refine EJ_iload_n 9 1 (dk_27 (bt bc_Mod_node_0 8 rfl)) rfl rfl ?_
  refine EJ_ck (fun h3 => ?_)
  refine EJ_iast 10 h3 (dk_79 (bt bc_Mod_node_0 9 rfl)) rfl ?_
  refine EJ_aload_n 11 0 (dk_42 (bt bc_Mod_node_0 10 rfl)) rfl rfl ?_
  refine EJ_getR cf12 48 (by decide) 14 tw_1246 (fun _ _ _ => rfl) (dk_180 (bt bc_Mod_node_0 11 rfl) (bt bc_Mod_node_0 12 rfl) (bt bc_Mod_node_0 13 rfl) (n := 121) rfl) rfl (kp_I (of_decide_eq_true h1)) (fun b5 => ?_)
  refine EJ_aload_n 15 0 (dk_42 (bt bc_Mod_node_0 14 rfl)) rfl rfl ?_
  refine EJ_getI cf12 52 (by decide) 18 tw_1250 (fun _ _ _ => rfl) (dk_180 (bt bc_Mod_node_0 15 rfl) (bt bc_Mod_node_0 16 rfl) (bt bc_Mod_node_0 17 rfl) (n := 418) rfl) rfl (kp_I (of_decide_eq_true h1)) ?_
  refine EJ_iload_n 19 2 (dk_28 (bt bc_Mod_node_0 18 rfl)) rfl rfl ?_
  refine EJ_ck (fun h6 => ?_)
  refine EJ_iast 20 h6 (dk_79 (bt bc_Mod_node_0 19 rfl)) rfl ?_
  refine EJ_aload_n 21 0 (dk_42 (bt bc_Mod_node_0 20 rfl)) rfl rfl ?_
  refine EJ_getR cf12 49 (by decide) 24 tw_1247 (fun _ _ _ => rfl) (dk_180 (bt bc_Mod_node_0 21 rfl) (bt bc_Mod_node_0 22 rfl) (bt bc_Mod_node_0 23 rfl) (n := 124) rfl) rfl (kp_I (kp_I (of_decide_eq_true h1))) (fun b8 => ?_)
  refine EJ_aload_n 25 0 (dk_42 (bt bc_Mod_node_0 24 rfl)) rfl rfl ?_
  refine EJ_getI cf12 52 (by decide) 28 tw_1250 (fun _ _ _ => rfl) (dk_180 (bt bc_Mod_node_0 25 rfl) (bt bc_Mod_node_0 26 rfl) (bt bc_Mod_node_0 27 rfl) (n := 418) rfl) rfl (kp_I (kp_I (of_decide_eq_true h1))) ?_
  refine EJ_iload_n 29 3 (dk_29 (bt bc_Mod_node_0 28 rfl)) rfl rfl ?_
  refine EJ_ck (fun h9 => ?_)
  refine EJ_iast 30 h9 (dk_79 (bt bc_Mod_node_0 29 rfl)) rfl ?_
  refine EJ_aload_n 31 0 (dk_42 (bt bc_Mod_node_0 30 rfl)) rfl rfl ?_
  refine EJ_getR cf12 50 (by decide) 34 tw_1248 (fun _ _ _ => rfl) (dk_180 (bt bc_Mod_node_0 31 rfl) (bt bc_Mod_node_1 0 rfl) (bt bc_Mod_node_1 1 rfl) (n := 127) rfl) rfl (kp_I (kp_I (kp_I (of_decide_eq_true h1)))) (fun b11 => ?_)
  refine EJ_aload_n 35 0 (dk_42 (bt bc_Mod_node_1 2 rfl)) rfl rfl ?_
  refine EJ_getI cf12 52 (by decide) 38 tw_1250 (fun _ _ _ => rfl) (dk_180 (bt bc_Mod_node_1 3 rfl) (bt bc_Mod_node_1 4 rfl) (bt bc_Mod_node_1 5 rfl) (n := 418) rfl) rfl (kp_I (kp_I (kp_I (of_decide_eq_true h1)))) ?_
  refine EJ_iload 40 4 (dk_21 (bt bc_Mod_node_1 6 rfl) (bt bc_Mod_node_1 7 rfl)) rfl rfl ?_
  refine EJ_ck (fun h12 => ?_)
  refine EJ_iast 41 h12 (dk_79 (bt bc_Mod_node_1 8 rfl)) rfl ?_
  refine EJ_aload_n 42 0 (dk_42 (bt bc_Mod_node_1 9 rfl)) rfl rfl ?_
  refine EJ_dup 43 (dk_89 (bt bc_Mod_node_1 10 rfl)) rfl rfl ?_
  refine EJ_getI cf12 52 (by decide) 46 tw_1250 (fun _ _ _ => rfl) (dk_180 (bt bc_Mod_node_1 11 rfl) (bt bc_Mod_node_1 12 rfl) (bt bc_Mod_node_1 13 rfl) (n := 418) rfl) rfl (kp_I (kp_I (kp_I (kp_I (of_decide_eq_true h1))))) ?_
  refine EJ_iconst 47 (dk_4 (bt bc_Mod_node_1 14 rfl)) rfl (v := 1) kI_1 ?_
  refine EJ_iadd 48 (dk_96 (bt bc_Mod_node_1 15 rfl)) rfl ?_
  refine EJ_putI cf12 52 (by decide) 51 tw_1250 rfl (Or.inl rfl) (dk_181 (bt bc_Mod_node_1 16 rfl) (bt bc_Mod_node_1 17 rfl) (bt bc_Mod_node_1 18 rfl) (n := 418) rfl) rfl (kp_I (kp_I (kp_I (kp_I (of_decide_eq_true h1))))) ?_
  refine EJ_aload_n 52 0 (dk_42 (bt bc_Mod_node_1 19 rfl)) rfl rfl ?_
  refine EJ_getI cf12 52 (by decide) 55 tw_1250 (fun _ _ _ => rfl) (dk_180 (bt bc_Mod_node_1 20 rfl) (bt bc_Mod_node_1 21 rfl) (bt bc_Mod_node_1 22 rfl) (n := 418) rfl) rfl (kp_I (kp_I (kp_I (kp_I (kp_I (of_decide_eq_true h1)))))) ?_
  refine EJ_iconst 56 (dk_4 (bt bc_Mod_node_1 23 rfl)) rfl (v := 1) kI_1 ?_
  refine EJ_isub 57 (dk_100 (bt bc_Mod_node_1 24 rfl)) rfl ?_
  exact EJ_iret rfl (dk_172 (bt bc_Mod_node_1 25 rfl))
abbrev Y_Mod_ends : Ym := (⟨"RiceHallModel", "ends", "(I)V"⟩, prog_14_method_47_code, 2, none)
theorem bc_Mod_ends_0 : bts prog_14_method_47_code 0 [42, 27, 181, 1, 168, 42, 89, 180, 1, 165, 4, 100, 181, 1, 165, 177] := bts_of (by decide +kernel)
theorem hd_Mod_ends : Y_Mod_ends.1.cls = RX12 ∧ Y_Mod_ends.1.cls ≠ "java/lang/invoke/MethodHandle" ∧ Y_Mod_ends.1.cls ≠ "java/lang/invoke/VarHandle" ∧ (parseMethodDescriptor Y_Mod_ends.1.desc).map (fun d => d.parameters.length) = some 1 := by decide +kernel
def Mod_ends (M : Mm) (a0 : Nat) (a1 : Int32) : Option (Unit × Mm) :=
  ck (kO M a0 12 107) (
  let M2 := sI M a0 63 a1
  let M3 := sI M2 a0 69 ((mI M2 a0 69) - 1)
  some ((), M3))
set_option maxRecDepth 100000 in
set_option maxHeartbeats 4000000 in
theorem s_Mod_ends (G : Gx) (M : Mm) (a0 : Nat) (a1 : Int32) : FnS G Y_Mod_ends cvV 1 [.ref a0, .int a1] M (Mod_ends M a0 a1) := by
  refine FnS.ofE (by decide) (Nat.le_of_ble_eq_true rfl) ?_
  show EJ G Y_Mod_ends cvV 1 0 [(0, .ref a0), (1, .int a1)] [] M _
  unfold Mod_ends
  refine EJ_aload_n 1 0 (dk_42 (bt bc_Mod_ends_0 0 rfl)) rfl rfl ?_
  refine EJ_iload_n 2 1 (dk_27 (bt bc_Mod_ends_0 1 rfl)) rfl rfl ?_
  refine EJ_ck (fun h1 => ?_)
  refine EJ_putI cf12 63 (by decide) 5 tw_1261 rfl (Or.inl rfl) (dk_181 (bt bc_Mod_ends_0 2 rfl) (bt bc_Mod_ends_0 3 rfl) (bt bc_Mod_ends_0 4 rfl) (n := 424) rfl) rfl (of_decide_eq_true h1) ?_
  refine EJ_aload_n 6 0 (dk_42 (bt bc_Mod_ends_0 5 rfl)) rfl rfl ?_
  refine EJ_dup 7 (dk_89 (bt bc_Mod_ends_0 6 rfl)) rfl rfl ?_
  refine EJ_getI cf12 69 (by decide) 10 tw_1267 (fun _ _ _ => rfl) (dk_180 (bt bc_Mod_ends_0 7 rfl) (bt bc_Mod_ends_0 8 rfl) (bt bc_Mod_ends_0 9 rfl) (n := 421) rfl) rfl (kp_I (of_decide_eq_true h1)) ?_
  refine EJ_iconst 11 (dk_4 (bt bc_Mod_ends_0 10 rfl)) rfl (v := 1) kI_1 ?_
  refine EJ_isub 12 (dk_100 (bt bc_Mod_ends_0 11 rfl)) rfl ?_
  refine EJ_putI cf12 69 (by decide) 15 tw_1267 rfl (Or.inl rfl) (dk_181 (bt bc_Mod_ends_0 12 rfl) (bt bc_Mod_ends_0 13 rfl) (bt bc_Mod_ends_0 14 rfl) (n := 421) rfl) rfl (kp_I (of_decide_eq_true h1)) ?_
  exact EJ_vret rfl (dk_177 (bt bc_Mod_ends_0 15 rfl))
abbrev Y_Mod_fact : Ym := (⟨"RiceHallModel", "fact", "(I)V"⟩, prog_14_method_51_code, 5, none)
theorem bc_Mod_fact_0 : bts prog_14_method_51_code 0 [42, 180, 0, 143, 27, 46, 154, 0, 165, 42, 20, 1, 200, 182, 1, 193, 153, 0, 22, 42, 182, 1, 202, 42, 180, 0, 143, 27, 4, 79, 42, 5] := bts_of (by decide +kernel)
theorem bc_Mod_fact_1 : bts prog_14_method_51_code 32 [182, 1, 174, 167, 0, 212, 42, 16, 40, 182, 1, 205, 153, 0, 22, 42, 182, 1, 202, 42, 180, 0, 143, 27, 5, 79, 42, 3, 182, 1, 174, 167] := bts_of (by decide +kernel)
theorem bc_Mod_fact_2 : bts prog_14_method_51_code 64 [0, 184, 42, 180, 1, 110, 4, 160, 0, 14, 42, 42, 180, 1, 101, 182, 1, 208, 167, 0, 4, 2, 61, 28, 156, 0, 8, 42, 182, 1, 123, 177] := bts_of (by decide +kernel)
theorem bc_Mod_fact_3 : bts prog_14_method_51_code 96 [42, 182, 1, 120, 42, 180, 1, 104, 62, 42, 16, 60, 182, 1, 205, 154, 0, 26, 42, 16, 62, 182, 1, 205, 154, 0, 17, 42, 16, 61, 182, 1] := bts_of (by decide +kernel)
theorem bc_Mod_fact_4 : bts prog_14_method_51_code 128 [205, 154, 0, 8, 42, 182, 1, 123, 177, 42, 182, 1, 120, 42, 3, 182, 1, 212, 54, 4, 42, 180, 1, 116, 154, 0, 16, 42, 42, 3, 28, 29] := bts_of (by decide +kernel)
theorem bc_Mod_fact_5 : bts prog_14_method_51_code 160 [21, 4, 182, 1, 185, 182, 1, 197, 167, 0, 79, 42, 180, 0, 143, 27, 46, 4, 160, 0, 31, 42, 89, 180, 1, 171, 4, 100, 181, 1, 171, 42] := bts_of (by decide +kernel)
theorem bc_Mod_fact_6 : bts prog_14_method_51_code 192 [42, 4, 42, 180, 1, 168, 3, 3, 182, 1, 185, 182, 1, 197, 167, 0, 41, 42, 16, 41, 182, 1, 205, 153, 0, 10, 42, 182, 1, 120, 167, 0] := bts_of (by decide +kernel)
theorem bc_Mod_fact_7 : bts prog_14_method_51_code 224 [7, 42, 182, 1, 123, 42, 89, 180, 1, 171, 4, 100, 181, 1, 171, 42, 42, 180, 1, 168, 182, 1, 197, 177] := bts_of (by decide +kernel)
theorem hd_Mod_fact : Y_Mod_fact.1.cls = RX12 ∧ Y_Mod_fact.1.cls ≠ "java/lang/invoke/MethodHandle" ∧ Y_Mod_fact.1.cls ≠ "java/lang/invoke/VarHandle" ∧ (parseMethodDescriptor Y_Mod_fact.1.desc).map (fun d => d.parameters.length) = some 1 := by decide +kernel
def Mod_fact_J229 (x0 : Nat) (M : Mm) : Option (Unit × Mm) :=
  ck (kO M x0 12 107) (
  let M12 := sI M x0 62 ((mI M x0 62) - 1)
  bd (Mod_ends M12 x0 (mI M12 x0 63)) (fun _ M14 =>
  some ((), M14)))
set_option maxRecDepth 100000 in
set_option maxHeartbeats 4000000 in
theorem e_Mod_fact_J229 {G : Gx} (x0 : Nat) (M : Mm) : EJ G Y_Mod_fact cvV 4 229 [(0, .ref x0)] [] M (Mod_fact_J229 x0 M) := by
  unfold Mod_fact_J229
  refine EJ_aload_n 230 0 (dk_42 (bt bc_Mod_fact_7 5 rfl)) rfl rfl ?_
  refine EJ_dup 231 (dk_89 (bt bc_Mod_fact_7 6 rfl)) rfl rfl ?_
  refine EJ_ck (fun h11 => ?_)
  refine EJ_getI cf12 62 (by decide) 234 tw_1260 (fun _ _ _ => rfl) (dk_180 (bt bc_Mod_fact_7 7 rfl) (bt bc_Mod_fact_7 8 rfl) (bt bc_Mod_fact_7 9 rfl) (n := 427) rfl) rfl (of_decide_eq_true h11) ?_
  refine EJ_iconst 235 (dk_4 (bt bc_Mod_fact_7 10 rfl)) rfl (v := 1) kI_1 ?_
  refine EJ_isub 236 (dk_100 (bt bc_Mod_fact_7 11 rfl)) rfl ?_
  refine EJ_putI cf12 62 (by decide) 239 tw_1260 rfl (Or.inl rfl) (dk_181 (bt bc_Mod_fact_7 12 rfl) (bt bc_Mod_fact_7 13 rfl) (bt bc_Mod_fact_7 14 rfl) (n := 427) rfl) rfl (of_decide_eq_true h11) ?_
  refine EJ_aload_n 240 0 (dk_42 (bt bc_Mod_fact_7 15 rfl)) rfl rfl ?_
  refine EJ_aload_n 241 0 (dk_42 (bt bc_Mod_fact_7 16 rfl)) rfl rfl ?_
  refine EJ_getI cf12 63 (by decide) 244 tw_1261 (fun _ _ _ => rfl) (dk_180 (bt bc_Mod_fact_7 17 rfl) (bt bc_Mod_fact_7 18 rfl) (bt bc_Mod_fact_7 19 rfl) (n := 424) rfl) rfl (kp_I (of_decide_eq_true h11)) ?_
  refine EJ_callVv (Y2 := Y_Mod_ends) 247 cf12 (s_Mod_ends G _ _ _) (kp_I (of_decide_eq_true h11)) rfl (dk_182 (bt bc_Mod_fact_7 20 rfl) (bt bc_Mod_fact_7 21 rfl) (bt bc_Mod_fact_7 22 rfl) (n := 453) rfl) rfl tw_1746 tw_1748 ts_64 tw_1749 hd_Mod_ends rfl (by decide) (Nat.le_of_ble_eq_true rfl) (fun _ M14 => ?_)
  exact EJ_vret rfl (dk_177 (bt bc_Mod_fact_7 23 rfl))
def Mod_fact_J137 (x0 : Nat) (x2 : Int32) (x3 : Int32) (M : Mm) : Option (Unit × Mm) :=
  ck (kO M x0 12 107) (
  bd (Mod_next M x0) (fun _ M39 =>
  ck (kO M39 x0 12 107) (
  bd (Mod_number M39 x0 0) (fun r41 M42 =>
  ck (kO M42 x0 12 107) (
  if (mI M42 x0 65) = 0 then (
    bd (Mod_node M42 x0 0 x2 x3 r41) (fun r44 M45 =>
    ck (kO M45 x0 12 107) (
    bd (Mod_ends M45 x0 r44) (fun _ M48 =>
    some ((), M48)))))
  else (
    some ((), M42)))))))
set_option maxRecDepth 100000 in
set_option maxHeartbeats 4000000 in
theorem e_Mod_fact_J137 {G : Gx} (x0 : Nat) (x2 : Int32) (x3 : Int32) (M : Mm) : EJ G Y_Mod_fact cvV 4 137 [(0, .ref x0), (2, .int x2), (3, .int x3)] [] M (Mod_fact_J137 x0 x2 x3 M) := by
  unfold Mod_fact_J137
  refine EJ_aload_n 138 0 (dk_42 (bt bc_Mod_fact_4 9 rfl)) rfl rfl ?_
  refine EJ_ck (fun h37 => ?_)
  refine EJ_callVv (Y2 := Y_Mod_next) 141 cf12 (s_Mod_next G _ _) (of_decide_eq_true h37) rfl (dk_182 (bt bc_Mod_fact_4 10 rfl) (bt bc_Mod_fact_4 11 rfl) (bt bc_Mod_fact_4 12 rfl) (n := 376) rfl) rfl tw_1682 tw_1684 ts_51 tw_1685 hd_Mod_next rfl (by decide) (Nat.le_of_ble_eq_true rfl) (fun _ M39 => ?_)
  refine EJ_aload_n 142 0 (dk_42 (bt bc_Mod_fact_4 13 rfl)) rfl rfl ?_
  refine EJ_iconst 143 (dk_3 (bt bc_Mod_fact_4 14 rfl)) rfl (v := 0) kI_0 ?_
  refine EJ_ck (fun h40 => ?_)
  refine EJ_callVi (Y2 := Y_Mod_number) 146 cf12 (s_Mod_number G _ _ _) (of_decide_eq_true h40) rfl (dk_182 (bt bc_Mod_fact_4 15 rfl) (bt bc_Mod_fact_4 16 rfl) (bt bc_Mod_fact_4 17 rfl) (n := 468) rfl) rfl tw_1738 tw_1740 ts_62 tw_1741 hd_Mod_number rfl (by decide) (Nat.le_of_ble_eq_true rfl) (fun r41 M42 => ?_)
  refine EJ_istore 148 (lv2 := [(4, .int _), (0, .ref _), (2, .int _), (3, .int _)]) (dk_54 (bt bc_Mod_fact_4 18 rfl) (bt bc_Mod_fact_4 19 rfl)) rfl (by decide) rfl ?_
  refine EJ_aload_n 149 1 (dk_42 (bt bc_Mod_fact_4 20 rfl)) rfl rfl ?_
  refine EJ_ck (fun h43 => ?_)
  refine EJ_getI cf12 65 (by decide) 152 tw_1263 (fun _ _ _ => rfl) (dk_180 (bt bc_Mod_fact_4 21 rfl) (bt bc_Mod_fact_4 22 rfl) (bt bc_Mod_fact_4 23 rfl) (n := 372) rfl) rfl (of_decide_eq_true h43) ?_
  refine EJ_if_ne 168 155 (dk_154 (bt bc_Mod_fact_4 24 rfl) (bt bc_Mod_fact_4 25 rfl) (bt bc_Mod_fact_4 26 rfl) (n := 16) rfl) (by decide) rfl (fun _ => ?_) (fun _ => ?_)
  · refine EJ_goto 247 (dk_167 (bt bc_Mod_fact_5 8 rfl) (bt bc_Mod_fact_5 9 rfl) (bt bc_Mod_fact_5 10 rfl) (n := 79) rfl) (by decide) ?_
    exact EJ_vret rfl (dk_177 (bt bc_Mod_fact_7 23 rfl))
  · refine EJ_aload_n 156 1 (dk_42 (bt bc_Mod_fact_4 27 rfl)) rfl rfl ?_
    refine EJ_aload_n 157 1 (dk_42 (bt bc_Mod_fact_4 28 rfl)) rfl rfl ?_
    refine EJ_iconst 158 (dk_3 (bt bc_Mod_fact_4 29 rfl)) rfl (v := 0) kI_0 ?_
    refine EJ_iload_n 159 2 (dk_28 (bt bc_Mod_fact_4 30 rfl)) rfl rfl ?_
    refine EJ_iload_n 160 3 (dk_29 (bt bc_Mod_fact_4 31 rfl)) rfl rfl ?_
    refine EJ_iload 162 0 (dk_21 (bt bc_Mod_fact_5 0 rfl) (bt bc_Mod_fact_5 1 rfl)) rfl rfl ?_
    refine EJ_callVi (Y2 := Y_Mod_node) 165 cf12 (s_Mod_node G _ _ _ _ _ _) (of_decide_eq_true h43) rfl (dk_182 (bt bc_Mod_fact_5 2 rfl) (bt bc_Mod_fact_5 3 rfl) (bt bc_Mod_fact_5 4 rfl) (n := 441) rfl) rfl tw_1742 tw_1744 ts_63 tw_1745 hd_Mod_node rfl (by decide) (Nat.le_of_ble_eq_true rfl) (fun r44 M45 => ?_)
    refine EJ_ck (fun h46 => ?_)
    refine EJ_callVv (Y2 := Y_Mod_ends) 168 cf12 (s_Mod_ends G _ _ _) (of_decide_eq_true h46) rfl (dk_182 (bt bc_Mod_fact_5 5 rfl) (bt bc_Mod_fact_5 6 rfl) (bt bc_Mod_fact_5 7 rfl) (n := 453) rfl) rfl tw_1746 tw_1748 ts_64 tw_1749 hd_Mod_ends rfl (by decide) (Nat.le_of_ble_eq_true rfl) (fun _ M48 => ?_)
    refine EJ_goto 247 (dk_167 (bt bc_Mod_fact_5 8 rfl) (bt bc_Mod_fact_5 9 rfl) (bt bc_Mod_fact_5 10 rfl) (n := 79) rfl) (by decide) ?_
    exact EJ_vret rfl (dk_177 (bt bc_Mod_fact_7 23 rfl))
def Mod_fact_J86 (x0 : Nat) (s0 : Int32) (M : Mm) : Option (Unit × Mm) :=
  if 0 ≤ s0 then (
    ck (kO M x0 12 107) (
    bd (Mod_next M x0) (fun _ M32 =>
    ck (kO M32 x0 12 107) (
    let v34 : Int32 := mI M32 x0 60
    bd (Mod_isSign M32 x0 60) (fun r35 M36 =>
    if r35 = 0 then (
      ck (kO M36 x0 12 107) (
      bd (Mod_isSign M36 x0 62) (fun r50 M51 =>
      if r50 = 0 then (
        ck (kO M51 x0 12 107) (
        bd (Mod_isSign M51 x0 61) (fun r53 M54 =>
        if r53 = 0 then (
          ck (kO M54 x0 12 107) (
          bd (Mod_fails0 M54 x0) (fun _ M57 =>
          some ((), M57))))
        else (
          Mod_fact_J137 x0 s0 v34 M54))))
      else (
        Mod_fact_J137 x0 s0 v34 M51))))
    else (
      Mod_fact_J137 x0 s0 v34 M36))))))
  else (
    ck (kO M x0 12 107) (
    bd (Mod_fails0 M x0) (fun _ M60 =>
    some ((), M60))))
set_option maxRecDepth 100000 in
set_option maxHeartbeats 4000000 in
theorem e_Mod_fact_J86 {G : Gx} (x0 : Nat) (s0 : Int32) (M : Mm) : EJ G Y_Mod_fact cvV 4 86 [(0, .ref x0)] [.int s0] M (Mod_fact_J86 x0 s0 M) := by
  unfold Mod_fact_J86
  refine EJ_istore_n 87 (lv2 := [(2, .int _), (0, .ref _)]) (dk_61 (bt bc_Mod_fact_2 22 rfl)) rfl (by decide) rfl ?_
  refine EJ_iload_n 88 0 (dk_28 (bt bc_Mod_fact_2 23 rfl)) rfl rfl ?_
  refine EJ_if_ge 96 91 (dk_156 (bt bc_Mod_fact_2 24 rfl) (bt bc_Mod_fact_2 25 rfl) (bt bc_Mod_fact_2 26 rfl) (n := 8) rfl) (by decide) rfl (fun _ => ?_) (fun _ => ?_)
  · refine EJ_aload_n 97 1 (dk_42 (bt bc_Mod_fact_3 0 rfl)) rfl rfl ?_
    refine EJ_ck (fun h30 => ?_)
    refine EJ_callVv (Y2 := Y_Mod_next) 100 cf12 (s_Mod_next G _ _) (of_decide_eq_true h30) rfl (dk_182 (bt bc_Mod_fact_3 1 rfl) (bt bc_Mod_fact_3 2 rfl) (bt bc_Mod_fact_3 3 rfl) (n := 376) rfl) rfl tw_1682 tw_1684 ts_51 tw_1685 hd_Mod_next rfl (by decide) (Nat.le_of_ble_eq_true rfl) (fun _ M32 => ?_)
    refine EJ_aload_n 101 1 (dk_42 (bt bc_Mod_fact_3 4 rfl)) rfl rfl ?_
    refine EJ_ck (fun h33 => ?_)
    refine EJ_getI cf12 60 (by decide) 104 tw_1258 (fun _ _ _ => rfl) (dk_180 (bt bc_Mod_fact_3 5 rfl) (bt bc_Mod_fact_3 6 rfl) (bt bc_Mod_fact_3 7 rfl) (n := 360) rfl) rfl (of_decide_eq_true h33) ?_
    refine EJ_istore_n 105 (lv2 := [(3, .int _), (2, .int _), (0, .ref _)]) (dk_62 (bt bc_Mod_fact_3 8 rfl)) rfl (by decide) rfl ?_
    refine EJ_aload_n 106 2 (dk_42 (bt bc_Mod_fact_3 9 rfl)) rfl rfl ?_
    refine EJ_bipush 108 (dk_16 (bt bc_Mod_fact_3 10 rfl) (bt bc_Mod_fact_3 11 rfl) (n := 60) rfl) rfl (v := 60) kB_60 ?_
    refine EJ_callVi (Y2 := Y_Mod_isSign) 111 cf12 (s_Mod_isSign G _ _ _) (of_decide_eq_true h33) rfl (dk_182 (bt bc_Mod_fact_3 12 rfl) (bt bc_Mod_fact_3 13 rfl) (bt bc_Mod_fact_3 14 rfl) (n := 461) rfl) rfl tw_1723 tw_1725 ts_60 tw_1726 hd_Mod_isSign rfl (by decide) (Nat.le_of_ble_eq_true rfl) (fun r35 M36 => ?_)
    refine EJ_if_ne 137 114 (dk_154 (bt bc_Mod_fact_3 15 rfl) (bt bc_Mod_fact_3 16 rfl) (bt bc_Mod_fact_3 17 rfl) (n := 26) rfl) (by decide) rfl (fun _ => ?_) (fun _ => ?_)
    · exact EJ_pick (lv2 := [(0, .ref _), (2, .int _), (3, .int _)]) [2, 1, 0] rfl (e_Mod_fact_J137 _ _ _ _)
    · refine EJ_aload_n 115 2 (dk_42 (bt bc_Mod_fact_3 18 rfl)) rfl rfl ?_
      refine EJ_bipush 117 (dk_16 (bt bc_Mod_fact_3 19 rfl) (bt bc_Mod_fact_3 20 rfl) (n := 62) rfl) rfl (v := 62) kB_62 ?_
      refine EJ_ck (fun h49 => ?_)
      refine EJ_callVi (Y2 := Y_Mod_isSign) 120 cf12 (s_Mod_isSign G _ _ _) (of_decide_eq_true h49) rfl (dk_182 (bt bc_Mod_fact_3 21 rfl) (bt bc_Mod_fact_3 22 rfl) (bt bc_Mod_fact_3 23 rfl) (n := 461) rfl) rfl tw_1723 tw_1725 ts_60 tw_1726 hd_Mod_isSign rfl (by decide) (Nat.le_of_ble_eq_true rfl) (fun r50 M51 => ?_)
      refine EJ_if_ne 137 123 (dk_154 (bt bc_Mod_fact_3 24 rfl) (bt bc_Mod_fact_3 25 rfl) (bt bc_Mod_fact_3 26 rfl) (n := 17) rfl) (by decide) rfl (fun _ => ?_) (fun _ => ?_)
      · exact EJ_pick (lv2 := [(0, .ref _), (2, .int _), (3, .int _)]) [2, 1, 0] rfl (e_Mod_fact_J137 _ _ _ _)
      · refine EJ_aload_n 124 2 (dk_42 (bt bc_Mod_fact_3 27 rfl)) rfl rfl ?_
        refine EJ_bipush 126 (dk_16 (bt bc_Mod_fact_3 28 rfl) (bt bc_Mod_fact_3 29 rfl) (n := 61) rfl) rfl (v := 61) kB_61 ?_
        refine EJ_ck (fun h52 => ?_)
        refine EJ_callVi (Y2 := Y_Mod_isSign) 129 cf12 (s_Mod_isSign G _ _ _) (of_decide_eq_true h52) rfl (dk_182 (bt bc_Mod_fact_3 30 rfl) (bt bc_Mod_fact_3 31 rfl) (bt bc_Mod_fact_4 0 rfl) (n := 461) rfl) rfl tw_1723 tw_1725 ts_60 tw_1726 hd_Mod_isSign rfl (by decide) (Nat.le_of_ble_eq_true rfl) (fun r53 M54 => ?_)
        refine EJ_if_ne 137 132 (dk_154 (bt bc_Mod_fact_4 1 rfl) (bt bc_Mod_fact_4 2 rfl) (bt bc_Mod_fact_4 3 rfl) (n := 8) rfl) (by decide) rfl (fun _ => ?_) (fun _ => ?_)
        · exact EJ_pick (lv2 := [(0, .ref _), (2, .int _), (3, .int _)]) [2, 1, 0] rfl (e_Mod_fact_J137 _ _ _ _)
        · refine EJ_aload_n 133 2 (dk_42 (bt bc_Mod_fact_4 4 rfl)) rfl rfl ?_
          refine EJ_ck (fun h55 => ?_)
          refine EJ_callVv (Y2 := Y_Mod_fails0) 136 cf12 (s_Mod_fails0 G _ _) (of_decide_eq_true h55) rfl (dk_182 (bt bc_Mod_fact_4 5 rfl) (bt bc_Mod_fact_4 6 rfl) (bt bc_Mod_fact_4 7 rfl) (n := 379) rfl) rfl tw_1693 tw_1695 ts_53 tw_1696 hd_Mod_fails0 rfl (by decide) (Nat.le_of_ble_eq_true rfl) (fun _ M57 => ?_)
          exact EJ_vret rfl (dk_177 (bt bc_Mod_fact_4 8 rfl))
  · refine EJ_aload_n 92 1 (dk_42 (bt bc_Mod_fact_2 27 rfl)) rfl rfl ?_
    refine EJ_ck (fun h58 => ?_)
    refine EJ_callVv (Y2 := Y_Mod_fails0) 95 cf12 (s_Mod_fails0 G _ _) (of_decide_eq_true h58) rfl (dk_182 (bt bc_Mod_fact_2 28 rfl) (bt bc_Mod_fact_2 29 rfl) (bt bc_Mod_fact_2 30 rfl) (n := 379) rfl) rfl tw_1693 tw_1695 ts_53 tw_1696 hd_Mod_fails0 rfl (by decide) (Nat.le_of_ble_eq_true rfl) (fun _ M60 => ?_)
    exact EJ_vret rfl (dk_177 (bt bc_Mod_fact_2 31 rfl))
def Mod_fact (M : Mm) (a0 : Nat) (a1 : Int32) : Option (Unit × Mm) :=
  ck (kO M a0 12 107) (
  nn (mR M a0 67) (fun b2 =>
  ck (kA M b2 20 a1) (
  if (mI M b2 (ix a1)) = 0 then (
    bd (Mod_isWord M a0 10631) (fun r24 M25 =>
    if r24 = 0 then (
      ck (kO M25 a0 12 107) (
      bd (Mod_isSign M25 a0 40) (fun r27 M28 =>
      if r27 = 0 then (
        ck (kO M28 a0 12 107) (
        if (mI M28 a0 59) = 1 then (
          bd (Mod_nameOf M28 a0 (mL M28 a0 64)) (fun r61 M62 =>
          Mod_fact_J86 a0 r61 M62))
        else (
          Mod_fact_J86 a0 (-1) M28)))
      else (
        ck (kO M28 a0 12 107) (
        bd (Mod_opens M28 a0) (fun _ M65 =>
        ck (kO M65 a0 12 107) (
        nn (mR M65 a0 67) (fun b67 =>
        ck (kA M65 b67 20 a1) (
        let M69 := sI M65 b67 (ix a1) 2
        bd (Mod_begin M69 a0 0) (fun _ M71 =>
        some ((), M71)))))))))))
    else (
      ck (kO M25 a0 12 107) (
      bd (Mod_opens M25 a0) (fun _ M74 =>
      ck (kO M74 a0 12 107) (
      nn (mR M74 a0 67) (fun b76 =>
      ck (kA M74 b76 20 a1) (
      let M78 := sI M74 b76 (ix a1) 1
      bd (Mod_begin M78 a0 2) (fun _ M80 =>
      some ((), M80))))))))))
  else (
    nn (mR M a0 67) (fun b4 =>
    ck (kA M b4 20 a1) (
    if (mI M b4 (ix a1)) = 1 then (
      let M18 := sI M a0 62 ((mI M a0 62) - 1)
      bd (Mod_node M18 a0 1 (mI M18 a0 63) 0 0) (fun r19 M20 =>
      ck (kO M20 a0 12 107) (
      bd (Mod_ends M20 a0 r19) (fun _ M23 =>
      some ((), M23)))))
    else (
      bd (Mod_isSign M a0 41) (fun r6 M7 =>
      if r6 = 0 then (
        ck (kO M7 a0 12 107) (
        bd (Mod_fails0 M7 a0) (fun _ M10 =>
        Mod_fact_J229 a0 M10)))
      else (
        ck (kO M7 a0 12 107) (
        bd (Mod_next M7 a0) (fun _ M17 =>
        Mod_fact_J229 a0 M17)))))))))))
set_option maxRecDepth 100000 in
set_option maxHeartbeats 4000000 in
theorem s_Mod_fact (G : Gx) (M : Mm) (a0 : Nat) (a1 : Int32) : FnS G Y_Mod_fact cvV 4 [.ref a0, .int a1] M (Mod_fact M a0 a1) := by
  refine FnS.ofE (by decide) (Nat.le_of_ble_eq_true rfl) ?_
  show EJ G Y_Mod_fact cvV 4 0 [(0, .ref a0), (1, .int a1)] [] M _
  unfold Mod_fact
  refine EJ_aload_n 1 0 (dk_42 (bt bc_Mod_fact_0 0 rfl)) rfl rfl ?_
  refine EJ_ck (fun h1 => ?_)
  refine EJ_getR cf12 67 (by decide) 4 tw_1265 (fun _ _ _ => rfl) (dk_180 (bt bc_Mod_fact_0 1 rfl) (bt bc_Mod_fact_0 2 rfl) (bt bc_Mod_fact_0 3 rfl) (n := 143) rfl) rfl (of_decide_eq_true h1) (fun b2 => ?_)
  refine EJ_iload_n 5 1 (dk_27 (bt bc_Mod_fact_0 4 rfl)) rfl rfl ?_
  refine EJ_ck (fun h3 => ?_)
  refine EJ_iald 6 h3 (dk_46 (bt bc_Mod_fact_0 5 rfl)) rfl ?_
  refine EJ_if_ne 171 9 (dk_154 (bt bc_Mod_fact_0 6 rfl) (bt bc_Mod_fact_0 7 rfl) (bt bc_Mod_fact_0 8 rfl) (n := 165) rfl) (by decide) rfl (fun _ => ?_) (fun _ => ?_)
  · refine EJ_aload_n 172 0 (dk_42 (bt bc_Mod_fact_5 11 rfl)) rfl rfl ?_
    refine EJ_getR cf12 67 (by decide) 175 tw_1265 (fun _ _ _ => rfl) (dk_180 (bt bc_Mod_fact_5 12 rfl) (bt bc_Mod_fact_5 13 rfl) (bt bc_Mod_fact_5 14 rfl) (n := 143) rfl) rfl (of_decide_eq_true h1) (fun b4 => ?_)
    refine EJ_iload_n 176 1 (dk_27 (bt bc_Mod_fact_5 15 rfl)) rfl rfl ?_
    refine EJ_ck (fun h5 => ?_)
    refine EJ_iald 177 h5 (dk_46 (bt bc_Mod_fact_5 16 rfl)) rfl ?_
    refine EJ_iconst 178 (dk_4 (bt bc_Mod_fact_5 17 rfl)) rfl (v := 1) kI_1 ?_
    refine EJ_icmp_ne 209 181 (dk_160 (bt bc_Mod_fact_5 18 rfl) (bt bc_Mod_fact_5 19 rfl) (bt bc_Mod_fact_5 20 rfl) (n := 31) rfl) (by decide) rfl (fun _ => ?_) (fun _ => ?_)
    · refine EJ_aload_n 210 0 (dk_42 (bt bc_Mod_fact_6 17 rfl)) rfl rfl ?_
      refine EJ_bipush 212 (dk_16 (bt bc_Mod_fact_6 18 rfl) (bt bc_Mod_fact_6 19 rfl) (n := 41) rfl) rfl (v := 41) kB_41 ?_
      refine EJ_callVi (Y2 := Y_Mod_isSign) 215 cf12 (s_Mod_isSign G _ _ _) (of_decide_eq_true h1) rfl (dk_182 (bt bc_Mod_fact_6 20 rfl) (bt bc_Mod_fact_6 21 rfl) (bt bc_Mod_fact_6 22 rfl) (n := 461) rfl) rfl tw_1723 tw_1725 ts_60 tw_1726 hd_Mod_isSign rfl (by decide) (Nat.le_of_ble_eq_true rfl) (fun r6 M7 => ?_)
      refine EJ_if_eq 225 218 (dk_153 (bt bc_Mod_fact_6 23 rfl) (bt bc_Mod_fact_6 24 rfl) (bt bc_Mod_fact_6 25 rfl) (n := 10) rfl) (by decide) rfl (fun _ => ?_) (fun _ => ?_)
      · refine EJ_aload_n 226 0 (dk_42 (bt bc_Mod_fact_7 1 rfl)) rfl rfl ?_
        refine EJ_ck (fun h8 => ?_)
        refine EJ_callVv (Y2 := Y_Mod_fails0) 229 cf12 (s_Mod_fails0 G _ _) (of_decide_eq_true h8) rfl (dk_182 (bt bc_Mod_fact_7 2 rfl) (bt bc_Mod_fact_7 3 rfl) (bt bc_Mod_fact_7 4 rfl) (n := 379) rfl) rfl tw_1693 tw_1695 ts_53 tw_1696 hd_Mod_fails0 rfl (by decide) (Nat.le_of_ble_eq_true rfl) (fun _ M10 => ?_)
        exact EJ_pick (lv2 := [(0, .ref _)]) [0] rfl (e_Mod_fact_J229 _ _)
      · refine EJ_aload_n 219 0 (dk_42 (bt bc_Mod_fact_6 26 rfl)) rfl rfl ?_
        refine EJ_ck (fun h15 => ?_)
        refine EJ_callVv (Y2 := Y_Mod_next) 222 cf12 (s_Mod_next G _ _) (of_decide_eq_true h15) rfl (dk_182 (bt bc_Mod_fact_6 27 rfl) (bt bc_Mod_fact_6 28 rfl) (bt bc_Mod_fact_6 29 rfl) (n := 376) rfl) rfl tw_1682 tw_1684 ts_51 tw_1685 hd_Mod_next rfl (by decide) (Nat.le_of_ble_eq_true rfl) (fun _ M17 => ?_)
        refine EJ_goto 229 (dk_167 (bt bc_Mod_fact_6 30 rfl) (bt bc_Mod_fact_6 31 rfl) (bt bc_Mod_fact_7 0 rfl) (n := 7) rfl) (by decide) ?_
        exact EJ_pick (lv2 := [(0, .ref _)]) [0] rfl (e_Mod_fact_J229 _ _)
    · refine EJ_aload_n 182 0 (dk_42 (bt bc_Mod_fact_5 21 rfl)) rfl rfl ?_
      refine EJ_dup 183 (dk_89 (bt bc_Mod_fact_5 22 rfl)) rfl rfl ?_
      refine EJ_getI cf12 62 (by decide) 186 tw_1260 (fun _ _ _ => rfl) (dk_180 (bt bc_Mod_fact_5 23 rfl) (bt bc_Mod_fact_5 24 rfl) (bt bc_Mod_fact_5 25 rfl) (n := 427) rfl) rfl (of_decide_eq_true h1) ?_
      refine EJ_iconst 187 (dk_4 (bt bc_Mod_fact_5 26 rfl)) rfl (v := 1) kI_1 ?_
      refine EJ_isub 188 (dk_100 (bt bc_Mod_fact_5 27 rfl)) rfl ?_
      refine EJ_putI cf12 62 (by decide) 191 tw_1260 rfl (Or.inl rfl) (dk_181 (bt bc_Mod_fact_5 28 rfl) (bt bc_Mod_fact_5 29 rfl) (bt bc_Mod_fact_5 30 rfl) (n := 427) rfl) rfl (of_decide_eq_true h1) ?_
      refine EJ_aload_n 192 0 (dk_42 (bt bc_Mod_fact_5 31 rfl)) rfl rfl ?_
      refine EJ_aload_n 193 0 (dk_42 (bt bc_Mod_fact_6 0 rfl)) rfl rfl ?_
      refine EJ_iconst 194 (dk_4 (bt bc_Mod_fact_6 1 rfl)) rfl (v := 1) kI_1 ?_
      refine EJ_aload_n 195 0 (dk_42 (bt bc_Mod_fact_6 2 rfl)) rfl rfl ?_
      refine EJ_getI cf12 63 (by decide) 198 tw_1261 (fun _ _ _ => rfl) (dk_180 (bt bc_Mod_fact_6 3 rfl) (bt bc_Mod_fact_6 4 rfl) (bt bc_Mod_fact_6 5 rfl) (n := 424) rfl) rfl (kp_I (of_decide_eq_true h1)) ?_
      refine EJ_iconst 199 (dk_3 (bt bc_Mod_fact_6 6 rfl)) rfl (v := 0) kI_0 ?_
      refine EJ_iconst 200 (dk_3 (bt bc_Mod_fact_6 7 rfl)) rfl (v := 0) kI_0 ?_
      refine EJ_callVi (Y2 := Y_Mod_node) 203 cf12 (s_Mod_node G _ _ _ _ _ _) (kp_I (of_decide_eq_true h1)) rfl (dk_182 (bt bc_Mod_fact_6 8 rfl) (bt bc_Mod_fact_6 9 rfl) (bt bc_Mod_fact_6 10 rfl) (n := 441) rfl) rfl tw_1742 tw_1744 ts_63 tw_1745 hd_Mod_node rfl (by decide) (Nat.le_of_ble_eq_true rfl) (fun r19 M20 => ?_)
      refine EJ_ck (fun h21 => ?_)
      refine EJ_callVv (Y2 := Y_Mod_ends) 206 cf12 (s_Mod_ends G _ _ _) (of_decide_eq_true h21) rfl (dk_182 (bt bc_Mod_fact_6 11 rfl) (bt bc_Mod_fact_6 12 rfl) (bt bc_Mod_fact_6 13 rfl) (n := 453) rfl) rfl tw_1746 tw_1748 ts_64 tw_1749 hd_Mod_ends rfl (by decide) (Nat.le_of_ble_eq_true rfl) (fun _ M23 => ?_)
      refine EJ_goto 247 (dk_167 (bt bc_Mod_fact_6 14 rfl) (bt bc_Mod_fact_6 15 rfl) (bt bc_Mod_fact_6 16 rfl) (n := 41) rfl) (by decide) ?_
      exact EJ_vret rfl (dk_177 (bt bc_Mod_fact_7 23 rfl))
  · refine EJ_aload_n 10 0 (dk_42 (bt bc_Mod_fact_0 9 rfl)) rfl rfl ?_
    refine EJ_ldc2 13 (dk_20 (bt bc_Mod_fact_0 10 rfl) (bt bc_Mod_fact_0 11 rfl) (bt bc_Mod_fact_0 12 rfl) (n := 456) rfl) rfl tw_1718 ?_
    refine EJ_callVi (Y2 := Y_Mod_isWord) 16 cf12 (s_Mod_isWord G _ _ _) (of_decide_eq_true h1) rfl (dk_182 (bt bc_Mod_fact_0 13 rfl) (bt bc_Mod_fact_0 14 rfl) (bt bc_Mod_fact_0 15 rfl) (n := 449) rfl) rfl tw_1702 tw_1704 ts_55 tw_1705 hd_Mod_isWord rfl (by decide) (Nat.le_of_ble_eq_true rfl) (fun r24 M25 => ?_)
    refine EJ_if_eq 38 19 (dk_153 (bt bc_Mod_fact_0 16 rfl) (bt bc_Mod_fact_0 17 rfl) (bt bc_Mod_fact_0 18 rfl) (n := 22) rfl) (by decide) rfl (fun _ => ?_) (fun _ => ?_)
    · refine EJ_aload_n 39 0 (dk_42 (bt bc_Mod_fact_1 6 rfl)) rfl rfl ?_
      refine EJ_bipush 41 (dk_16 (bt bc_Mod_fact_1 7 rfl) (bt bc_Mod_fact_1 8 rfl) (n := 40) rfl) rfl (v := 40) kB_40 ?_
      refine EJ_ck (fun h26 => ?_)
      refine EJ_callVi (Y2 := Y_Mod_isSign) 44 cf12 (s_Mod_isSign G _ _ _) (of_decide_eq_true h26) rfl (dk_182 (bt bc_Mod_fact_1 9 rfl) (bt bc_Mod_fact_1 10 rfl) (bt bc_Mod_fact_1 11 rfl) (n := 461) rfl) rfl tw_1723 tw_1725 ts_60 tw_1726 hd_Mod_isSign rfl (by decide) (Nat.le_of_ble_eq_true rfl) (fun r27 M28 => ?_)
      refine EJ_if_eq 66 47 (dk_153 (bt bc_Mod_fact_1 12 rfl) (bt bc_Mod_fact_1 13 rfl) (bt bc_Mod_fact_1 14 rfl) (n := 22) rfl) (by decide) rfl (fun _ => ?_) (fun _ => ?_)
      · refine EJ_aload_n 67 0 (dk_42 (bt bc_Mod_fact_2 2 rfl)) rfl rfl ?_
        refine EJ_ck (fun h29 => ?_)
        refine EJ_getI cf12 59 (by decide) 70 tw_1257 (fun _ _ _ => rfl) (dk_180 (bt bc_Mod_fact_2 3 rfl) (bt bc_Mod_fact_2 4 rfl) (bt bc_Mod_fact_2 5 rfl) (n := 366) rfl) rfl (of_decide_eq_true h29) ?_
        refine EJ_iconst 71 (dk_4 (bt bc_Mod_fact_2 6 rfl)) rfl (v := 1) kI_1 ?_
        refine EJ_icmp_ne 85 74 (dk_160 (bt bc_Mod_fact_2 7 rfl) (bt bc_Mod_fact_2 8 rfl) (bt bc_Mod_fact_2 9 rfl) (n := 14) rfl) (by decide) rfl (fun _ => ?_) (fun _ => ?_)
        · refine EJ_iconst 86 (dk_2 (bt bc_Mod_fact_2 21 rfl)) rfl (v := (-1)) kI_m1 ?_
          exact EJ_pick (lv2 := [(0, .ref _)]) [0] rfl (e_Mod_fact_J86 _ _ _)
        · refine EJ_aload_n 75 0 (dk_42 (bt bc_Mod_fact_2 10 rfl)) rfl rfl ?_
          refine EJ_aload_n 76 0 (dk_42 (bt bc_Mod_fact_2 11 rfl)) rfl rfl ?_
          refine EJ_getL cf12 64 (by decide) 79 tw_1262 (fun _ _ _ => rfl) (dk_180 (bt bc_Mod_fact_2 12 rfl) (bt bc_Mod_fact_2 13 rfl) (bt bc_Mod_fact_2 14 rfl) (n := 357) rfl) rfl (of_decide_eq_true h29) ?_
          refine EJ_callVi (Y2 := Y_Mod_nameOf) 82 cf12 (s_Mod_nameOf G _ _ _) (of_decide_eq_true h29) rfl (dk_182 (bt bc_Mod_fact_2 15 rfl) (bt bc_Mod_fact_2 16 rfl) (bt bc_Mod_fact_2 17 rfl) (n := 464) rfl) rfl tw_1727 tw_1729 ts_61 tw_1730 hd_Mod_nameOf rfl (by decide) (Nat.le_of_ble_eq_true rfl) (fun r61 M62 => ?_)
          refine EJ_goto 86 (dk_167 (bt bc_Mod_fact_2 18 rfl) (bt bc_Mod_fact_2 19 rfl) (bt bc_Mod_fact_2 20 rfl) (n := 4) rfl) (by decide) ?_
          exact EJ_pick (lv2 := [(0, .ref _)]) [0] rfl (e_Mod_fact_J86 _ _ _)
      · refine EJ_aload_n 48 0 (dk_42 (bt bc_Mod_fact_1 15 rfl)) rfl rfl ?_
        refine EJ_ck (fun h63 => ?_)
        refine EJ_callVv (Y2 := Y_Mod_opens) 51 cf12 (s_Mod_opens G _ _) (of_decide_eq_true h63) rfl (dk_182 (bt bc_Mod_fact_1 16 rfl) (bt bc_Mod_fact_1 17 rfl) (bt bc_Mod_fact_1 18 rfl) (n := 458) rfl) rfl tw_1719 tw_1721 ts_59 tw_1722 hd_Mod_opens rfl (by decide) (Nat.le_of_ble_eq_true rfl) (fun _ M65 => ?_)
        refine EJ_aload_n 52 0 (dk_42 (bt bc_Mod_fact_1 19 rfl)) rfl rfl ?_
        refine EJ_ck (fun h66 => ?_)
        refine EJ_getR cf12 67 (by decide) 55 tw_1265 (fun _ _ _ => rfl) (dk_180 (bt bc_Mod_fact_1 20 rfl) (bt bc_Mod_fact_1 21 rfl) (bt bc_Mod_fact_1 22 rfl) (n := 143) rfl) rfl (of_decide_eq_true h66) (fun b67 => ?_)
        refine EJ_iload_n 56 1 (dk_27 (bt bc_Mod_fact_1 23 rfl)) rfl rfl ?_
        refine EJ_iconst 57 (dk_5 (bt bc_Mod_fact_1 24 rfl)) rfl (v := 2) kI_2 ?_
        refine EJ_ck (fun h68 => ?_)
        refine EJ_iast 58 h68 (dk_79 (bt bc_Mod_fact_1 25 rfl)) rfl ?_
        refine EJ_aload_n 59 0 (dk_42 (bt bc_Mod_fact_1 26 rfl)) rfl rfl ?_
        refine EJ_iconst 60 (dk_3 (bt bc_Mod_fact_1 27 rfl)) rfl (v := 0) kI_0 ?_
        refine EJ_callVv (Y2 := Y_Mod_begin) 63 cf12 (s_Mod_begin G _ _ _) (kp_I (of_decide_eq_true h66)) rfl (dk_182 (bt bc_Mod_fact_1 28 rfl) (bt bc_Mod_fact_1 29 rfl) (bt bc_Mod_fact_1 30 rfl) (n := 430) rfl) rfl tw_1710 tw_1712 ts_57 tw_1713 hd_Mod_begin rfl (by decide) (Nat.le_of_ble_eq_true rfl) (fun _ M71 => ?_)
        refine EJ_goto 247 (dk_167 (bt bc_Mod_fact_1 31 rfl) (bt bc_Mod_fact_2 0 rfl) (bt bc_Mod_fact_2 1 rfl) (n := 184) rfl) (by decide) ?_
        exact EJ_vret rfl (dk_177 (bt bc_Mod_fact_7 23 rfl))
    · refine EJ_aload_n 20 0 (dk_42 (bt bc_Mod_fact_0 19 rfl)) rfl rfl ?_
      refine EJ_ck (fun h72 => ?_)
      refine EJ_callVv (Y2 := Y_Mod_opens) 23 cf12 (s_Mod_opens G _ _) (of_decide_eq_true h72) rfl (dk_182 (bt bc_Mod_fact_0 20 rfl) (bt bc_Mod_fact_0 21 rfl) (bt bc_Mod_fact_0 22 rfl) (n := 458) rfl) rfl tw_1719 tw_1721 ts_59 tw_1722 hd_Mod_opens rfl (by decide) (Nat.le_of_ble_eq_true rfl) (fun _ M74 => ?_)
      refine EJ_aload_n 24 0 (dk_42 (bt bc_Mod_fact_0 23 rfl)) rfl rfl ?_
      refine EJ_ck (fun h75 => ?_)
      refine EJ_getR cf12 67 (by decide) 27 tw_1265 (fun _ _ _ => rfl) (dk_180 (bt bc_Mod_fact_0 24 rfl) (bt bc_Mod_fact_0 25 rfl) (bt bc_Mod_fact_0 26 rfl) (n := 143) rfl) rfl (of_decide_eq_true h75) (fun b76 => ?_)
      refine EJ_iload_n 28 1 (dk_27 (bt bc_Mod_fact_0 27 rfl)) rfl rfl ?_
      refine EJ_iconst 29 (dk_4 (bt bc_Mod_fact_0 28 rfl)) rfl (v := 1) kI_1 ?_
      refine EJ_ck (fun h77 => ?_)
      refine EJ_iast 30 h77 (dk_79 (bt bc_Mod_fact_0 29 rfl)) rfl ?_
      refine EJ_aload_n 31 0 (dk_42 (bt bc_Mod_fact_0 30 rfl)) rfl rfl ?_
      refine EJ_iconst 32 (dk_5 (bt bc_Mod_fact_0 31 rfl)) rfl (v := 2) kI_2 ?_
      refine EJ_callVv (Y2 := Y_Mod_begin) 35 cf12 (s_Mod_begin G _ _ _) (kp_I (of_decide_eq_true h75)) rfl (dk_182 (bt bc_Mod_fact_1 0 rfl) (bt bc_Mod_fact_1 1 rfl) (bt bc_Mod_fact_1 2 rfl) (n := 430) rfl) rfl tw_1710 tw_1712 ts_57 tw_1713 hd_Mod_begin rfl (by decide) (Nat.le_of_ble_eq_true rfl) (fun _ M80 => ?_)
      refine EJ_goto 247 (dk_167 (bt bc_Mod_fact_1 3 rfl) (bt bc_Mod_fact_1 4 rfl) (bt bc_Mod_fact_1 5 rfl) (n := 212) rfl) (by decide) ?_
      exact EJ_vret rfl (dk_177 (bt bc_Mod_fact_7 23 rfl))
abbrev Y_Mod_chain : Ym := (⟨"RiceHallModel", "chain", "(IZ)V"⟩, prog_14_method_50_code, 3, none)
theorem bc_Mod_chain_0 : bts prog_14_method_50_code 0 [42, 180, 0, 143, 27, 46, 154, 0, 24, 42, 180, 0, 143, 27, 4, 79, 42, 28, 153, 0, 7, 4, 167, 0, 4, 5, 182, 1, 174, 177, 42, 180] := bts_of (by decide +kernel)
theorem bc_Mod_chain_1 : bts prog_14_method_50_code 32 [0, 146, 27, 42, 180, 0, 146, 27, 46, 156, 0, 10, 42, 180, 1, 168, 167, 0, 27, 42, 28, 153, 0, 7, 6, 167, 0, 4, 5, 42, 180, 0] := bts_of (by decide +kernel)
theorem bc_Mod_chain_2 : bts prog_14_method_50_code 64 [146, 27, 46, 42, 180, 1, 168, 3, 182, 1, 185, 79, 42, 28, 153, 0, 9, 20, 1, 189, 167, 0, 6, 20, 1, 191, 182, 1, 193, 153, 0, 23] := bts_of (by decide +kernel)
theorem bc_Mod_chain_3 : bts prog_14_method_50_code 96 [42, 182, 1, 120, 42, 28, 153, 0, 7, 4, 167, 0, 4, 5, 182, 1, 174, 167, 0, 13, 42, 42, 180, 0, 146, 27, 46, 182, 1, 197, 177] := bts_of (by decide +kernel)
theorem hd_Mod_chain : Y_Mod_chain.1.cls = RX12 ∧ Y_Mod_chain.1.cls ≠ "java/lang/invoke/MethodHandle" ∧ Y_Mod_chain.1.cls ≠ "java/lang/invoke/VarHandle" ∧ (parseMethodDescriptor Y_Mod_chain.1.desc).map (fun d => d.parameters.length) = some 2 := by decide +kernel
def Mod_chain_J110 (s0 : Int32) (s1 : Nat) (M : Mm) : Option (Unit × Mm) :=
  ck (kO M s1 12 107) (
  bd (Mod_begin M s1 s0) (fun _ M28 =>
  some ((), M28)))
set_option maxRecDepth 100000 in
set_option maxHeartbeats 4000000 in
theorem e_Mod_chain_J110 {G : Gx} (s0 : Int32) (s1 : Nat) (M : Mm) : EJ G Y_Mod_chain cvV 3 110 [] [.int s0, .ref s1] M (Mod_chain_J110 s0 s1 M) := by
  unfold Mod_chain_J110
  refine EJ_ck (fun h26 => ?_)
  refine EJ_callVv (Y2 := Y_Mod_begin) 113 cf12 (s_Mod_begin G _ _ _) (of_decide_eq_true h26) rfl (dk_182 (bt bc_Mod_chain_3 14 rfl) (bt bc_Mod_chain_3 15 rfl) (bt bc_Mod_chain_3 16 rfl) (n := 430) rfl) rfl tw_1710 tw_1712 ts_57 tw_1713 hd_Mod_begin rfl (by decide) (Nat.le_of_ble_eq_true rfl) (fun _ M28 => ?_)
  refine EJ_goto 126 (dk_167 (bt bc_Mod_chain_3 17 rfl) (bt bc_Mod_chain_3 18 rfl) (bt bc_Mod_chain_3 19 rfl) (n := 13) rfl) (by decide) ?_
  exact EJ_vret rfl (dk_177 (bt bc_Mod_chain_3 30 rfl))
def Mod_chain_J90 (x0 : Nat) (x1 : Int32) (x2 : Int32) (s0 : Int64) (s1 : Nat) (M : Mm) : Option (Unit × Mm) :=
  ck (kO M s1 12 107) (
  bd (Mod_isWord M s1 s0) (fun r16 M17 =>
  if r16 = 0 then (
    ck (kO M17 x0 12 107) (
    nn (mR M17 x0 68) (fun b19 =>
    ck (kA M17 b19 20 x1) (
    bd (Mod_ends M17 x0 (mI M17 b19 (ix x1))) (fun _ M22 =>
    some ((), M22))))))
  else (
    ck (kO M17 x0 12 107) (
    bd (Mod_next M17 x0) (fun _ M25 =>
    if x2 = 0 then (
      Mod_chain_J110 2 x0 M25)
    else (
      Mod_chain_J110 1 x0 M25))))))
set_option maxRecDepth 100000 in
set_option maxHeartbeats 4000000 in
theorem e_Mod_chain_J90 {G : Gx} (x0 : Nat) (x1 : Int32) (x2 : Int32) (s0 : Int64) (s1 : Nat) (M : Mm) : EJ G Y_Mod_chain cvV 3 90 [(0, .ref x0), (1, .int x1), (2, .int x2)] [.long s0, .ref s1] M (Mod_chain_J90 x0 x1 x2 s0 s1 M) := by
  unfold Mod_chain_J90
  refine EJ_ck (fun h15 => ?_)
  refine EJ_callVi (Y2 := Y_Mod_isWord) 93 cf12 (s_Mod_isWord G _ _ _) (of_decide_eq_true h15) rfl (dk_182 (bt bc_Mod_chain_2 26 rfl) (bt bc_Mod_chain_2 27 rfl) (bt bc_Mod_chain_2 28 rfl) (n := 449) rfl) rfl tw_1702 tw_1704 ts_55 tw_1705 hd_Mod_isWord rfl (by decide) (Nat.le_of_ble_eq_true rfl) (fun r16 M17 => ?_)
  refine EJ_if_eq 116 96 (dk_153 (bt bc_Mod_chain_2 29 rfl) (bt bc_Mod_chain_2 30 rfl) (bt bc_Mod_chain_2 31 rfl) (n := 23) rfl) (by decide) rfl (fun _ => ?_) (fun _ => ?_)
  · refine EJ_aload_n 117 0 (dk_42 (bt bc_Mod_chain_3 20 rfl)) rfl rfl ?_
    refine EJ_aload_n 118 0 (dk_42 (bt bc_Mod_chain_3 21 rfl)) rfl rfl ?_
    refine EJ_ck (fun h18 => ?_)
    refine EJ_getR cf12 68 (by decide) 121 tw_1266 (fun _ _ _ => rfl) (dk_180 (bt bc_Mod_chain_3 22 rfl) (bt bc_Mod_chain_3 23 rfl) (bt bc_Mod_chain_3 24 rfl) (n := 146) rfl) rfl (of_decide_eq_true h18) (fun b19 => ?_)
    refine EJ_iload_n 122 1 (dk_27 (bt bc_Mod_chain_3 25 rfl)) rfl rfl ?_
    refine EJ_ck (fun h20 => ?_)
    refine EJ_iald 123 h20 (dk_46 (bt bc_Mod_chain_3 26 rfl)) rfl ?_
    refine EJ_callVv (Y2 := Y_Mod_ends) 126 cf12 (s_Mod_ends G _ _ _) (of_decide_eq_true h18) rfl (dk_182 (bt bc_Mod_chain_3 27 rfl) (bt bc_Mod_chain_3 28 rfl) (bt bc_Mod_chain_3 29 rfl) (n := 453) rfl) rfl tw_1746 tw_1748 ts_64 tw_1749 hd_Mod_ends rfl (by decide) (Nat.le_of_ble_eq_true rfl) (fun _ M22 => ?_)
    exact EJ_vret rfl (dk_177 (bt bc_Mod_chain_3 30 rfl))
  · refine EJ_aload_n 97 0 (dk_42 (bt bc_Mod_chain_3 0 rfl)) rfl rfl ?_
    refine EJ_ck (fun h23 => ?_)
    refine EJ_callVv (Y2 := Y_Mod_next) 100 cf12 (s_Mod_next G _ _) (of_decide_eq_true h23) rfl (dk_182 (bt bc_Mod_chain_3 1 rfl) (bt bc_Mod_chain_3 2 rfl) (bt bc_Mod_chain_3 3 rfl) (n := 376) rfl) rfl tw_1682 tw_1684 ts_51 tw_1685 hd_Mod_next rfl (by decide) (Nat.le_of_ble_eq_true rfl) (fun _ M25 => ?_)
    refine EJ_aload_n 101 0 (dk_42 (bt bc_Mod_chain_3 4 rfl)) rfl rfl ?_
    refine EJ_iload_n 102 2 (dk_28 (bt bc_Mod_chain_3 5 rfl)) rfl rfl ?_
    refine EJ_if_eq 109 105 (dk_153 (bt bc_Mod_chain_3 6 rfl) (bt bc_Mod_chain_3 7 rfl) (bt bc_Mod_chain_3 8 rfl) (n := 7) rfl) (by decide) rfl (fun _ => ?_) (fun _ => ?_)
    · refine EJ_iconst 110 (dk_5 (bt bc_Mod_chain_3 13 rfl)) rfl (v := 2) kI_2 ?_
      exact EJ_pick (lv2 := []) [] rfl (e_Mod_chain_J110 _ _ _)
    · refine EJ_iconst 106 (dk_4 (bt bc_Mod_chain_3 9 rfl)) rfl (v := 1) kI_1 ?_
      refine EJ_goto 110 (dk_167 (bt bc_Mod_chain_3 10 rfl) (bt bc_Mod_chain_3 11 rfl) (bt bc_Mod_chain_3 12 rfl) (n := 4) rfl) (by decide) ?_
      exact EJ_pick (lv2 := []) [] rfl (e_Mod_chain_J110 _ _ _)
def Mod_chain_J75 (x0 : Nat) (x1 : Int32) (x2 : Int32) (s0 : Int32) (s1 : Int32) (s2 : Nat) (M : Mm) : Option (Unit × Mm) :=
  ck (kA M s2 20 s1) (
  let M14 := sI M s2 (ix s1) s0
  if x2 = 0 then (
    Mod_chain_J90 x0 x1 x2 1111 x0 M14)
  else (
    Mod_chain_J90 x0 x1 x2 423 x0 M14))
set_option maxRecDepth 100000 in
set_option maxHeartbeats 4000000 in
theorem e_Mod_chain_J75 {G : Gx} (x0 : Nat) (x1 : Int32) (x2 : Int32) (s0 : Int32) (s1 : Int32) (s2 : Nat) (M : Mm) : EJ G Y_Mod_chain cvV 3 75 [(0, .ref x0), (1, .int x1), (2, .int x2)] [.int s0, .int s1, .ref s2] M (Mod_chain_J75 x0 x1 x2 s0 s1 s2 M) := by
  unfold Mod_chain_J75
  refine EJ_ck (fun h13 => ?_)
  refine EJ_iast 76 h13 (dk_79 (bt bc_Mod_chain_2 11 rfl)) rfl ?_
  refine EJ_aload_n 77 0 (dk_42 (bt bc_Mod_chain_2 12 rfl)) rfl rfl ?_
  refine EJ_iload_n 78 2 (dk_28 (bt bc_Mod_chain_2 13 rfl)) rfl rfl ?_
  refine EJ_if_eq 87 81 (dk_153 (bt bc_Mod_chain_2 14 rfl) (bt bc_Mod_chain_2 15 rfl) (bt bc_Mod_chain_2 16 rfl) (n := 9) rfl) (by decide) rfl (fun _ => ?_) (fun _ => ?_)
  · refine EJ_ldc2 90 (dk_20 (bt bc_Mod_chain_2 23 rfl) (bt bc_Mod_chain_2 24 rfl) (bt bc_Mod_chain_2 25 rfl) (n := 447) rfl) rfl tw_1755 ?_
    exact EJ_pick (lv2 := [(0, .ref _), (1, .int _), (2, .int _)]) [0, 1, 2] rfl (e_Mod_chain_J90 _ _ _ _ _ _)
  · refine EJ_ldc2 84 (dk_20 (bt bc_Mod_chain_2 17 rfl) (bt bc_Mod_chain_2 18 rfl) (bt bc_Mod_chain_2 19 rfl) (n := 445) rfl) rfl tw_1754 ?_
    refine EJ_goto 90 (dk_167 (bt bc_Mod_chain_2 20 rfl) (bt bc_Mod_chain_2 21 rfl) (bt bc_Mod_chain_2 22 rfl) (n := 6) rfl) (by decide) ?_
    exact EJ_pick (lv2 := [(0, .ref _), (1, .int _), (2, .int _)]) [0, 1, 2] rfl (e_Mod_chain_J90 _ _ _ _ _ _)
def Mod_chain_J61 (x0 : Nat) (x1 : Int32) (x2 : Int32) (s0 : Int32) (s1 : Nat) (s2 : Int32) (s3 : Nat) (M : Mm) : Option (Unit × Mm) :=
  ck (kO M x0 12 107) (
  nn (mR M x0 68) (fun b8 =>
  ck (kA M b8 20 x1) (
  ck (kO M s1 12 107) (
  bd (Mod_node M s1 s0 (mI M b8 (ix x1)) (mI M x0 63) 0) (fun r11 M12 =>
  Mod_chain_J75 x0 x1 x2 r11 s2 s3 M12)))))
set_option maxRecDepth 100000 in
set_option maxHeartbeats 4000000 in
theorem e_Mod_chain_J61 {G : Gx} (x0 : Nat) (x1 : Int32) (x2 : Int32) (s0 : Int32) (s1 : Nat) (s2 : Int32) (s3 : Nat) (M : Mm) : EJ G Y_Mod_chain cvV 3 61 [(0, .ref x0), (1, .int x1), (2, .int x2)] [.int s0, .ref s1, .int s2, .ref s3] M (Mod_chain_J61 x0 x1 x2 s0 s1 s2 s3 M) := by
  unfold Mod_chain_J61
  refine EJ_aload_n 62 0 (dk_42 (bt bc_Mod_chain_1 29 rfl)) rfl rfl ?_
  refine EJ_ck (fun h7 => ?_)
  refine EJ_getR cf12 68 (by decide) 65 tw_1266 (fun _ _ _ => rfl) (dk_180 (bt bc_Mod_chain_1 30 rfl) (bt bc_Mod_chain_1 31 rfl) (bt bc_Mod_chain_2 0 rfl) (n := 146) rfl) rfl (of_decide_eq_true h7) (fun b8 => ?_)
  refine EJ_iload_n 66 1 (dk_27 (bt bc_Mod_chain_2 1 rfl)) rfl rfl ?_
  refine EJ_ck (fun h9 => ?_)
  refine EJ_iald 67 h9 (dk_46 (bt bc_Mod_chain_2 2 rfl)) rfl ?_
  refine EJ_aload_n 68 0 (dk_42 (bt bc_Mod_chain_2 3 rfl)) rfl rfl ?_
  refine EJ_getI cf12 63 (by decide) 71 tw_1261 (fun _ _ _ => rfl) (dk_180 (bt bc_Mod_chain_2 4 rfl) (bt bc_Mod_chain_2 5 rfl) (bt bc_Mod_chain_2 6 rfl) (n := 424) rfl) rfl (of_decide_eq_true h7) ?_
  refine EJ_iconst 72 (dk_3 (bt bc_Mod_chain_2 7 rfl)) rfl (v := 0) kI_0 ?_
  refine EJ_ck (fun h10 => ?_)
  refine EJ_callVi (Y2 := Y_Mod_node) 75 cf12 (s_Mod_node G _ _ _ _ _ _) (of_decide_eq_true h10) rfl (dk_182 (bt bc_Mod_chain_2 8 rfl) (bt bc_Mod_chain_2 9 rfl) (bt bc_Mod_chain_2 10 rfl) (n := 441) rfl) rfl tw_1742 tw_1744 ts_63 tw_1745 hd_Mod_node rfl (by decide) (Nat.le_of_ble_eq_true rfl) (fun r11 M12 => ?_)
  exact EJ_pick (lv2 := [(0, .ref _), (1, .int _), (2, .int _)]) [0, 1, 2] rfl (e_Mod_chain_J75 _ _ _ _ _ _ _)
def Mod_chain_J26 (s0 : Int32) (s1 : Nat) (M : Mm) : Option (Unit × Mm) :=
  ck (kO M s1 12 107) (
  bd (Mod_begin M s1 s0) (fun _ M34 =>
  some ((), M34)))
set_option maxRecDepth 100000 in
set_option maxHeartbeats 4000000 in
theorem e_Mod_chain_J26 {G : Gx} (s0 : Int32) (s1 : Nat) (M : Mm) : EJ G Y_Mod_chain cvV 3 26 [] [.int s0, .ref s1] M (Mod_chain_J26 s0 s1 M) := by
  unfold Mod_chain_J26
  refine EJ_ck (fun h32 => ?_)
  refine EJ_callVv (Y2 := Y_Mod_begin) 29 cf12 (s_Mod_begin G _ _ _) (of_decide_eq_true h32) rfl (dk_182 (bt bc_Mod_chain_0 26 rfl) (bt bc_Mod_chain_0 27 rfl) (bt bc_Mod_chain_0 28 rfl) (n := 430) rfl) rfl tw_1710 tw_1712 ts_57 tw_1713 hd_Mod_begin rfl (by decide) (Nat.le_of_ble_eq_true rfl) (fun _ M34 => ?_)
  exact EJ_vret rfl (dk_177 (bt bc_Mod_chain_0 29 rfl))
def Mod_chain (M : Mm) (a0 : Nat) (a1 : Int32) (a2 : Int32) : Option (Unit × Mm) :=
  ck (kO M a0 12 107) (
  nn (mR M a0 67) (fun b2 =>
  ck (kA M b2 20 a1) (
  if (mI M b2 (ix a1)) = 0 then (
    nn (mR M a0 67) (fun b29 =>
    ck (kA M b29 20 a1) (
    let M31 := sI M b29 (ix a1) 1
    if a2 = 0 then (
      Mod_chain_J26 2 a0 M31)
    else (
      Mod_chain_J26 1 a0 M31))))
  else (
    nn (mR M a0 68) (fun b4 =>
    nn (mR M a0 68) (fun b5 =>
    ck (kA M b5 20 a1) (
    if 0 ≤ (mI M b5 (ix a1)) then (
      if a2 = 0 then (
        Mod_chain_J61 a0 a1 a2 2 a0 a1 b4 M)
      else (
        Mod_chain_J61 a0 a1 a2 3 a0 a1 b4 M))
    else (
      Mod_chain_J75 a0 a1 a2 (mI M a0 63) a1 b4 M))))))))
set_option maxRecDepth 100000 in
set_option maxHeartbeats 4000000 in
theorem s_Mod_chain (G : Gx) (M : Mm) (a0 : Nat) (a1 : Int32) (a2 : Int32) : FnS G Y_Mod_chain cvV 3 [.ref a0, .int a1, .int a2] M (Mod_chain M a0 a1 a2) := by
  refine FnS.ofE (by decide) (Nat.le_of_ble_eq_true rfl) ?_
  show EJ G Y_Mod_chain cvV 3 0 [(0, .ref a0), (1, .int a1), (2, .int a2)] [] M _
  unfold Mod_chain
  refine EJ_aload_n 1 0 (dk_42 (bt bc_Mod_chain_0 0 rfl)) rfl rfl ?_
  refine EJ_ck (fun h1 => ?_)
  refine EJ_getR cf12 67 (by decide) 4 tw_1265 (fun _ _ _ => rfl) (dk_180 (bt bc_Mod_chain_0 1 rfl) (bt bc_Mod_chain_0 2 rfl) (bt bc_Mod_chain_0 3 rfl) (n := 143) rfl) rfl (of_decide_eq_true h1) (fun b2 => ?_)
  refine EJ_iload_n 5 1 (dk_27 (bt bc_Mod_chain_0 4 rfl)) rfl rfl ?_
  refine EJ_ck (fun h3 => ?_)
  refine EJ_iald 6 h3 (dk_46 (bt bc_Mod_chain_0 5 rfl)) rfl ?_
  refine EJ_if_ne 30 9 (dk_154 (bt bc_Mod_chain_0 6 rfl) (bt bc_Mod_chain_0 7 rfl) (bt bc_Mod_chain_0 8 rfl) (n := 24) rfl) (by decide) rfl (fun _ => ?_) (fun _ => ?_)
  · refine EJ_aload_n 31 0 (dk_42 (bt bc_Mod_chain_0 30 rfl)) rfl rfl ?_
    refine EJ_getR cf12 68 (by decide) 34 tw_1266 (fun _ _ _ => rfl) (dk_180 (bt bc_Mod_chain_0 31 rfl) (bt bc_Mod_chain_1 0 rfl) (bt bc_Mod_chain_1 1 rfl) (n := 146) rfl) rfl (of_decide_eq_true h1) (fun b4 => ?_)
    refine EJ_iload_n 35 1 (dk_27 (bt bc_Mod_chain_1 2 rfl)) rfl rfl ?_
    refine EJ_aload_n 36 0 (dk_42 (bt bc_Mod_chain_1 3 rfl)) rfl rfl ?_
    refine EJ_getR cf12 68 (by decide) 39 tw_1266 (fun _ _ _ => rfl) (dk_180 (bt bc_Mod_chain_1 4 rfl) (bt bc_Mod_chain_1 5 rfl) (bt bc_Mod_chain_1 6 rfl) (n := 146) rfl) rfl (of_decide_eq_true h1) (fun b5 => ?_)
    refine EJ_iload_n 40 1 (dk_27 (bt bc_Mod_chain_1 7 rfl)) rfl rfl ?_
    refine EJ_ck (fun h6 => ?_)
    refine EJ_iald 41 h6 (dk_46 (bt bc_Mod_chain_1 8 rfl)) rfl ?_
    refine EJ_if_ge 51 44 (dk_156 (bt bc_Mod_chain_1 9 rfl) (bt bc_Mod_chain_1 10 rfl) (bt bc_Mod_chain_1 11 rfl) (n := 10) rfl) (by decide) rfl (fun _ => ?_) (fun _ => ?_)
    · refine EJ_aload_n 52 0 (dk_42 (bt bc_Mod_chain_1 19 rfl)) rfl rfl ?_
      refine EJ_iload_n 53 2 (dk_28 (bt bc_Mod_chain_1 20 rfl)) rfl rfl ?_
      refine EJ_if_eq 60 56 (dk_153 (bt bc_Mod_chain_1 21 rfl) (bt bc_Mod_chain_1 22 rfl) (bt bc_Mod_chain_1 23 rfl) (n := 7) rfl) (by decide) rfl (fun _ => ?_) (fun _ => ?_)
      · refine EJ_iconst 61 (dk_5 (bt bc_Mod_chain_1 28 rfl)) rfl (v := 2) kI_2 ?_
        exact EJ_pick (lv2 := [(0, .ref _), (1, .int _), (2, .int _)]) [0, 1, 2] rfl (e_Mod_chain_J61 _ _ _ _ _ _ _ _)
      · refine EJ_iconst 57 (dk_6 (bt bc_Mod_chain_1 24 rfl)) rfl (v := 3) kI_3 ?_
        refine EJ_goto 61 (dk_167 (bt bc_Mod_chain_1 25 rfl) (bt bc_Mod_chain_1 26 rfl) (bt bc_Mod_chain_1 27 rfl) (n := 4) rfl) (by decide) ?_
        exact EJ_pick (lv2 := [(0, .ref _), (1, .int _), (2, .int _)]) [0, 1, 2] rfl (e_Mod_chain_J61 _ _ _ _ _ _ _ _)
    · refine EJ_aload_n 45 0 (dk_42 (bt bc_Mod_chain_1 12 rfl)) rfl rfl ?_
      refine EJ_getI cf12 63 (by decide) 48 tw_1261 (fun _ _ _ => rfl) (dk_180 (bt bc_Mod_chain_1 13 rfl) (bt bc_Mod_chain_1 14 rfl) (bt bc_Mod_chain_1 15 rfl) (n := 424) rfl) rfl (of_decide_eq_true h1) ?_
      refine EJ_goto 75 (dk_167 (bt bc_Mod_chain_1 16 rfl) (bt bc_Mod_chain_1 17 rfl) (bt bc_Mod_chain_1 18 rfl) (n := 27) rfl) (by decide) ?_
      exact EJ_pick (lv2 := [(0, .ref _), (1, .int _), (2, .int _)]) [0, 1, 2] rfl (e_Mod_chain_J75 _ _ _ _ _ _ _)
  · refine EJ_aload_n 10 0 (dk_42 (bt bc_Mod_chain_0 9 rfl)) rfl rfl ?_
    refine EJ_getR cf12 67 (by decide) 13 tw_1265 (fun _ _ _ => rfl) (dk_180 (bt bc_Mod_chain_0 10 rfl) (bt bc_Mod_chain_0 11 rfl) (bt bc_Mod_chain_0 12 rfl) (n := 143) rfl) rfl (of_decide_eq_true h1) (fun b29 => ?_)
    refine EJ_iload_n 14 1 (dk_27 (bt bc_Mod_chain_0 13 rfl)) rfl rfl ?_
    refine EJ_iconst 15 (dk_4 (bt bc_Mod_chain_0 14 rfl)) rfl (v := 1) kI_1 ?_
    refine EJ_ck (fun h30 => ?_)
    refine EJ_iast 16 h30 (dk_79 (bt bc_Mod_chain_0 15 rfl)) rfl ?_
    refine EJ_aload_n 17 0 (dk_42 (bt bc_Mod_chain_0 16 rfl)) rfl rfl ?_
    refine EJ_iload_n 18 2 (dk_28 (bt bc_Mod_chain_0 17 rfl)) rfl rfl ?_
    refine EJ_if_eq 25 21 (dk_153 (bt bc_Mod_chain_0 18 rfl) (bt bc_Mod_chain_0 19 rfl) (bt bc_Mod_chain_0 20 rfl) (n := 7) rfl) (by decide) rfl (fun _ => ?_) (fun _ => ?_)
    · refine EJ_iconst 26 (dk_5 (bt bc_Mod_chain_0 25 rfl)) rfl (v := 2) kI_2 ?_
      exact EJ_pick (lv2 := []) [] rfl (e_Mod_chain_J26 _ _ _)
    · refine EJ_iconst 22 (dk_4 (bt bc_Mod_chain_0 21 rfl)) rfl (v := 1) kI_1 ?_
      refine EJ_goto 26 (dk_167 (bt bc_Mod_chain_0 22 rfl) (bt bc_Mod_chain_0 23 rfl) (bt bc_Mod_chain_0 24 rfl) (n := 4) rfl) (by decide) ?_
      exact EJ_pick (lv2 := []) [] rfl (e_Mod_chain_J26 _ _ _)
abbrev Y_Mod_condition : Ym := (⟨"RiceHallModel", "condition", "()I"⟩, prog_14_method_49_code, 2, (some FieldType.int))
theorem bc_Mod_condition_0 : bts prog_14_method_49_code 0 [42, 3, 181, 1, 165, 42, 3, 181, 1, 171, 42, 3, 182, 1, 174, 42, 180, 1, 165, 158, 0, 57, 42, 180, 1, 116, 154, 0, 50, 42, 180, 1] := bts_of (by decide +kernel)
theorem bc_Mod_condition_1 : bts prog_14_method_49_code 32 [165, 4, 100, 60, 42, 180, 0, 140, 27, 46, 5, 160, 0, 11, 42, 27, 182, 1, 178, 167, 0, 22, 42, 27, 42, 180, 0, 140, 27, 46, 154, 0] := bts_of (by decide +kernel)
theorem bc_Mod_condition_2 : bts prog_14_method_49_code 64 [7, 4, 167, 0, 4, 3, 182, 1, 181, 167, 255, 198, 42, 180, 1, 168, 172] := bts_of (by decide +kernel)
theorem hd_Mod_condition : Y_Mod_condition.1.cls = RX12 ∧ Y_Mod_condition.1.cls ≠ "java/lang/invoke/MethodHandle" ∧ Y_Mod_condition.1.cls ≠ "java/lang/invoke/VarHandle" ∧ (parseMethodDescriptor Y_Mod_condition.1.desc).map (fun d => d.parameters.length) = some 0 := by decide +kernel
def Mod_condition_J73 (k15 : Nat → Mm → Option (Int32 × Mm)) (x0 : Nat) (M : Mm) : Option (Int32 × Mm) :=
  k15 x0 M
set_option maxRecDepth 100000 in
set_option maxHeartbeats 4000000 in
theorem e_Mod_condition_J73 {G : Gx} (k15 : Nat → Mm → Option (Int32 × Mm)) (hk15 : ∀ (x0 : Nat) (M : Mm), EJ G Y_Mod_condition cvI 5 15 [(0, .ref x0)] [] M (k15 x0 M)) (x0 : Nat) (M : Mm) : EJ G Y_Mod_condition cvI 5 73 [(0, .ref x0)] [] M (Mod_condition_J73 k15 x0 M) := by
  unfold Mod_condition_J73
  refine EJ_goto 15 (dk_167 (bt bc_Mod_condition_2 9 rfl) (bt bc_Mod_condition_2 10 rfl) (bt bc_Mod_condition_2 11 rfl) (n := -58) rfl) (by decide) ?_
  exact EJ_pick (lv2 := [(0, .ref _)]) [0] rfl (hk15 _ _)
def Mod_condition_J70 (k15 : Nat → Mm → Option (Int32 × Mm)) (x0 : Nat) (s0 : Int32) (s1 : Int32) (s2 : Nat) (M : Mm) : Option (Int32 × Mm) :=
  ck (kO M s2 12 107) (
  bd (Mod_chain M s2 s1 s0) (fun _ M14 =>
  Mod_condition_J73 k15 x0 M14))
set_option maxRecDepth 100000 in
set_option maxHeartbeats 4000000 in
theorem e_Mod_condition_J70 {G : Gx} (k15 : Nat → Mm → Option (Int32 × Mm)) (hk15 : ∀ (x0 : Nat) (M : Mm), EJ G Y_Mod_condition cvI 5 15 [(0, .ref x0)] [] M (k15 x0 M)) (x0 : Nat) (s0 : Int32) (s1 : Int32) (s2 : Nat) (M : Mm) : EJ G Y_Mod_condition cvI 5 70 [(0, .ref x0)] [.int s0, .int s1, .ref s2] M (Mod_condition_J70 k15 x0 s0 s1 s2 M) := by
  unfold Mod_condition_J70
  refine EJ_ck (fun h12 => ?_)
  refine EJ_callVv (Y2 := Y_Mod_chain) 73 cf12 (s_Mod_chain G _ _ _ _) (of_decide_eq_true h12) rfl (dk_182 (bt bc_Mod_condition_2 6 rfl) (bt bc_Mod_condition_2 7 rfl) (bt bc_Mod_condition_2 8 rfl) (n := 437) rfl) rfl tw_1750 tw_1752 ts_65 tw_1753 hd_Mod_chain rfl (by decide) (Nat.le_of_ble_eq_true rfl) (fun _ M14 => ?_)
  exact EJ_pick (lv2 := [(0, .ref _)]) [0] rfl (e_Mod_condition_J73 k15 hk15 _ _)
def Mod_condition_B15 (k15 : Nat → Mm → Option (Int32 × Mm)) (x0 : Nat) (M : Mm) : Option (Int32 × Mm) :=
  ck (kO M x0 12 107) (
  if (mI M x0 69) ≤ 0 then (
    some (mI M x0 63, M))
  else (
    if (mI M x0 65) = 0 then (
      let v7 : Int32 := (mI M x0 69) - 1
      nn (mR M x0 66) (fun b8 =>
      ck (kA M b8 20 v7) (
      if (mI M b8 (ix v7)) = 2 then (
        bd (Mod_fact M x0 v7) (fun _ M16 =>
        Mod_condition_J73 k15 x0 M16))
      else (
        nn (mR M x0 66) (fun b10 =>
        ck (kA M b10 20 v7) (
        if (mI M b10 (ix v7)) = 0 then (
          Mod_condition_J70 k15 x0 1 v7 x0 M)
        else (
          Mod_condition_J70 k15 x0 0 v7 x0 M)))))))
    else (
      some (mI M x0 63, M))))
set_option maxRecDepth 100000 in
set_option maxHeartbeats 4000000 in
theorem e_Mod_condition_B15 {G : Gx} (k15 : Nat → Mm → Option (Int32 × Mm)) (hk15 : ∀ (x0 : Nat) (M : Mm), EJ G Y_Mod_condition cvI 5 15 [(0, .ref x0)] [] M (k15 x0 M)) (x0 : Nat) (M : Mm) : EJ G Y_Mod_condition cvI 5 15 [(0, .ref x0)] [] M (Mod_condition_B15 k15 x0 M) := by
  unfold Mod_condition_B15
  refine EJ_aload_n 16 0 (dk_42 (bt bc_Mod_condition_0 15 rfl)) rfl rfl ?_
  refine EJ_ck (fun h6 => ?_)
  refine EJ_getI cf12 69 (by decide) 19 tw_1267 (fun _ _ _ => rfl) (dk_180 (bt bc_Mod_condition_0 16 rfl) (bt bc_Mod_condition_0 17 rfl) (bt bc_Mod_condition_0 18 rfl) (n := 421) rfl) rfl (of_decide_eq_true h6) ?_
  refine EJ_if_le 76 22 (dk_158 (bt bc_Mod_condition_0 19 rfl) (bt bc_Mod_condition_0 20 rfl) (bt bc_Mod_condition_0 21 rfl) (n := 57) rfl) (by decide) rfl (fun _ => ?_) (fun _ => ?_)
  · refine EJ_aload_n 77 0 (dk_42 (bt bc_Mod_condition_2 12 rfl)) rfl rfl ?_
    refine EJ_getI cf12 63 (by decide) 80 tw_1261 (fun _ _ _ => rfl) (dk_180 (bt bc_Mod_condition_2 13 rfl) (bt bc_Mod_condition_2 14 rfl) (bt bc_Mod_condition_2 15 rfl) (n := 424) rfl) rfl (of_decide_eq_true h6) ?_
    exact EJ_iret rfl (dk_172 (bt bc_Mod_condition_2 16 rfl))
  · refine EJ_aload_n 23 0 (dk_42 (bt bc_Mod_condition_0 22 rfl)) rfl rfl ?_
    refine EJ_getI cf12 65 (by decide) 26 tw_1263 (fun _ _ _ => rfl) (dk_180 (bt bc_Mod_condition_0 23 rfl) (bt bc_Mod_condition_0 24 rfl) (bt bc_Mod_condition_0 25 rfl) (n := 372) rfl) rfl (of_decide_eq_true h6) ?_
    refine EJ_if_ne 76 29 (dk_154 (bt bc_Mod_condition_0 26 rfl) (bt bc_Mod_condition_0 27 rfl) (bt bc_Mod_condition_0 28 rfl) (n := 50) rfl) (by decide) rfl (fun _ => ?_) (fun _ => ?_)
    · refine EJ_aload_n 77 0 (dk_42 (bt bc_Mod_condition_2 12 rfl)) rfl rfl ?_
      refine EJ_getI cf12 63 (by decide) 80 tw_1261 (fun _ _ _ => rfl) (dk_180 (bt bc_Mod_condition_2 13 rfl) (bt bc_Mod_condition_2 14 rfl) (bt bc_Mod_condition_2 15 rfl) (n := 424) rfl) rfl (of_decide_eq_true h6) ?_
      exact EJ_iret rfl (dk_172 (bt bc_Mod_condition_2 16 rfl))
    · refine EJ_aload_n 30 0 (dk_42 (bt bc_Mod_condition_0 29 rfl)) rfl rfl ?_
      refine EJ_getI cf12 69 (by decide) 33 tw_1267 (fun _ _ _ => rfl) (dk_180 (bt bc_Mod_condition_0 30 rfl) (bt bc_Mod_condition_0 31 rfl) (bt bc_Mod_condition_1 0 rfl) (n := 421) rfl) rfl (of_decide_eq_true h6) ?_
      refine EJ_iconst 34 (dk_4 (bt bc_Mod_condition_1 1 rfl)) rfl (v := 1) kI_1 ?_
      refine EJ_isub 35 (dk_100 (bt bc_Mod_condition_1 2 rfl)) rfl ?_
      refine EJ_istore_n 36 (lv2 := [(1, .int _), (0, .ref _)]) (dk_60 (bt bc_Mod_condition_1 3 rfl)) rfl (by decide) rfl ?_
      refine EJ_aload_n 37 1 (dk_42 (bt bc_Mod_condition_1 4 rfl)) rfl rfl ?_
      refine EJ_getR cf12 66 (by decide) 40 tw_1264 (fun _ _ _ => rfl) (dk_180 (bt bc_Mod_condition_1 5 rfl) (bt bc_Mod_condition_1 6 rfl) (bt bc_Mod_condition_1 7 rfl) (n := 140) rfl) rfl (of_decide_eq_true h6) (fun b8 => ?_)
      refine EJ_iload_n 41 0 (dk_27 (bt bc_Mod_condition_1 8 rfl)) rfl rfl ?_
      refine EJ_ck (fun h9 => ?_)
      refine EJ_iald 42 h9 (dk_46 (bt bc_Mod_condition_1 9 rfl)) rfl ?_
      refine EJ_iconst 43 (dk_5 (bt bc_Mod_condition_1 10 rfl)) rfl (v := 2) kI_2 ?_
      refine EJ_icmp_ne 54 46 (dk_160 (bt bc_Mod_condition_1 11 rfl) (bt bc_Mod_condition_1 12 rfl) (bt bc_Mod_condition_1 13 rfl) (n := 11) rfl) (by decide) rfl (fun _ => ?_) (fun _ => ?_)
      · refine EJ_aload_n 55 1 (dk_42 (bt bc_Mod_condition_1 22 rfl)) rfl rfl ?_
        refine EJ_iload_n 56 0 (dk_27 (bt bc_Mod_condition_1 23 rfl)) rfl rfl ?_
        refine EJ_aload_n 57 1 (dk_42 (bt bc_Mod_condition_1 24 rfl)) rfl rfl ?_
        refine EJ_getR cf12 66 (by decide) 60 tw_1264 (fun _ _ _ => rfl) (dk_180 (bt bc_Mod_condition_1 25 rfl) (bt bc_Mod_condition_1 26 rfl) (bt bc_Mod_condition_1 27 rfl) (n := 140) rfl) rfl (of_decide_eq_true h6) (fun b10 => ?_)
        refine EJ_iload_n 61 0 (dk_27 (bt bc_Mod_condition_1 28 rfl)) rfl rfl ?_
        refine EJ_ck (fun h11 => ?_)
        refine EJ_iald 62 h11 (dk_46 (bt bc_Mod_condition_1 29 rfl)) rfl ?_
        refine EJ_if_ne 69 65 (dk_154 (bt bc_Mod_condition_1 30 rfl) (bt bc_Mod_condition_1 31 rfl) (bt bc_Mod_condition_2 0 rfl) (n := 7) rfl) (by decide) rfl (fun _ => ?_) (fun _ => ?_)
        · refine EJ_iconst 70 (dk_3 (bt bc_Mod_condition_2 5 rfl)) rfl (v := 0) kI_0 ?_
          exact EJ_pick (lv2 := [(0, .ref _)]) [1] rfl (e_Mod_condition_J70 k15 hk15 _ _ _ _ _)
        · refine EJ_iconst 66 (dk_4 (bt bc_Mod_condition_2 1 rfl)) rfl (v := 1) kI_1 ?_
          refine EJ_goto 70 (dk_167 (bt bc_Mod_condition_2 2 rfl) (bt bc_Mod_condition_2 3 rfl) (bt bc_Mod_condition_2 4 rfl) (n := 4) rfl) (by decide) ?_
          exact EJ_pick (lv2 := [(0, .ref _)]) [1] rfl (e_Mod_condition_J70 k15 hk15 _ _ _ _ _)
      · refine EJ_aload_n 47 1 (dk_42 (bt bc_Mod_condition_1 14 rfl)) rfl rfl ?_
        refine EJ_iload_n 48 0 (dk_27 (bt bc_Mod_condition_1 15 rfl)) rfl rfl ?_
        refine EJ_callVv (Y2 := Y_Mod_fact) 51 cf12 (s_Mod_fact G _ _ _) (of_decide_eq_true h6) rfl (dk_182 (bt bc_Mod_condition_1 16 rfl) (bt bc_Mod_condition_1 17 rfl) (bt bc_Mod_condition_1 18 rfl) (n := 434) rfl) rfl tw_1714 tw_1716 ts_58 tw_1717 hd_Mod_fact rfl (by decide) (Nat.le_of_ble_eq_true rfl) (fun _ M16 => ?_)
        refine EJ_goto 73 (dk_167 (bt bc_Mod_condition_1 19 rfl) (bt bc_Mod_condition_1 20 rfl) (bt bc_Mod_condition_1 21 rfl) (n := 22) rfl) (by decide) ?_
        exact EJ_pick (lv2 := [(0, .ref _)]) [1] rfl (e_Mod_condition_J73 k15 hk15 _ _)
def Mod_condition_L15 (n : Nat) : Nat → Mm → Option (Int32 × Mm) :=
  match n with
  | 0 => fun _ _ => none
  | n + 1 => Mod_condition_B15 (Mod_condition_L15 n)
theorem e_Mod_condition_L15 {G : Gx} : ∀ (n : Nat) (x0 : Nat) (M : Mm), EJ G Y_Mod_condition cvI 5 15 [(0, .ref x0)] [] M (Mod_condition_L15 n x0 M) := by
  intro n
  induction n with
  | zero => intros; exact EJ_none
  | succ n ih => intro x0 M; exact e_Mod_condition_B15 _ ih x0 M
def Mod_condition (M : Mm) (a0 : Nat) : Option (Int32 × Mm) :=
  ck (kO M a0 12 107) (
  let M2 := sI M a0 69 0
  let M3 := sI M2 a0 62 0
  bd (Mod_begin M3 a0 0) (fun _ M5 =>
  Mod_condition_L15 fu a0 M5))
set_option maxRecDepth 100000 in
set_option maxHeartbeats 4000000 in
theorem s_Mod_condition (G : Gx) (M : Mm) (a0 : Nat) : FnS G Y_Mod_condition cvI 5 [.ref a0] M (Mod_condition M a0) := by
  refine FnS.ofE (by decide) (Nat.le_of_ble_eq_true rfl) ?_
  show EJ G Y_Mod_condition cvI 5 0 [(0, .ref a0)] [] M _
  unfold Mod_condition
  refine EJ_aload_n 1 0 (dk_42 (bt bc_Mod_condition_0 0 rfl)) rfl rfl ?_
  refine EJ_iconst 2 (dk_3 (bt bc_Mod_condition_0 1 rfl)) rfl (v := 0) kI_0 ?_
  refine EJ_ck (fun h1 => ?_)
  refine EJ_putI cf12 69 (by decide) 5 tw_1267 rfl (Or.inl rfl) (dk_181 (bt bc_Mod_condition_0 2 rfl) (bt bc_Mod_condition_0 3 rfl) (bt bc_Mod_condition_0 4 rfl) (n := 421) rfl) rfl (of_decide_eq_true h1) ?_
  refine EJ_aload_n 6 0 (dk_42 (bt bc_Mod_condition_0 5 rfl)) rfl rfl ?_
  refine EJ_iconst 7 (dk_3 (bt bc_Mod_condition_0 6 rfl)) rfl (v := 0) kI_0 ?_
  refine EJ_putI cf12 62 (by decide) 10 tw_1260 rfl (Or.inl rfl) (dk_181 (bt bc_Mod_condition_0 7 rfl) (bt bc_Mod_condition_0 8 rfl) (bt bc_Mod_condition_0 9 rfl) (n := 427) rfl) rfl (kp_I (of_decide_eq_true h1)) ?_
  refine EJ_aload_n 11 0 (dk_42 (bt bc_Mod_condition_0 10 rfl)) rfl rfl ?_
  refine EJ_iconst 12 (dk_3 (bt bc_Mod_condition_0 11 rfl)) rfl (v := 0) kI_0 ?_
  refine EJ_callVv (Y2 := Y_Mod_begin) 15 cf12 (s_Mod_begin G _ _ _) (kp_I (kp_I (of_decide_eq_true h1))) rfl (dk_182 (bt bc_Mod_condition_0 12 rfl) (bt bc_Mod_condition_0 13 rfl) (bt bc_Mod_condition_0 14 rfl) (n := 430) rfl) rfl tw_1710 tw_1712 ts_57 tw_1713 hd_Mod_begin rfl (by decide) (Nat.le_of_ble_eq_true rfl) (fun _ M5 => ?_)
  exact EJ_pick (lv2 := [(0, .ref _)]) [0] rfl (e_Mod_condition_L15 fu _ _)
abbrev Y_Mod_wordOf : Ym := (⟨"RiceHallModel", "wordOf", "(J)I"⟩, prog_14_method_44_code, 3, (some FieldType.int))
theorem bc_Mod_wordOf_0 : bts prog_14_method_44_code 0 [31, 20, 1, 140, 148, 154, 0, 5, 3, 172, 31, 20, 1, 142, 148, 154, 0, 5, 4, 172, 31, 20, 1, 144, 148, 154, 0, 5, 5, 172, 31, 20] := bts_of (by decide +kernel)
theorem bc_Mod_wordOf_1 : bts prog_14_method_44_code 32 [1, 146, 148, 154, 0, 5, 6, 172, 31, 20, 1, 148, 148, 154, 0, 5, 7, 172, 31, 20, 1, 150, 148, 154, 0, 5, 8, 172, 31, 20, 1, 152] := bts_of (by decide +kernel)
theorem bc_Mod_wordOf_2 : bts prog_14_method_44_code 64 [148, 154, 0, 6, 16, 6, 172, 31, 20, 1, 154, 148, 154, 0, 6, 16, 7, 172, 31, 20, 1, 156, 148, 154, 0, 6, 16, 8, 172, 31, 20, 1] := bts_of (by decide +kernel)
theorem bc_Mod_wordOf_3 : bts prog_14_method_44_code 96 [158, 148, 154, 0, 6, 16, 9, 172, 31, 20, 1, 160, 148, 154, 0, 6, 16, 10, 172, 2, 172] := bts_of (by decide +kernel)
theorem hd_Mod_wordOf : Y_Mod_wordOf.1.cls = RX12 ∧ Y_Mod_wordOf.1.cls ≠ "java/lang/invoke/MethodHandle" ∧ Y_Mod_wordOf.1.cls ≠ "java/lang/invoke/VarHandle" ∧ (parseMethodDescriptor Y_Mod_wordOf.1.desc).map (fun d => d.parameters.length) = some 1 := by decide +kernel
def Mod_wordOf (M : Mm) (a0 : Nat) (a1 : Int64) : Option (Int32 × Mm) :=
  if a1 = 3436200 then (
    some (0, M))
  else (
    if a1 = 1239032113 then (
      some (1, M))
    else (
      if a1 = 187426886 then (
        some (2, M))
      else (
        if a1 = 133925 then (
          some (3, M))
        else (
          if a1 = 55175 then (
            some (4, M))
          else (
            if a1 = 153623 then (
              some (5, M))
            else (
              if a1 = 5146 then (
                some (6, M))
              else (
                if a1 = 4075196 then (
                  some (7, M))
                else (
                  if a1 = 275695007 then (
                    some (8, M))
                  else (
                    if a1 = 10423497 then (
                      some (9, M))
                    else (
                      if a1 = 158537 then (
                        some (10, M))
                      else (
                        some ((-1), M))))))))))))
set_option maxRecDepth 100000 in
set_option maxHeartbeats 4000000 in
theorem s_Mod_wordOf (G : Gx) (M : Mm) (a0 : Nat) (a1 : Int64) : FnS G Y_Mod_wordOf cvI 1 [.ref a0, .long a1] M (Mod_wordOf M a0 a1) := by
  refine FnS.ofE (by decide) (Nat.le_of_ble_eq_true rfl) ?_
  show EJ G Y_Mod_wordOf cvI 1 0 [(0, .ref a0), (1, .long a1)] [] M _
  unfold Mod_wordOf
  refine EJ_lload_n 1 1 (dk_31 (bt bc_Mod_wordOf_0 0 rfl)) rfl rfl ?_
  refine EJ_ldc2 4 (dk_20 (bt bc_Mod_wordOf_0 1 rfl) (bt bc_Mod_wordOf_0 2 rfl) (bt bc_Mod_wordOf_0 3 rfl) (n := 396) rfl) rfl tw_1760 ?_
  refine EJ_lcmp_ne 10 8 (dk_148 (bt bc_Mod_wordOf_0 4 rfl)) (dk_154 (bt bc_Mod_wordOf_0 5 rfl) (bt bc_Mod_wordOf_0 6 rfl) (bt bc_Mod_wordOf_0 7 rfl) (n := 5) rfl) (by decide) rfl (fun _ => ?_) (fun _ => ?_)
  · refine EJ_lload_n 11 1 (dk_31 (bt bc_Mod_wordOf_0 10 rfl)) rfl rfl ?_
    refine EJ_ldc2 14 (dk_20 (bt bc_Mod_wordOf_0 11 rfl) (bt bc_Mod_wordOf_0 12 rfl) (bt bc_Mod_wordOf_0 13 rfl) (n := 398) rfl) rfl tw_1761 ?_
    refine EJ_lcmp_ne 20 18 (dk_148 (bt bc_Mod_wordOf_0 14 rfl)) (dk_154 (bt bc_Mod_wordOf_0 15 rfl) (bt bc_Mod_wordOf_0 16 rfl) (bt bc_Mod_wordOf_0 17 rfl) (n := 5) rfl) (by decide) rfl (fun _ => ?_) (fun _ => ?_)
    · refine EJ_lload_n 21 1 (dk_31 (bt bc_Mod_wordOf_0 20 rfl)) rfl rfl ?_
      refine EJ_ldc2 24 (dk_20 (bt bc_Mod_wordOf_0 21 rfl) (bt bc_Mod_wordOf_0 22 rfl) (bt bc_Mod_wordOf_0 23 rfl) (n := 400) rfl) rfl tw_1762 ?_
      refine EJ_lcmp_ne 30 28 (dk_148 (bt bc_Mod_wordOf_0 24 rfl)) (dk_154 (bt bc_Mod_wordOf_0 25 rfl) (bt bc_Mod_wordOf_0 26 rfl) (bt bc_Mod_wordOf_0 27 rfl) (n := 5) rfl) (by decide) rfl (fun _ => ?_) (fun _ => ?_)
      · refine EJ_lload_n 31 1 (dk_31 (bt bc_Mod_wordOf_0 30 rfl)) rfl rfl ?_
        refine EJ_ldc2 34 (dk_20 (bt bc_Mod_wordOf_0 31 rfl) (bt bc_Mod_wordOf_1 0 rfl) (bt bc_Mod_wordOf_1 1 rfl) (n := 402) rfl) rfl tw_1763 ?_
        refine EJ_lcmp_ne 40 38 (dk_148 (bt bc_Mod_wordOf_1 2 rfl)) (dk_154 (bt bc_Mod_wordOf_1 3 rfl) (bt bc_Mod_wordOf_1 4 rfl) (bt bc_Mod_wordOf_1 5 rfl) (n := 5) rfl) (by decide) rfl (fun _ => ?_) (fun _ => ?_)
        · refine EJ_lload_n 41 1 (dk_31 (bt bc_Mod_wordOf_1 8 rfl)) rfl rfl ?_
          refine EJ_ldc2 44 (dk_20 (bt bc_Mod_wordOf_1 9 rfl) (bt bc_Mod_wordOf_1 10 rfl) (bt bc_Mod_wordOf_1 11 rfl) (n := 404) rfl) rfl tw_1764 ?_
          refine EJ_lcmp_ne 50 48 (dk_148 (bt bc_Mod_wordOf_1 12 rfl)) (dk_154 (bt bc_Mod_wordOf_1 13 rfl) (bt bc_Mod_wordOf_1 14 rfl) (bt bc_Mod_wordOf_1 15 rfl) (n := 5) rfl) (by decide) rfl (fun _ => ?_) (fun _ => ?_)
          · refine EJ_lload_n 51 1 (dk_31 (bt bc_Mod_wordOf_1 18 rfl)) rfl rfl ?_
            refine EJ_ldc2 54 (dk_20 (bt bc_Mod_wordOf_1 19 rfl) (bt bc_Mod_wordOf_1 20 rfl) (bt bc_Mod_wordOf_1 21 rfl) (n := 406) rfl) rfl tw_1765 ?_
            refine EJ_lcmp_ne 60 58 (dk_148 (bt bc_Mod_wordOf_1 22 rfl)) (dk_154 (bt bc_Mod_wordOf_1 23 rfl) (bt bc_Mod_wordOf_1 24 rfl) (bt bc_Mod_wordOf_1 25 rfl) (n := 5) rfl) (by decide) rfl (fun _ => ?_) (fun _ => ?_)
            · refine EJ_lload_n 61 1 (dk_31 (bt bc_Mod_wordOf_1 28 rfl)) rfl rfl ?_
              refine EJ_ldc2 64 (dk_20 (bt bc_Mod_wordOf_1 29 rfl) (bt bc_Mod_wordOf_1 30 rfl) (bt bc_Mod_wordOf_1 31 rfl) (n := 408) rfl) rfl tw_1766 ?_
              refine EJ_lcmp_ne 71 68 (dk_148 (bt bc_Mod_wordOf_2 0 rfl)) (dk_154 (bt bc_Mod_wordOf_2 1 rfl) (bt bc_Mod_wordOf_2 2 rfl) (bt bc_Mod_wordOf_2 3 rfl) (n := 6) rfl) (by decide) rfl (fun _ => ?_) (fun _ => ?_)
              · refine EJ_lload_n 72 1 (dk_31 (bt bc_Mod_wordOf_2 7 rfl)) rfl rfl ?_
                refine EJ_ldc2 75 (dk_20 (bt bc_Mod_wordOf_2 8 rfl) (bt bc_Mod_wordOf_2 9 rfl) (bt bc_Mod_wordOf_2 10 rfl) (n := 410) rfl) rfl tw_1767 ?_
                refine EJ_lcmp_ne 82 79 (dk_148 (bt bc_Mod_wordOf_2 11 rfl)) (dk_154 (bt bc_Mod_wordOf_2 12 rfl) (bt bc_Mod_wordOf_2 13 rfl) (bt bc_Mod_wordOf_2 14 rfl) (n := 6) rfl) (by decide) rfl (fun _ => ?_) (fun _ => ?_)
                · refine EJ_lload_n 83 1 (dk_31 (bt bc_Mod_wordOf_2 18 rfl)) rfl rfl ?_
                  refine EJ_ldc2 86 (dk_20 (bt bc_Mod_wordOf_2 19 rfl) (bt bc_Mod_wordOf_2 20 rfl) (bt bc_Mod_wordOf_2 21 rfl) (n := 412) rfl) rfl tw_1768 ?_
                  refine EJ_lcmp_ne 93 90 (dk_148 (bt bc_Mod_wordOf_2 22 rfl)) (dk_154 (bt bc_Mod_wordOf_2 23 rfl) (bt bc_Mod_wordOf_2 24 rfl) (bt bc_Mod_wordOf_2 25 rfl) (n := 6) rfl) (by decide) rfl (fun _ => ?_) (fun _ => ?_)
                  · refine EJ_lload_n 94 1 (dk_31 (bt bc_Mod_wordOf_2 29 rfl)) rfl rfl ?_
                    refine EJ_ldc2 97 (dk_20 (bt bc_Mod_wordOf_2 30 rfl) (bt bc_Mod_wordOf_2 31 rfl) (bt bc_Mod_wordOf_3 0 rfl) (n := 414) rfl) rfl tw_1769 ?_
                    refine EJ_lcmp_ne 104 101 (dk_148 (bt bc_Mod_wordOf_3 1 rfl)) (dk_154 (bt bc_Mod_wordOf_3 2 rfl) (bt bc_Mod_wordOf_3 3 rfl) (bt bc_Mod_wordOf_3 4 rfl) (n := 6) rfl) (by decide) rfl (fun _ => ?_) (fun _ => ?_)
                    · refine EJ_lload_n 105 1 (dk_31 (bt bc_Mod_wordOf_3 8 rfl)) rfl rfl ?_
                      refine EJ_ldc2 108 (dk_20 (bt bc_Mod_wordOf_3 9 rfl) (bt bc_Mod_wordOf_3 10 rfl) (bt bc_Mod_wordOf_3 11 rfl) (n := 416) rfl) rfl tw_1770 ?_
                      refine EJ_lcmp_ne 115 112 (dk_148 (bt bc_Mod_wordOf_3 12 rfl)) (dk_154 (bt bc_Mod_wordOf_3 13 rfl) (bt bc_Mod_wordOf_3 14 rfl) (bt bc_Mod_wordOf_3 15 rfl) (n := 6) rfl) (by decide) rfl (fun _ => ?_) (fun _ => ?_)
                      · refine EJ_iconst 116 (dk_2 (bt bc_Mod_wordOf_3 19 rfl)) rfl (v := (-1)) kI_m1 ?_
                        exact EJ_iret rfl (dk_172 (bt bc_Mod_wordOf_3 20 rfl))
                      · refine EJ_bipush 114 (dk_16 (bt bc_Mod_wordOf_3 16 rfl) (bt bc_Mod_wordOf_3 17 rfl) (n := 10) rfl) rfl (v := 10) kB_10 ?_
                        exact EJ_iret rfl (dk_172 (bt bc_Mod_wordOf_3 18 rfl))
                    · refine EJ_bipush 103 (dk_16 (bt bc_Mod_wordOf_3 5 rfl) (bt bc_Mod_wordOf_3 6 rfl) (n := 9) rfl) rfl (v := 9) kB_9 ?_
                      exact EJ_iret rfl (dk_172 (bt bc_Mod_wordOf_3 7 rfl))
                  · refine EJ_bipush 92 (dk_16 (bt bc_Mod_wordOf_2 26 rfl) (bt bc_Mod_wordOf_2 27 rfl) (n := 8) rfl) rfl (v := 8) kB_8 ?_
                    exact EJ_iret rfl (dk_172 (bt bc_Mod_wordOf_2 28 rfl))
                · refine EJ_bipush 81 (dk_16 (bt bc_Mod_wordOf_2 15 rfl) (bt bc_Mod_wordOf_2 16 rfl) (n := 7) rfl) rfl (v := 7) kB_7 ?_
                  exact EJ_iret rfl (dk_172 (bt bc_Mod_wordOf_2 17 rfl))
              · refine EJ_bipush 70 (dk_16 (bt bc_Mod_wordOf_2 4 rfl) (bt bc_Mod_wordOf_2 5 rfl) (n := 6) rfl) rfl (v := 6) kB_6 ?_
                exact EJ_iret rfl (dk_172 (bt bc_Mod_wordOf_2 6 rfl))
            · refine EJ_iconst 59 (dk_8 (bt bc_Mod_wordOf_1 26 rfl)) rfl (v := 5) kI_5 ?_
              exact EJ_iret rfl (dk_172 (bt bc_Mod_wordOf_1 27 rfl))
          · refine EJ_iconst 49 (dk_7 (bt bc_Mod_wordOf_1 16 rfl)) rfl (v := 4) kI_4 ?_
            exact EJ_iret rfl (dk_172 (bt bc_Mod_wordOf_1 17 rfl))
        · refine EJ_iconst 39 (dk_6 (bt bc_Mod_wordOf_1 6 rfl)) rfl (v := 3) kI_3 ?_
          exact EJ_iret rfl (dk_172 (bt bc_Mod_wordOf_1 7 rfl))
      · refine EJ_iconst 29 (dk_5 (bt bc_Mod_wordOf_0 28 rfl)) rfl (v := 2) kI_2 ?_
        exact EJ_iret rfl (dk_172 (bt bc_Mod_wordOf_0 29 rfl))
    · refine EJ_iconst 19 (dk_4 (bt bc_Mod_wordOf_0 18 rfl)) rfl (v := 1) kI_1 ?_
      exact EJ_iret rfl (dk_172 (bt bc_Mod_wordOf_0 19 rfl))
  · refine EJ_iconst 9 (dk_3 (bt bc_Mod_wordOf_0 8 rfl)) rfl (v := 0) kI_0 ?_
    exact EJ_iret rfl (dk_172 (bt bc_Mod_wordOf_0 9 rfl))
abbrev Y_Mod_statement : Ym := (⟨"RiceHallModel", "statement", "(I)V"⟩, prog_14_method_52_code, 2, none)
theorem bc_Mod_statement_0 : bts prog_14_method_52_code 0 [42, 180, 0, 109, 27, 2, 79, 42, 180, 0, 106, 27, 3, 79, 42, 180, 0, 112, 27, 42, 180, 1, 162, 79, 42, 20, 1, 215, 182, 1, 193, 153] := bts_of (by decide +kernel)
theorem bc_Mod_statement_1 : bts prog_14_method_52_code 32 [0, 17, 42, 182, 1, 120, 42, 180, 0, 109, 27, 42, 182, 1, 217, 79, 42, 180, 0, 115, 27, 42, 180, 1, 162, 79, 42, 180, 1, 116, 153, 0] := bts_of (by decide +kernel)
theorem bc_Mod_statement_2 : bts prog_14_method_52_code 64 [4, 177, 42, 180, 0, 103, 27, 42, 180, 1, 110, 4, 160, 0, 14, 42, 42, 180, 1, 101, 182, 1, 220, 167, 0, 4, 2, 79, 42, 180, 0, 103] := bts_of (by decide +kernel)
theorem bc_Mod_statement_3 : bts prog_14_method_52_code 96 [27, 46, 156, 0, 8, 42, 182, 1, 123, 177, 42, 182, 1, 120, 42, 180, 0, 103, 27, 46, 16, 9, 162, 0, 52, 42, 180, 0, 106, 27, 42, 42] := bts_of (by decide +kernel)
theorem bc_Mod_statement_4 : bts prog_14_method_52_code 128 [180, 0, 103, 27, 46, 6, 159, 0, 24, 42, 180, 0, 103, 27, 46, 7, 159, 0, 14, 42, 180, 0, 103, 27, 46, 16, 8, 160, 0, 7, 4, 167] := bts_of (by decide +kernel)
theorem bc_Mod_statement_5 : bts prog_14_method_52_code 160 [0, 4, 3, 182, 1, 212, 79, 167, 0, 76, 42, 180, 0, 103, 27, 46, 16, 9, 160, 0, 58, 42, 180, 0, 106, 27, 42, 20, 1, 223, 182, 1] := bts_of (by decide +kernel)
theorem bc_Mod_statement_6 : bts prog_14_method_52_code 192 [193, 153, 0, 7, 4, 167, 0, 4, 3, 79, 42, 20, 1, 223, 182, 1, 193, 154, 0, 13, 42, 20, 1, 225, 182, 1, 193, 153, 0, 10, 42, 182] := bts_of (by decide +kernel)
theorem bc_Mod_statement_7 : bts prog_14_method_52_code 224 [1, 120, 167, 0, 17, 42, 182, 1, 123, 167, 0, 10, 42, 180, 0, 106, 27, 4, 79, 42, 180, 1, 116, 153, 0, 4, 177, 42, 16, 59, 182, 1] := bts_of (by decide +kernel)
theorem bc_Mod_statement_8 : bts prog_14_method_52_code 256 [205, 153, 0, 10, 42, 182, 1, 120, 167, 0, 7, 42, 182, 1, 123, 177] := bts_of (by decide +kernel)
theorem hd_Mod_statement : Y_Mod_statement.1.cls = RX12 ∧ Y_Mod_statement.1.cls ≠ "java/lang/invoke/MethodHandle" ∧ Y_Mod_statement.1.cls ≠ "java/lang/invoke/VarHandle" ∧ (parseMethodDescriptor Y_Mod_statement.1.desc).map (fun d => d.parameters.length) = some 1 := by decide +kernel
def Mod_statement_J243 (x0 : Nat) (M : Mm) : Option (Unit × Mm) :=
  ck (kO M x0 12 107) (
  if (mI M x0 65) = 0 then (
    bd (Mod_isSign M x0 59) (fun r34 M35 =>
    if r34 = 0 then (
      ck (kO M35 x0 12 107) (
      bd (Mod_fails0 M35 x0) (fun _ M38 =>
      some ((), M38))))
    else (
      ck (kO M35 x0 12 107) (
      bd (Mod_next M35 x0) (fun _ M41 =>
      some ((), M41))))))
  else (
    some ((), M)))
set_option maxRecDepth 100000 in
set_option maxHeartbeats 4000000 in
theorem e_Mod_statement_J243 {G : Gx} (x0 : Nat) (M : Mm) : EJ G Y_Mod_statement cvV 6 243 [(0, .ref x0)] [] M (Mod_statement_J243 x0 M) := by
  unfold Mod_statement_J243
  refine EJ_aload_n 244 0 (dk_42 (bt bc_Mod_statement_7 19 rfl)) rfl rfl ?_
  refine EJ_ck (fun h33 => ?_)
  refine EJ_getI cf12 65 (by decide) 247 tw_1263 (fun _ _ _ => rfl) (dk_180 (bt bc_Mod_statement_7 20 rfl) (bt bc_Mod_statement_7 21 rfl) (bt bc_Mod_statement_7 22 rfl) (n := 372) rfl) rfl (of_decide_eq_true h33) ?_
  refine EJ_if_eq 251 250 (dk_153 (bt bc_Mod_statement_7 23 rfl) (bt bc_Mod_statement_7 24 rfl) (bt bc_Mod_statement_7 25 rfl) (n := 4) rfl) (by decide) rfl (fun _ => ?_) (fun _ => ?_)
  · refine EJ_aload_n 252 0 (dk_42 (bt bc_Mod_statement_7 27 rfl)) rfl rfl ?_
    refine EJ_bipush 254 (dk_16 (bt bc_Mod_statement_7 28 rfl) (bt bc_Mod_statement_7 29 rfl) (n := 59) rfl) rfl (v := 59) kB_59 ?_
    refine EJ_callVi (Y2 := Y_Mod_isSign) 257 cf12 (s_Mod_isSign G _ _ _) (of_decide_eq_true h33) rfl (dk_182 (bt bc_Mod_statement_7 30 rfl) (bt bc_Mod_statement_7 31 rfl) (bt bc_Mod_statement_8 0 rfl) (n := 461) rfl) rfl tw_1723 tw_1725 ts_60 tw_1726 hd_Mod_isSign rfl (by decide) (Nat.le_of_ble_eq_true rfl) (fun r34 M35 => ?_)
    refine EJ_if_eq 267 260 (dk_153 (bt bc_Mod_statement_8 1 rfl) (bt bc_Mod_statement_8 2 rfl) (bt bc_Mod_statement_8 3 rfl) (n := 10) rfl) (by decide) rfl (fun _ => ?_) (fun _ => ?_)
    · refine EJ_aload_n 268 0 (dk_42 (bt bc_Mod_statement_8 11 rfl)) rfl rfl ?_
      refine EJ_ck (fun h36 => ?_)
      refine EJ_callVv (Y2 := Y_Mod_fails0) 271 cf12 (s_Mod_fails0 G _ _) (of_decide_eq_true h36) rfl (dk_182 (bt bc_Mod_statement_8 12 rfl) (bt bc_Mod_statement_8 13 rfl) (bt bc_Mod_statement_8 14 rfl) (n := 379) rfl) rfl tw_1693 tw_1695 ts_53 tw_1696 hd_Mod_fails0 rfl (by decide) (Nat.le_of_ble_eq_true rfl) (fun _ M38 => ?_)
      exact EJ_vret rfl (dk_177 (bt bc_Mod_statement_8 15 rfl))
    · refine EJ_aload_n 261 0 (dk_42 (bt bc_Mod_statement_8 4 rfl)) rfl rfl ?_
      refine EJ_ck (fun h39 => ?_)
      refine EJ_callVv (Y2 := Y_Mod_next) 264 cf12 (s_Mod_next G _ _) (of_decide_eq_true h39) rfl (dk_182 (bt bc_Mod_statement_8 5 rfl) (bt bc_Mod_statement_8 6 rfl) (bt bc_Mod_statement_8 7 rfl) (n := 376) rfl) rfl tw_1682 tw_1684 ts_51 tw_1685 hd_Mod_next rfl (by decide) (Nat.le_of_ble_eq_true rfl) (fun _ M41 => ?_)
      refine EJ_goto 271 (dk_167 (bt bc_Mod_statement_8 8 rfl) (bt bc_Mod_statement_8 9 rfl) (bt bc_Mod_statement_8 10 rfl) (n := 7) rfl) (by decide) ?_
      exact EJ_vret rfl (dk_177 (bt bc_Mod_statement_8 15 rfl))
  · exact EJ_vret rfl (dk_177 (bt bc_Mod_statement_7 26 rfl))
def Mod_statement_J222 (x0 : Nat) (M : Mm) : Option (Unit × Mm) :=
  ck (kO M x0 12 107) (
  bd (Mod_next M x0) (fun _ M52 =>
  Mod_statement_J243 x0 M52))
set_option maxRecDepth 100000 in
set_option maxHeartbeats 4000000 in
theorem e_Mod_statement_J222 {G : Gx} (x0 : Nat) (M : Mm) : EJ G Y_Mod_statement cvV 6 222 [(0, .ref x0)] [] M (Mod_statement_J222 x0 M) := by
  unfold Mod_statement_J222
  refine EJ_aload_n 223 0 (dk_42 (bt bc_Mod_statement_6 30 rfl)) rfl rfl ?_
  refine EJ_ck (fun h50 => ?_)
  refine EJ_callVv (Y2 := Y_Mod_next) 226 cf12 (s_Mod_next G _ _) (of_decide_eq_true h50) rfl (dk_182 (bt bc_Mod_statement_6 31 rfl) (bt bc_Mod_statement_7 0 rfl) (bt bc_Mod_statement_7 1 rfl) (n := 376) rfl) rfl tw_1682 tw_1684 ts_51 tw_1685 hd_Mod_next rfl (by decide) (Nat.le_of_ble_eq_true rfl) (fun _ M52 => ?_)
  refine EJ_goto 243 (dk_167 (bt bc_Mod_statement_7 2 rfl) (bt bc_Mod_statement_7 3 rfl) (bt bc_Mod_statement_7 4 rfl) (n := 17) rfl) (by decide) ?_
  exact EJ_pick (lv2 := [(0, .ref _)]) [0] rfl (e_Mod_statement_J243 _ _)
def Mod_statement_J201 (x0 : Nat) (s0 : Int32) (s1 : Int32) (s2 : Nat) (M : Mm) : Option (Unit × Mm) :=
  ck (kA M s2 20 s1) (
  let M46 := sI M s2 (ix s1) s0
  ck (kO M46 x0 12 107) (
  bd (Mod_isWord M46 x0 123002136) (fun r48 M49 =>
  if r48 = 0 then (
    ck (kO M49 x0 12 107) (
    bd (Mod_isWord M49 x0 10502465) (fun r54 M55 =>
    if r54 = 0 then (
      ck (kO M55 x0 12 107) (
      bd (Mod_fails0 M55 x0) (fun _ M58 =>
      Mod_statement_J243 x0 M58)))
    else (
      Mod_statement_J222 x0 M55))))
  else (
    Mod_statement_J222 x0 M49))))
set_option maxRecDepth 100000 in
set_option maxHeartbeats 4000000 in
theorem e_Mod_statement_J201 {G : Gx} (x0 : Nat) (s0 : Int32) (s1 : Int32) (s2 : Nat) (M : Mm) : EJ G Y_Mod_statement cvV 6 201 [(0, .ref x0)] [.int s0, .int s1, .ref s2] M (Mod_statement_J201 x0 s0 s1 s2 M) := by
  unfold Mod_statement_J201
  refine EJ_ck (fun h45 => ?_)
  refine EJ_iast 202 h45 (dk_79 (bt bc_Mod_statement_6 9 rfl)) rfl ?_
  refine EJ_aload_n 203 0 (dk_42 (bt bc_Mod_statement_6 10 rfl)) rfl rfl ?_
  refine EJ_ldc2 206 (dk_20 (bt bc_Mod_statement_6 11 rfl) (bt bc_Mod_statement_6 12 rfl) (bt bc_Mod_statement_6 13 rfl) (n := 479) rfl) rfl tw_1771 ?_
  refine EJ_ck (fun h47 => ?_)
  refine EJ_callVi (Y2 := Y_Mod_isWord) 209 cf12 (s_Mod_isWord G _ _ _) (of_decide_eq_true h47) rfl (dk_182 (bt bc_Mod_statement_6 14 rfl) (bt bc_Mod_statement_6 15 rfl) (bt bc_Mod_statement_6 16 rfl) (n := 449) rfl) rfl tw_1702 tw_1704 ts_55 tw_1705 hd_Mod_isWord rfl (by decide) (Nat.le_of_ble_eq_true rfl) (fun r48 M49 => ?_)
  refine EJ_if_ne 222 212 (dk_154 (bt bc_Mod_statement_6 17 rfl) (bt bc_Mod_statement_6 18 rfl) (bt bc_Mod_statement_6 19 rfl) (n := 13) rfl) (by decide) rfl (fun _ => ?_) (fun _ => ?_)
  · exact EJ_pick (lv2 := [(0, .ref _)]) [0] rfl (e_Mod_statement_J222 _ _)
  · refine EJ_aload_n 213 0 (dk_42 (bt bc_Mod_statement_6 20 rfl)) rfl rfl ?_
    refine EJ_ldc2 216 (dk_20 (bt bc_Mod_statement_6 21 rfl) (bt bc_Mod_statement_6 22 rfl) (bt bc_Mod_statement_6 23 rfl) (n := 481) rfl) rfl tw_1772 ?_
    refine EJ_ck (fun h53 => ?_)
    refine EJ_callVi (Y2 := Y_Mod_isWord) 219 cf12 (s_Mod_isWord G _ _ _) (of_decide_eq_true h53) rfl (dk_182 (bt bc_Mod_statement_6 24 rfl) (bt bc_Mod_statement_6 25 rfl) (bt bc_Mod_statement_6 26 rfl) (n := 449) rfl) rfl tw_1702 tw_1704 ts_55 tw_1705 hd_Mod_isWord rfl (by decide) (Nat.le_of_ble_eq_true rfl) (fun r54 M55 => ?_)
    refine EJ_if_eq 229 222 (dk_153 (bt bc_Mod_statement_6 27 rfl) (bt bc_Mod_statement_6 28 rfl) (bt bc_Mod_statement_6 29 rfl) (n := 10) rfl) (by decide) rfl (fun _ => ?_) (fun _ => ?_)
    · refine EJ_aload_n 230 0 (dk_42 (bt bc_Mod_statement_7 5 rfl)) rfl rfl ?_
      refine EJ_ck (fun h56 => ?_)
      refine EJ_callVv (Y2 := Y_Mod_fails0) 233 cf12 (s_Mod_fails0 G _ _) (of_decide_eq_true h56) rfl (dk_182 (bt bc_Mod_statement_7 6 rfl) (bt bc_Mod_statement_7 7 rfl) (bt bc_Mod_statement_7 8 rfl) (n := 379) rfl) rfl tw_1693 tw_1695 ts_53 tw_1696 hd_Mod_fails0 rfl (by decide) (Nat.le_of_ble_eq_true rfl) (fun _ M58 => ?_)
      refine EJ_goto 243 (dk_167 (bt bc_Mod_statement_7 9 rfl) (bt bc_Mod_statement_7 10 rfl) (bt bc_Mod_statement_7 11 rfl) (n := 10) rfl) (by decide) ?_
      exact EJ_pick (lv2 := [(0, .ref _)]) [0] rfl (e_Mod_statement_J243 _ _)
    · exact EJ_pick (lv2 := [(0, .ref _)]) [0] rfl (e_Mod_statement_J222 _ _)
def Mod_statement_J163 (x0 : Nat) (s0 : Int32) (s1 : Nat) (s2 : Int32) (s3 : Nat) (M : Mm) : Option (Unit × Mm) :=
  ck (kO M s1 12 107) (
  bd (Mod_number M s1 s0) (fun r63 M64 =>
  ck (kA M64 s3 20 s2) (
  let M66 := sI M64 s3 (ix s2) r63
  Mod_statement_J243 x0 M66)))
set_option maxRecDepth 100000 in
set_option maxHeartbeats 4000000 in
theorem e_Mod_statement_J163 {G : Gx} (x0 : Nat) (s0 : Int32) (s1 : Nat) (s2 : Int32) (s3 : Nat) (M : Mm) : EJ G Y_Mod_statement cvV 6 163 [(0, .ref x0)] [.int s0, .ref s1, .int s2, .ref s3] M (Mod_statement_J163 x0 s0 s1 s2 s3 M) := by
  unfold Mod_statement_J163
  refine EJ_ck (fun h62 => ?_)
  refine EJ_callVi (Y2 := Y_Mod_number) 166 cf12 (s_Mod_number G _ _ _) (of_decide_eq_true h62) rfl (dk_182 (bt bc_Mod_statement_5 3 rfl) (bt bc_Mod_statement_5 4 rfl) (bt bc_Mod_statement_5 5 rfl) (n := 468) rfl) rfl tw_1738 tw_1740 ts_62 tw_1741 hd_Mod_number rfl (by decide) (Nat.le_of_ble_eq_true rfl) (fun r63 M64 => ?_)
  refine EJ_ck (fun h65 => ?_)
  refine EJ_iast 167 h65 (dk_79 (bt bc_Mod_statement_5 6 rfl)) rfl ?_
  refine EJ_goto 243 (dk_167 (bt bc_Mod_statement_5 7 rfl) (bt bc_Mod_statement_5 8 rfl) (bt bc_Mod_statement_5 9 rfl) (n := 76) rfl) (by decide) ?_
  exact EJ_pick (lv2 := [(0, .ref _)]) [0] rfl (e_Mod_statement_J243 _ _)
def Mod_statement_J158 (x0 : Nat) (s0 : Nat) (s1 : Int32) (s2 : Nat) (M : Mm) : Option (Unit × Mm) :=
  Mod_statement_J163 x0 1 s0 s1 s2 M
set_option maxRecDepth 100000 in
set_option maxHeartbeats 4000000 in
theorem e_Mod_statement_J158 {G : Gx} (x0 : Nat) (s0 : Nat) (s1 : Int32) (s2 : Nat) (M : Mm) : EJ G Y_Mod_statement cvV 6 158 [(0, .ref x0)] [.ref s0, .int s1, .ref s2] M (Mod_statement_J158 x0 s0 s1 s2 M) := by
  unfold Mod_statement_J158
  refine EJ_iconst 159 (dk_4 (bt bc_Mod_statement_4 30 rfl)) rfl (v := 1) kI_1 ?_
  refine EJ_goto 163 (dk_167 (bt bc_Mod_statement_4 31 rfl) (bt bc_Mod_statement_5 0 rfl) (bt bc_Mod_statement_5 1 rfl) (n := 4) rfl) (by decide) ?_
  exact EJ_pick (lv2 := [(0, .ref _)]) [0] rfl (e_Mod_statement_J163 _ _ _ _ _ _)
def Mod_statement_J91 (x0 : Nat) (x1 : Int32) (s0 : Int32) (s1 : Int32) (s2 : Nat) (M : Mm) : Option (Unit × Mm) :=
  ck (kA M s2 20 s1) (
  let M19 := sI M s2 (ix s1) s0
  ck (kO M19 x0 12 107) (
  nn (mR M19 x0 41) (fun b21 =>
  ck (kA M19 b21 20 x1) (
  if 0 ≤ (mI M19 b21 (ix x1)) then (
    bd (Mod_next M19 x0) (fun _ M24 =>
    ck (kO M24 x0 12 107) (
    nn (mR M24 x0 41) (fun b26 =>
    ck (kA M24 b26 20 x1) (
    if 9 ≤ (mI M24 b26 (ix x1)) then (
      nn (mR M24 x0 41) (fun b28 =>
      ck (kA M24 b28 20 x1) (
      if (mI M24 b28 (ix x1)) = 9 then (
        nn (mR M24 x0 42) (fun b42 =>
        bd (Mod_isWord M24 x0 123002136) (fun r43 M44 =>
        if r43 = 0 then (
          Mod_statement_J201 x0 0 x1 b42 M44)
        else (
          Mod_statement_J201 x0 1 x1 b42 M44))))
      else (
        nn (mR M24 x0 42) (fun b30 =>
        ck (kA M24 b30 20 x1) (
        let M32 := sI M24 b30 (ix x1) 1
        Mod_statement_J243 x0 M32))))))
    else (
      nn (mR M24 x0 42) (fun b59 =>
      nn (mR M24 x0 41) (fun b60 =>
      ck (kA M24 b60 20 x1) (
      if (mI M24 b60 (ix x1)) = 3 then (
        Mod_statement_J158 x0 x0 x1 b59 M24)
      else (
        nn (mR M24 x0 41) (fun b67 =>
        ck (kA M24 b67 20 x1) (
        if (mI M24 b67 (ix x1)) = 4 then (
          Mod_statement_J158 x0 x0 x1 b59 M24)
        else (
          nn (mR M24 x0 41) (fun b69 =>
          ck (kA M24 b69 20 x1) (
          if (mI M24 b69 (ix x1)) = 8 then (
            Mod_statement_J158 x0 x0 x1 b59 M24)
          else (
            Mod_statement_J163 x0 0 x0 x1 b59 M24))))))))))))))))
  else (
    bd (Mod_fails0 M19 x0) (fun _ M72 =>
    some ((), M72)))))))
set_option maxRecDepth 100000 in
set_option maxHeartbeats 4000000 in
theorem e_Mod_statement_J91 {G : Gx} (x0 : Nat) (x1 : Int32) (s0 : Int32) (s1 : Int32) (s2 : Nat) (M : Mm) : EJ G Y_Mod_statement cvV 6 91 [(0, .ref x0), (1, .int x1)] [.int s0, .int s1, .ref s2] M (Mod_statement_J91 x0 x1 s0 s1 s2 M) := by
  unfold Mod_statement_J91
  refine EJ_ck (fun h18 => ?_)
  refine EJ_iast 92 h18 (dk_79 (bt bc_Mod_statement_2 27 rfl)) rfl ?_
  refine EJ_aload_n 93 0 (dk_42 (bt bc_Mod_statement_2 28 rfl)) rfl rfl ?_
  refine EJ_ck (fun h20 => ?_)
  refine EJ_getR cf12 41 (by decide) 96 tw_1239 (fun _ _ _ => rfl) (dk_180 (bt bc_Mod_statement_2 29 rfl) (bt bc_Mod_statement_2 30 rfl) (bt bc_Mod_statement_2 31 rfl) (n := 103) rfl) rfl (of_decide_eq_true h20) (fun b21 => ?_)
  refine EJ_iload_n 97 1 (dk_27 (bt bc_Mod_statement_3 0 rfl)) rfl rfl ?_
  refine EJ_ck (fun h22 => ?_)
  refine EJ_iald 98 h22 (dk_46 (bt bc_Mod_statement_3 1 rfl)) rfl ?_
  refine EJ_if_ge 106 101 (dk_156 (bt bc_Mod_statement_3 2 rfl) (bt bc_Mod_statement_3 3 rfl) (bt bc_Mod_statement_3 4 rfl) (n := 8) rfl) (by decide) rfl (fun _ => ?_) (fun _ => ?_)
  · refine EJ_aload_n 107 0 (dk_42 (bt bc_Mod_statement_3 10 rfl)) rfl rfl ?_
    refine EJ_callVv (Y2 := Y_Mod_next) 110 cf12 (s_Mod_next G _ _) (of_decide_eq_true h20) rfl (dk_182 (bt bc_Mod_statement_3 11 rfl) (bt bc_Mod_statement_3 12 rfl) (bt bc_Mod_statement_3 13 rfl) (n := 376) rfl) rfl tw_1682 tw_1684 ts_51 tw_1685 hd_Mod_next rfl (by decide) (Nat.le_of_ble_eq_true rfl) (fun _ M24 => ?_)
    refine EJ_aload_n 111 0 (dk_42 (bt bc_Mod_statement_3 14 rfl)) rfl rfl ?_
    refine EJ_ck (fun h25 => ?_)
    refine EJ_getR cf12 41 (by decide) 114 tw_1239 (fun _ _ _ => rfl) (dk_180 (bt bc_Mod_statement_3 15 rfl) (bt bc_Mod_statement_3 16 rfl) (bt bc_Mod_statement_3 17 rfl) (n := 103) rfl) rfl (of_decide_eq_true h25) (fun b26 => ?_)
    refine EJ_iload_n 115 1 (dk_27 (bt bc_Mod_statement_3 18 rfl)) rfl rfl ?_
    refine EJ_ck (fun h27 => ?_)
    refine EJ_iald 116 h27 (dk_46 (bt bc_Mod_statement_3 19 rfl)) rfl ?_
    refine EJ_bipush 118 (dk_16 (bt bc_Mod_statement_3 20 rfl) (bt bc_Mod_statement_3 21 rfl) (n := 9) rfl) rfl (v := 9) kB_9 ?_
    refine EJ_icmp_ge 170 121 (dk_162 (bt bc_Mod_statement_3 22 rfl) (bt bc_Mod_statement_3 23 rfl) (bt bc_Mod_statement_3 24 rfl) (n := 52) rfl) (by decide) rfl (fun _ => ?_) (fun _ => ?_)
    · refine EJ_aload_n 171 0 (dk_42 (bt bc_Mod_statement_5 10 rfl)) rfl rfl ?_
      refine EJ_getR cf12 41 (by decide) 174 tw_1239 (fun _ _ _ => rfl) (dk_180 (bt bc_Mod_statement_5 11 rfl) (bt bc_Mod_statement_5 12 rfl) (bt bc_Mod_statement_5 13 rfl) (n := 103) rfl) rfl (of_decide_eq_true h25) (fun b28 => ?_)
      refine EJ_iload_n 175 1 (dk_27 (bt bc_Mod_statement_5 14 rfl)) rfl rfl ?_
      refine EJ_ck (fun h29 => ?_)
      refine EJ_iald 176 h29 (dk_46 (bt bc_Mod_statement_5 15 rfl)) rfl ?_
      refine EJ_bipush 178 (dk_16 (bt bc_Mod_statement_5 16 rfl) (bt bc_Mod_statement_5 17 rfl) (n := 9) rfl) rfl (v := 9) kB_9 ?_
      refine EJ_icmp_ne 236 181 (dk_160 (bt bc_Mod_statement_5 18 rfl) (bt bc_Mod_statement_5 19 rfl) (bt bc_Mod_statement_5 20 rfl) (n := 58) rfl) (by decide) rfl (fun _ => ?_) (fun _ => ?_)
      · refine EJ_aload_n 237 0 (dk_42 (bt bc_Mod_statement_7 12 rfl)) rfl rfl ?_
        refine EJ_getR cf12 42 (by decide) 240 tw_1240 (fun _ _ _ => rfl) (dk_180 (bt bc_Mod_statement_7 13 rfl) (bt bc_Mod_statement_7 14 rfl) (bt bc_Mod_statement_7 15 rfl) (n := 106) rfl) rfl (of_decide_eq_true h25) (fun b30 => ?_)
        refine EJ_iload_n 241 1 (dk_27 (bt bc_Mod_statement_7 16 rfl)) rfl rfl ?_
        refine EJ_iconst 242 (dk_4 (bt bc_Mod_statement_7 17 rfl)) rfl (v := 1) kI_1 ?_
        refine EJ_ck (fun h31 => ?_)
        refine EJ_iast 243 h31 (dk_79 (bt bc_Mod_statement_7 18 rfl)) rfl ?_
        exact EJ_pick (lv2 := [(0, .ref _)]) [0] rfl (e_Mod_statement_J243 _ _)
      · refine EJ_aload_n 182 0 (dk_42 (bt bc_Mod_statement_5 21 rfl)) rfl rfl ?_
        refine EJ_getR cf12 42 (by decide) 185 tw_1240 (fun _ _ _ => rfl) (dk_180 (bt bc_Mod_statement_5 22 rfl) (bt bc_Mod_statement_5 23 rfl) (bt bc_Mod_statement_5 24 rfl) (n := 106) rfl) rfl (of_decide_eq_true h25) (fun b42 => ?_)
        refine EJ_iload_n 186 1 (dk_27 (bt bc_Mod_statement_5 25 rfl)) rfl rfl ?_
        refine EJ_aload_n 187 0 (dk_42 (bt bc_Mod_statement_5 26 rfl)) rfl rfl ?_
        refine EJ_ldc2 190 (dk_20 (bt bc_Mod_statement_5 27 rfl) (bt bc_Mod_statement_5 28 rfl) (bt bc_Mod_statement_5 29 rfl) (n := 479) rfl) rfl tw_1771 ?_
        refine EJ_callVi (Y2 := Y_Mod_isWord) 193 cf12 (s_Mod_isWord G _ _ _) (of_decide_eq_true h25) rfl (dk_182 (bt bc_Mod_statement_5 30 rfl) (bt bc_Mod_statement_5 31 rfl) (bt bc_Mod_statement_6 0 rfl) (n := 449) rfl) rfl tw_1702 tw_1704 ts_55 tw_1705 hd_Mod_isWord rfl (by decide) (Nat.le_of_ble_eq_true rfl) (fun r43 M44 => ?_)
        refine EJ_if_eq 200 196 (dk_153 (bt bc_Mod_statement_6 1 rfl) (bt bc_Mod_statement_6 2 rfl) (bt bc_Mod_statement_6 3 rfl) (n := 7) rfl) (by decide) rfl (fun _ => ?_) (fun _ => ?_)
        · refine EJ_iconst 201 (dk_3 (bt bc_Mod_statement_6 8 rfl)) rfl (v := 0) kI_0 ?_
          exact EJ_pick (lv2 := [(0, .ref _)]) [0] rfl (e_Mod_statement_J201 _ _ _ _ _)
        · refine EJ_iconst 197 (dk_4 (bt bc_Mod_statement_6 4 rfl)) rfl (v := 1) kI_1 ?_
          refine EJ_goto 201 (dk_167 (bt bc_Mod_statement_6 5 rfl) (bt bc_Mod_statement_6 6 rfl) (bt bc_Mod_statement_6 7 rfl) (n := 4) rfl) (by decide) ?_
          exact EJ_pick (lv2 := [(0, .ref _)]) [0] rfl (e_Mod_statement_J201 _ _ _ _ _)
    · refine EJ_aload_n 122 0 (dk_42 (bt bc_Mod_statement_3 25 rfl)) rfl rfl ?_
      refine EJ_getR cf12 42 (by decide) 125 tw_1240 (fun _ _ _ => rfl) (dk_180 (bt bc_Mod_statement_3 26 rfl) (bt bc_Mod_statement_3 27 rfl) (bt bc_Mod_statement_3 28 rfl) (n := 106) rfl) rfl (of_decide_eq_true h25) (fun b59 => ?_)
      refine EJ_iload_n 126 1 (dk_27 (bt bc_Mod_statement_3 29 rfl)) rfl rfl ?_
      refine EJ_aload_n 127 0 (dk_42 (bt bc_Mod_statement_3 30 rfl)) rfl rfl ?_
      refine EJ_aload_n 128 0 (dk_42 (bt bc_Mod_statement_3 31 rfl)) rfl rfl ?_
      refine EJ_getR cf12 41 (by decide) 131 tw_1239 (fun _ _ _ => rfl) (dk_180 (bt bc_Mod_statement_4 0 rfl) (bt bc_Mod_statement_4 1 rfl) (bt bc_Mod_statement_4 2 rfl) (n := 103) rfl) rfl (of_decide_eq_true h25) (fun b60 => ?_)
      refine EJ_iload_n 132 1 (dk_27 (bt bc_Mod_statement_4 3 rfl)) rfl rfl ?_
      refine EJ_ck (fun h61 => ?_)
      refine EJ_iald 133 h61 (dk_46 (bt bc_Mod_statement_4 4 rfl)) rfl ?_
      refine EJ_iconst 134 (dk_6 (bt bc_Mod_statement_4 5 rfl)) rfl (v := 3) kI_3 ?_
      refine EJ_icmp_eq 158 137 (dk_159 (bt bc_Mod_statement_4 6 rfl) (bt bc_Mod_statement_4 7 rfl) (bt bc_Mod_statement_4 8 rfl) (n := 24) rfl) (by decide) rfl (fun _ => ?_) (fun _ => ?_)
      · exact EJ_pick (lv2 := [(0, .ref _)]) [0] rfl (e_Mod_statement_J158 _ _ _ _ _)
      · refine EJ_aload_n 138 0 (dk_42 (bt bc_Mod_statement_4 9 rfl)) rfl rfl ?_
        refine EJ_getR cf12 41 (by decide) 141 tw_1239 (fun _ _ _ => rfl) (dk_180 (bt bc_Mod_statement_4 10 rfl) (bt bc_Mod_statement_4 11 rfl) (bt bc_Mod_statement_4 12 rfl) (n := 103) rfl) rfl (of_decide_eq_true h25) (fun b67 => ?_)
        refine EJ_iload_n 142 1 (dk_27 (bt bc_Mod_statement_4 13 rfl)) rfl rfl ?_
        refine EJ_ck (fun h68 => ?_)
        refine EJ_iald 143 h68 (dk_46 (bt bc_Mod_statement_4 14 rfl)) rfl ?_
        refine EJ_iconst 144 (dk_7 (bt bc_Mod_statement_4 15 rfl)) rfl (v := 4) kI_4 ?_
        refine EJ_icmp_eq 158 147 (dk_159 (bt bc_Mod_statement_4 16 rfl) (bt bc_Mod_statement_4 17 rfl) (bt bc_Mod_statement_4 18 rfl) (n := 14) rfl) (by decide) rfl (fun _ => ?_) (fun _ => ?_)
        · exact EJ_pick (lv2 := [(0, .ref _)]) [0] rfl (e_Mod_statement_J158 _ _ _ _ _)
        · refine EJ_aload_n 148 0 (dk_42 (bt bc_Mod_statement_4 19 rfl)) rfl rfl ?_
          refine EJ_getR cf12 41 (by decide) 151 tw_1239 (fun _ _ _ => rfl) (dk_180 (bt bc_Mod_statement_4 20 rfl) (bt bc_Mod_statement_4 21 rfl) (bt bc_Mod_statement_4 22 rfl) (n := 103) rfl) rfl (of_decide_eq_true h25) (fun b69 => ?_)
          refine EJ_iload_n 152 1 (dk_27 (bt bc_Mod_statement_4 23 rfl)) rfl rfl ?_
          refine EJ_ck (fun h70 => ?_)
          refine EJ_iald 153 h70 (dk_46 (bt bc_Mod_statement_4 24 rfl)) rfl ?_
          refine EJ_bipush 155 (dk_16 (bt bc_Mod_statement_4 25 rfl) (bt bc_Mod_statement_4 26 rfl) (n := 8) rfl) rfl (v := 8) kB_8 ?_
          refine EJ_icmp_ne 162 158 (dk_160 (bt bc_Mod_statement_4 27 rfl) (bt bc_Mod_statement_4 28 rfl) (bt bc_Mod_statement_4 29 rfl) (n := 7) rfl) (by decide) rfl (fun _ => ?_) (fun _ => ?_)
          · refine EJ_iconst 163 (dk_3 (bt bc_Mod_statement_5 2 rfl)) rfl (v := 0) kI_0 ?_
            exact EJ_pick (lv2 := [(0, .ref _)]) [0] rfl (e_Mod_statement_J163 _ _ _ _ _ _)
          · exact EJ_pick (lv2 := [(0, .ref _)]) [0] rfl (e_Mod_statement_J158 _ _ _ _ _)
  · refine EJ_aload_n 102 0 (dk_42 (bt bc_Mod_statement_3 5 rfl)) rfl rfl ?_
    refine EJ_callVv (Y2 := Y_Mod_fails0) 105 cf12 (s_Mod_fails0 G _ _) (of_decide_eq_true h20) rfl (dk_182 (bt bc_Mod_statement_3 6 rfl) (bt bc_Mod_statement_3 7 rfl) (bt bc_Mod_statement_3 8 rfl) (n := 379) rfl) rfl tw_1693 tw_1695 ts_53 tw_1696 hd_Mod_fails0 rfl (by decide) (Nat.le_of_ble_eq_true rfl) (fun _ M72 => ?_)
    exact EJ_vret rfl (dk_177 (bt bc_Mod_statement_3 9 rfl))
def Mod_statement_J48 (x0 : Nat) (x1 : Int32) (M : Mm) : Option (Unit × Mm) :=
  ck (kO M x0 12 107) (
  nn (mR M x0 45) (fun b14 =>
  ck (kA M b14 20 x1) (
  let M16 := sI M b14 (ix x1) (mI M x0 52)
  if (mI M16 x0 65) = 0 then (
    nn (mR M16 x0 41) (fun b17 =>
    if (mI M16 x0 59) = 1 then (
      bd (Mod_wordOf M16 x0 (mL M16 x0 64)) (fun r73 M74 =>
      Mod_statement_J91 x0 x1 r73 x1 b17 M74))
    else (
      Mod_statement_J91 x0 x1 (-1) x1 b17 M16)))
  else (
    some ((), M16)))))
set_option maxRecDepth 100000 in
set_option maxHeartbeats 4000000 in
theorem e_Mod_statement_J48 {G : Gx} (x0 : Nat) (x1 : Int32) (M : Mm) : EJ G Y_Mod_statement cvV 6 48 [(0, .ref x0), (1, .int x1)] [] M (Mod_statement_J48 x0 x1 M) := by
  unfold Mod_statement_J48
  refine EJ_aload_n 49 0 (dk_42 (bt bc_Mod_statement_1 16 rfl)) rfl rfl ?_
  refine EJ_ck (fun h13 => ?_)
  refine EJ_getR cf12 45 (by decide) 52 tw_1243 (fun _ _ _ => rfl) (dk_180 (bt bc_Mod_statement_1 17 rfl) (bt bc_Mod_statement_1 18 rfl) (bt bc_Mod_statement_1 19 rfl) (n := 115) rfl) rfl (of_decide_eq_true h13) (fun b14 => ?_)
  refine EJ_iload_n 53 1 (dk_27 (bt bc_Mod_statement_1 20 rfl)) rfl rfl ?_
  refine EJ_aload_n 54 0 (dk_42 (bt bc_Mod_statement_1 21 rfl)) rfl rfl ?_
  refine EJ_getI cf12 52 (by decide) 57 tw_1250 (fun _ _ _ => rfl) (dk_180 (bt bc_Mod_statement_1 22 rfl) (bt bc_Mod_statement_1 23 rfl) (bt bc_Mod_statement_1 24 rfl) (n := 418) rfl) rfl (of_decide_eq_true h13) ?_
  refine EJ_ck (fun h15 => ?_)
  refine EJ_iast 58 h15 (dk_79 (bt bc_Mod_statement_1 25 rfl)) rfl ?_
  refine EJ_aload_n 59 0 (dk_42 (bt bc_Mod_statement_1 26 rfl)) rfl rfl ?_
  refine EJ_getI cf12 65 (by decide) 62 tw_1263 (fun _ _ _ => rfl) (dk_180 (bt bc_Mod_statement_1 27 rfl) (bt bc_Mod_statement_1 28 rfl) (bt bc_Mod_statement_1 29 rfl) (n := 372) rfl) rfl (kp_I (of_decide_eq_true h13)) ?_
  refine EJ_if_eq 66 65 (dk_153 (bt bc_Mod_statement_1 30 rfl) (bt bc_Mod_statement_1 31 rfl) (bt bc_Mod_statement_2 0 rfl) (n := 4) rfl) (by decide) rfl (fun _ => ?_) (fun _ => ?_)
  · refine EJ_aload_n 67 0 (dk_42 (bt bc_Mod_statement_2 2 rfl)) rfl rfl ?_
    refine EJ_getR cf12 41 (by decide) 70 tw_1239 (fun _ _ _ => rfl) (dk_180 (bt bc_Mod_statement_2 3 rfl) (bt bc_Mod_statement_2 4 rfl) (bt bc_Mod_statement_2 5 rfl) (n := 103) rfl) rfl (kp_I (of_decide_eq_true h13)) (fun b17 => ?_)
    refine EJ_iload_n 71 1 (dk_27 (bt bc_Mod_statement_2 6 rfl)) rfl rfl ?_
    refine EJ_aload_n 72 0 (dk_42 (bt bc_Mod_statement_2 7 rfl)) rfl rfl ?_
    refine EJ_getI cf12 59 (by decide) 75 tw_1257 (fun _ _ _ => rfl) (dk_180 (bt bc_Mod_statement_2 8 rfl) (bt bc_Mod_statement_2 9 rfl) (bt bc_Mod_statement_2 10 rfl) (n := 366) rfl) rfl (kp_I (of_decide_eq_true h13)) ?_
    refine EJ_iconst 76 (dk_4 (bt bc_Mod_statement_2 11 rfl)) rfl (v := 1) kI_1 ?_
    refine EJ_icmp_ne 90 79 (dk_160 (bt bc_Mod_statement_2 12 rfl) (bt bc_Mod_statement_2 13 rfl) (bt bc_Mod_statement_2 14 rfl) (n := 14) rfl) (by decide) rfl (fun _ => ?_) (fun _ => ?_)
    · refine EJ_iconst 91 (dk_2 (bt bc_Mod_statement_2 26 rfl)) rfl (v := (-1)) kI_m1 ?_
      exact EJ_pick (lv2 := [(0, .ref _), (1, .int _)]) [0, 1] rfl (e_Mod_statement_J91 _ _ _ _ _ _)
    · refine EJ_aload_n 80 0 (dk_42 (bt bc_Mod_statement_2 15 rfl)) rfl rfl ?_
      refine EJ_aload_n 81 0 (dk_42 (bt bc_Mod_statement_2 16 rfl)) rfl rfl ?_
      refine EJ_getL cf12 64 (by decide) 84 tw_1262 (fun _ _ _ => rfl) (dk_180 (bt bc_Mod_statement_2 17 rfl) (bt bc_Mod_statement_2 18 rfl) (bt bc_Mod_statement_2 19 rfl) (n := 357) rfl) rfl (kp_I (of_decide_eq_true h13)) ?_
      refine EJ_callVi (Y2 := Y_Mod_wordOf) 87 cf12 (s_Mod_wordOf G _ _ _) (kp_I (of_decide_eq_true h13)) rfl (dk_182 (bt bc_Mod_statement_2 20 rfl) (bt bc_Mod_statement_2 21 rfl) (bt bc_Mod_statement_2 22 rfl) (n := 476) rfl) rfl tw_1756 tw_1758 ts_66 tw_1759 hd_Mod_wordOf rfl (by decide) (Nat.le_of_ble_eq_true rfl) (fun r73 M74 => ?_)
      refine EJ_goto 91 (dk_167 (bt bc_Mod_statement_2 23 rfl) (bt bc_Mod_statement_2 24 rfl) (bt bc_Mod_statement_2 25 rfl) (n := 4) rfl) (by decide) ?_
      exact EJ_pick (lv2 := [(0, .ref _), (1, .int _)]) [0, 1] rfl (e_Mod_statement_J91 _ _ _ _ _ _)
  · exact EJ_vret rfl (dk_177 (bt bc_Mod_statement_2 1 rfl))
def Mod_statement (M : Mm) (a0 : Nat) (a1 : Int32) : Option (Unit × Mm) :=
  ck (kO M a0 12 107) (
  nn (mR M a0 43) (fun b2 =>
  ck (kA M b2 20 a1) (
  let M4 := sI M b2 (ix a1) (-1)
  nn (mR M4 a0 42) (fun b5 =>
  ck (kA M4 b5 20 a1) (
  let M7 := sI M4 b5 (ix a1) 0
  nn (mR M7 a0 44) (fun b8 =>
  ck (kA M7 b8 20 a1) (
  let M10 := sI M7 b8 (ix a1) (mI M7 a0 52)
  bd (Mod_isWord M10 a0 249) (fun r11 M12 =>
  if r11 = 0 then (
    Mod_statement_J48 a0 a1 M12)
  else (
    ck (kO M12 a0 12 107) (
    bd (Mod_next M12 a0) (fun _ M77 =>
    ck (kO M77 a0 12 107) (
    nn (mR M77 a0 43) (fun b79 =>
    bd (Mod_condition M77 a0) (fun r80 M81 =>
    ck (kA M81 b79 20 a1) (
    let M83 := sI M81 b79 (ix a1) r80
    Mod_statement_J48 a0 a1 M83)))))))))))))))
set_option maxRecDepth 100000 in
set_option maxHeartbeats 4000000 in
theorem s_Mod_statement (G : Gx) (M : Mm) (a0 : Nat) (a1 : Int32) : FnS G Y_Mod_statement cvV 6 [.ref a0, .int a1] M (Mod_statement M a0 a1) := by
  refine FnS.ofE (by decide) (Nat.le_of_ble_eq_true rfl) ?_
  show EJ G Y_Mod_statement cvV 6 0 [(0, .ref a0), (1, .int a1)] [] M _
  unfold Mod_statement
  refine EJ_aload_n 1 0 (dk_42 (bt bc_Mod_statement_0 0 rfl)) rfl rfl ?_
  refine EJ_ck (fun h1 => ?_)
  refine EJ_getR cf12 43 (by decide) 4 tw_1241 (fun _ _ _ => rfl) (dk_180 (bt bc_Mod_statement_0 1 rfl) (bt bc_Mod_statement_0 2 rfl) (bt bc_Mod_statement_0 3 rfl) (n := 109) rfl) rfl (of_decide_eq_true h1) (fun b2 => ?_)
  refine EJ_iload_n 5 1 (dk_27 (bt bc_Mod_statement_0 4 rfl)) rfl rfl ?_
  refine EJ_iconst 6 (dk_2 (bt bc_Mod_statement_0 5 rfl)) rfl (v := (-1)) kI_m1 ?_
  refine EJ_ck (fun h3 => ?_)
  refine EJ_iast 7 h3 (dk_79 (bt bc_Mod_statement_0 6 rfl)) rfl ?_
  refine EJ_aload_n 8 0 (dk_42 (bt bc_Mod_statement_0 7 rfl)) rfl rfl ?_
  refine EJ_getR cf12 42 (by decide) 11 tw_1240 (fun _ _ _ => rfl) (dk_180 (bt bc_Mod_statement_0 8 rfl) (bt bc_Mod_statement_0 9 rfl) (bt bc_Mod_statement_0 10 rfl) (n := 106) rfl) rfl (kp_I (of_decide_eq_true h1)) (fun b5 => ?_)
  refine EJ_iload_n 12 1 (dk_27 (bt bc_Mod_statement_0 11 rfl)) rfl rfl ?_
  refine EJ_iconst 13 (dk_3 (bt bc_Mod_statement_0 12 rfl)) rfl (v := 0) kI_0 ?_
  refine EJ_ck (fun h6 => ?_)
  refine EJ_iast 14 h6 (dk_79 (bt bc_Mod_statement_0 13 rfl)) rfl ?_
  refine EJ_aload_n 15 0 (dk_42 (bt bc_Mod_statement_0 14 rfl)) rfl rfl ?_
  refine EJ_getR cf12 44 (by decide) 18 tw_1242 (fun _ _ _ => rfl) (dk_180 (bt bc_Mod_statement_0 15 rfl) (bt bc_Mod_statement_0 16 rfl) (bt bc_Mod_statement_0 17 rfl) (n := 112) rfl) rfl (kp_I (kp_I (of_decide_eq_true h1))) (fun b8 => ?_)
  refine EJ_iload_n 19 1 (dk_27 (bt bc_Mod_statement_0 18 rfl)) rfl rfl ?_
  refine EJ_aload_n 20 0 (dk_42 (bt bc_Mod_statement_0 19 rfl)) rfl rfl ?_
  refine EJ_getI cf12 52 (by decide) 23 tw_1250 (fun _ _ _ => rfl) (dk_180 (bt bc_Mod_statement_0 20 rfl) (bt bc_Mod_statement_0 21 rfl) (bt bc_Mod_statement_0 22 rfl) (n := 418) rfl) rfl (kp_I (kp_I (of_decide_eq_true h1))) ?_
  refine EJ_ck (fun h9 => ?_)
  refine EJ_iast 24 h9 (dk_79 (bt bc_Mod_statement_0 23 rfl)) rfl ?_
  refine EJ_aload_n 25 0 (dk_42 (bt bc_Mod_statement_0 24 rfl)) rfl rfl ?_
  refine EJ_ldc2 28 (dk_20 (bt bc_Mod_statement_0 25 rfl) (bt bc_Mod_statement_0 26 rfl) (bt bc_Mod_statement_0 27 rfl) (n := 471) rfl) rfl tw_1701 ?_
  refine EJ_callVi (Y2 := Y_Mod_isWord) 31 cf12 (s_Mod_isWord G _ _ _) (kp_I (kp_I (kp_I (of_decide_eq_true h1)))) rfl (dk_182 (bt bc_Mod_statement_0 28 rfl) (bt bc_Mod_statement_0 29 rfl) (bt bc_Mod_statement_0 30 rfl) (n := 449) rfl) rfl tw_1702 tw_1704 ts_55 tw_1705 hd_Mod_isWord rfl (by decide) (Nat.le_of_ble_eq_true rfl) (fun r11 M12 => ?_)
  refine EJ_if_eq 48 34 (dk_153 (bt bc_Mod_statement_0 31 rfl) (bt bc_Mod_statement_1 0 rfl) (bt bc_Mod_statement_1 1 rfl) (n := 17) rfl) (by decide) rfl (fun _ => ?_) (fun _ => ?_)
  · exact EJ_pick (lv2 := [(0, .ref _), (1, .int _)]) [0, 1] rfl (e_Mod_statement_J48 _ _ _)
  · refine EJ_aload_n 35 0 (dk_42 (bt bc_Mod_statement_1 2 rfl)) rfl rfl ?_
    refine EJ_ck (fun h75 => ?_)
    refine EJ_callVv (Y2 := Y_Mod_next) 38 cf12 (s_Mod_next G _ _) (of_decide_eq_true h75) rfl (dk_182 (bt bc_Mod_statement_1 3 rfl) (bt bc_Mod_statement_1 4 rfl) (bt bc_Mod_statement_1 5 rfl) (n := 376) rfl) rfl tw_1682 tw_1684 ts_51 tw_1685 hd_Mod_next rfl (by decide) (Nat.le_of_ble_eq_true rfl) (fun _ M77 => ?_)
    refine EJ_aload_n 39 0 (dk_42 (bt bc_Mod_statement_1 6 rfl)) rfl rfl ?_
    refine EJ_ck (fun h78 => ?_)
    refine EJ_getR cf12 43 (by decide) 42 tw_1241 (fun _ _ _ => rfl) (dk_180 (bt bc_Mod_statement_1 7 rfl) (bt bc_Mod_statement_1 8 rfl) (bt bc_Mod_statement_1 9 rfl) (n := 109) rfl) rfl (of_decide_eq_true h78) (fun b79 => ?_)
    refine EJ_iload_n 43 1 (dk_27 (bt bc_Mod_statement_1 10 rfl)) rfl rfl ?_
    refine EJ_aload_n 44 0 (dk_42 (bt bc_Mod_statement_1 11 rfl)) rfl rfl ?_
    refine EJ_callVi (Y2 := Y_Mod_condition) 47 cf12 (s_Mod_condition G _ _) (of_decide_eq_true h78) rfl (dk_182 (bt bc_Mod_statement_1 12 rfl) (bt bc_Mod_statement_1 13 rfl) (bt bc_Mod_statement_1 14 rfl) (n := 473) rfl) rfl tw_1706 tw_1708 ts_56 tw_1709 hd_Mod_condition rfl (by decide) (Nat.le_of_ble_eq_true rfl) (fun r80 M81 => ?_)
    refine EJ_ck (fun h82 => ?_)
    refine EJ_iast 48 h82 (dk_79 (bt bc_Mod_statement_1 15 rfl)) rfl ?_
    exact EJ_pick (lv2 := [(0, .ref _), (1, .int _)]) [0, 1] rfl (e_Mod_statement_J48 _ _ _)
