abbrev Y_Scribe_readStatement : Ym := (⟨"RiceHall$Scribe", "readStatement", "()Z"⟩, prog_10_method_15_code, 3, (some FieldType.boolean))
theorem bc_Scribe_readStatement_0 : bts prog_10_method_15_code 0 [42, 180, 0, 33, 16, 24, 161, 0, 5, 3, 172, 42, 16, 20, 182, 0, 93, 153, 0, 13, 42, 3, 182, 0, 97, 154, 0, 5, 3, 172, 42, 3] := bts_of (by decide +kernel)
theorem bc_Scribe_readStatement_1 : bts prog_10_method_15_code 32 [16, 10, 182, 0, 100, 60, 27, 2, 160, 0, 5, 3, 172, 42, 27, 182, 0, 103, 61, 28, 2, 159, 0, 12, 42, 16, 27, 182, 0, 93, 154, 0] := bts_of (by decide +kernel)
theorem bc_Scribe_readStatement_2 : bts prog_10_method_15_code 64 [5, 3, 172, 42, 180, 0, 9, 42, 180, 0, 33, 27, 79, 42, 180, 0, 15, 42, 180, 0, 33, 28, 79, 42, 180, 0, 18, 42, 180, 0, 33, 42] := bts_of (by decide +kernel)
theorem bc_Scribe_readStatement_3 : bts prog_10_method_15_code 96 [180, 0, 37, 79, 42, 89, 180, 0, 33, 4, 96, 181, 0, 33, 4, 172] := bts_of (by decide +kernel)
theorem hd_Scribe_readStatement : Y_Scribe_readStatement.1.cls = RX8 ∧ Y_Scribe_readStatement.1.cls ≠ "java/lang/invoke/MethodHandle" ∧ Y_Scribe_readStatement.1.cls ≠ "java/lang/invoke/VarHandle" ∧ (parseMethodDescriptor Y_Scribe_readStatement.1.desc).map (fun d => d.parameters.length) = some 0 := by decide +kernel
def Scribe_readStatement_J30 (x0 : Nat) (M : Mm) : Option (Int32 × Mm) :=
  ck (kO M x0 8 11) (
  bd (Scribe_takeOf M x0 0 10) (fun r5 M6 =>
  if r5 = (-1) then (
    some (0, M6))
  else (
    ck (kO M6 x0 8 11) (
    bd (Scribe_readValue M6 x0 r5) (fun r8 M9 =>
    if r8 = (-1) then (
      some (0, M9))
    else (
      ck (kO M9 x0 8 11) (
      bd (Scribe_take M9 x0 27) (fun r11 M12 =>
      if r11 = 0 then (
        some (0, M12))
      else (
        ck (kO M12 x0 8 11) (
        nn (mR M12 x0 0) (fun b14 =>
        ck (kA M12 b14 20 (mI M12 x0 4)) (
        let M16 := sI M12 b14 (ix (mI M12 x0 4)) r5
        nn (mR M16 x0 1) (fun b17 =>
        ck (kA M16 b17 20 (mI M16 x0 4)) (
        let M19 := sI M16 b17 (ix (mI M16 x0 4)) r8
        nn (mR M19 x0 2) (fun b20 =>
        ck (kA M19 b20 20 (mI M19 x0 4)) (
        let M22 := sI M19 b20 (ix (mI M19 x0 4)) (mI M19 x0 5)
        let M23 := sI M22 x0 4 ((mI M22 x0 4) + 1)
        some (1, M23)))))))))))))))))
set_option maxRecDepth 100000 in
set_option maxHeartbeats 4000000 in
theorem e_Scribe_readStatement_J30 {G : Gx} (x0 : Nat) (M : Mm) : EJ G Y_Scribe_readStatement cvI 47 30 [(0, .ref x0)] [] M (Scribe_readStatement_J30 x0 M) := by
  unfold Scribe_readStatement_J30
  refine EJ_aload_n 31 0 (dk_42 (bt bc_Scribe_readStatement_0 30 rfl)) rfl rfl ?_
  refine EJ_iconst 32 (dk_3 (bt bc_Scribe_readStatement_0 31 rfl)) rfl (v := 0) kI_0 ?_
  refine EJ_bipush 34 (dk_16 (bt bc_Scribe_readStatement_1 0 rfl) (bt bc_Scribe_readStatement_1 1 rfl) (n := 10) rfl) rfl (v := 10) kB_10 ?_
  refine EJ_ck (fun h4 => ?_)
  refine EJ_callVi (Y2 := Y_Scribe_takeOf) 37 cf8 (s_Scribe_takeOf G _ _ _ _) (of_decide_eq_true h4) rfl (dk_182 (bt bc_Scribe_readStatement_1 2 rfl) (bt bc_Scribe_readStatement_1 3 rfl) (bt bc_Scribe_readStatement_1 4 rfl) (n := 100) rfl) rfl tw_736 tw_738 ts_21 tw_739 hd_Scribe_takeOf rfl (by decide) (Nat.le_of_ble_eq_true rfl) (fun r5 M6 => ?_)
  refine EJ_istore_n 38 (lv2 := [(1, .int _), (0, .ref _)]) (dk_60 (bt bc_Scribe_readStatement_1 5 rfl)) rfl (by decide) rfl ?_
  refine EJ_iload_n 39 0 (dk_27 (bt bc_Scribe_readStatement_1 6 rfl)) rfl rfl ?_
  refine EJ_iconst 40 (dk_2 (bt bc_Scribe_readStatement_1 7 rfl)) rfl (v := (-1)) kI_m1 ?_
  refine EJ_icmp_ne 45 43 (dk_160 (bt bc_Scribe_readStatement_1 8 rfl) (bt bc_Scribe_readStatement_1 9 rfl) (bt bc_Scribe_readStatement_1 10 rfl) (n := 5) rfl) (by decide) rfl (fun _ => ?_) (fun _ => ?_)
  · refine EJ_aload_n 46 1 (dk_42 (bt bc_Scribe_readStatement_1 13 rfl)) rfl rfl ?_
    refine EJ_iload_n 47 0 (dk_27 (bt bc_Scribe_readStatement_1 14 rfl)) rfl rfl ?_
    refine EJ_ck (fun h7 => ?_)
    refine EJ_callVi (Y2 := Y_Scribe_readValue) 50 cf8 (s_Scribe_readValue G _ _ _) (of_decide_eq_true h7) rfl (dk_182 (bt bc_Scribe_readStatement_1 15 rfl) (bt bc_Scribe_readStatement_1 16 rfl) (bt bc_Scribe_readStatement_1 17 rfl) (n := 103) rfl) rfl tw_745 tw_747 ts_23 tw_748 hd_Scribe_readValue rfl (by decide) (Nat.le_of_ble_eq_true rfl) (fun r8 M9 => ?_)
    refine EJ_istore_n 51 (lv2 := [(2, .int _), (1, .int _), (0, .ref _)]) (dk_61 (bt bc_Scribe_readStatement_1 18 rfl)) rfl (by decide) rfl ?_
    refine EJ_iload_n 52 0 (dk_28 (bt bc_Scribe_readStatement_1 19 rfl)) rfl rfl ?_
    refine EJ_iconst 53 (dk_2 (bt bc_Scribe_readStatement_1 20 rfl)) rfl (v := (-1)) kI_m1 ?_
    refine EJ_icmp_eq 65 56 (dk_159 (bt bc_Scribe_readStatement_1 21 rfl) (bt bc_Scribe_readStatement_1 22 rfl) (bt bc_Scribe_readStatement_1 23 rfl) (n := 12) rfl) (by decide) rfl (fun _ => ?_) (fun _ => ?_)
    · refine EJ_iconst 66 (dk_3 (bt bc_Scribe_readStatement_2 1 rfl)) rfl (v := 0) kI_0 ?_
      exact EJ_zret rfl (by decide) (dk_172 (bt bc_Scribe_readStatement_2 2 rfl))
    · refine EJ_aload_n 57 2 (dk_42 (bt bc_Scribe_readStatement_1 24 rfl)) rfl rfl ?_
      refine EJ_bipush 59 (dk_16 (bt bc_Scribe_readStatement_1 25 rfl) (bt bc_Scribe_readStatement_1 26 rfl) (n := 27) rfl) rfl (v := 27) kB_27 ?_
      refine EJ_ck (fun h10 => ?_)
      refine EJ_callVi (Y2 := Y_Scribe_take) 62 cf8 (s_Scribe_take G _ _ _) (of_decide_eq_true h10) rfl (dk_182 (bt bc_Scribe_readStatement_1 27 rfl) (bt bc_Scribe_readStatement_1 28 rfl) (bt bc_Scribe_readStatement_1 29 rfl) (n := 93) rfl) rfl tw_712 tw_714 ts_15 tw_715 hd_Scribe_take rfl (by decide) (Nat.le_of_ble_eq_true rfl) (fun r11 M12 => ?_)
      refine EJ_if_ne 67 65 (dk_154 (bt bc_Scribe_readStatement_1 30 rfl) (bt bc_Scribe_readStatement_1 31 rfl) (bt bc_Scribe_readStatement_2 0 rfl) (n := 5) rfl) (by decide) rfl (fun _ => ?_) (fun _ => ?_)
      · refine EJ_aload_n 68 2 (dk_42 (bt bc_Scribe_readStatement_2 3 rfl)) rfl rfl ?_
        refine EJ_ck (fun h13 => ?_)
        refine EJ_getR cf8 0 (by decide) 71 tw_79 (fun _ _ _ => rfl) (dk_180 (bt bc_Scribe_readStatement_2 4 rfl) (bt bc_Scribe_readStatement_2 5 rfl) (bt bc_Scribe_readStatement_2 6 rfl) (n := 9) rfl) rfl (of_decide_eq_true h13) (fun b14 => ?_)
        refine EJ_aload_n 72 2 (dk_42 (bt bc_Scribe_readStatement_2 7 rfl)) rfl rfl ?_
        refine EJ_getI cf8 4 (by decide) 75 tw_88 (fun _ _ _ => rfl) (dk_180 (bt bc_Scribe_readStatement_2 8 rfl) (bt bc_Scribe_readStatement_2 9 rfl) (bt bc_Scribe_readStatement_2 10 rfl) (n := 33) rfl) rfl (of_decide_eq_true h13) ?_
        refine EJ_iload_n 76 1 (dk_27 (bt bc_Scribe_readStatement_2 11 rfl)) rfl rfl ?_
        refine EJ_ck (fun h15 => ?_)
        refine EJ_iast 77 h15 (dk_79 (bt bc_Scribe_readStatement_2 12 rfl)) rfl ?_
        refine EJ_aload_n 78 2 (dk_42 (bt bc_Scribe_readStatement_2 13 rfl)) rfl rfl ?_
        refine EJ_getR cf8 1 (by decide) 81 tw_81 (fun _ _ _ => rfl) (dk_180 (bt bc_Scribe_readStatement_2 14 rfl) (bt bc_Scribe_readStatement_2 15 rfl) (bt bc_Scribe_readStatement_2 16 rfl) (n := 15) rfl) rfl (kp_I (of_decide_eq_true h13)) (fun b17 => ?_)
        refine EJ_aload_n 82 2 (dk_42 (bt bc_Scribe_readStatement_2 17 rfl)) rfl rfl ?_
        refine EJ_getI cf8 4 (by decide) 85 tw_88 (fun _ _ _ => rfl) (dk_180 (bt bc_Scribe_readStatement_2 18 rfl) (bt bc_Scribe_readStatement_2 19 rfl) (bt bc_Scribe_readStatement_2 20 rfl) (n := 33) rfl) rfl (kp_I (of_decide_eq_true h13)) ?_
        refine EJ_iload_n 86 0 (dk_28 (bt bc_Scribe_readStatement_2 21 rfl)) rfl rfl ?_
        refine EJ_ck (fun h18 => ?_)
        refine EJ_iast 87 h18 (dk_79 (bt bc_Scribe_readStatement_2 22 rfl)) rfl ?_
        refine EJ_aload_n 88 2 (dk_42 (bt bc_Scribe_readStatement_2 23 rfl)) rfl rfl ?_
        refine EJ_getR cf8 2 (by decide) 91 tw_83 (fun _ _ _ => rfl) (dk_180 (bt bc_Scribe_readStatement_2 24 rfl) (bt bc_Scribe_readStatement_2 25 rfl) (bt bc_Scribe_readStatement_2 26 rfl) (n := 18) rfl) rfl (kp_I (kp_I (of_decide_eq_true h13))) (fun b20 => ?_)
        refine EJ_aload_n 92 2 (dk_42 (bt bc_Scribe_readStatement_2 27 rfl)) rfl rfl ?_
        refine EJ_getI cf8 4 (by decide) 95 tw_88 (fun _ _ _ => rfl) (dk_180 (bt bc_Scribe_readStatement_2 28 rfl) (bt bc_Scribe_readStatement_2 29 rfl) (bt bc_Scribe_readStatement_2 30 rfl) (n := 33) rfl) rfl (kp_I (kp_I (of_decide_eq_true h13))) ?_
        refine EJ_aload_n 96 2 (dk_42 (bt bc_Scribe_readStatement_2 31 rfl)) rfl rfl ?_
        refine EJ_getI cf8 5 (by decide) 99 tw_90 (fun _ _ _ => rfl) (dk_180 (bt bc_Scribe_readStatement_3 0 rfl) (bt bc_Scribe_readStatement_3 1 rfl) (bt bc_Scribe_readStatement_3 2 rfl) (n := 37) rfl) rfl (kp_I (kp_I (of_decide_eq_true h13))) ?_
        refine EJ_ck (fun h21 => ?_)
        refine EJ_iast 100 h21 (dk_79 (bt bc_Scribe_readStatement_3 3 rfl)) rfl ?_
        refine EJ_aload_n 101 2 (dk_42 (bt bc_Scribe_readStatement_3 4 rfl)) rfl rfl ?_
        refine EJ_dup 102 (dk_89 (bt bc_Scribe_readStatement_3 5 rfl)) rfl rfl ?_
        refine EJ_getI cf8 4 (by decide) 105 tw_88 (fun _ _ _ => rfl) (dk_180 (bt bc_Scribe_readStatement_3 6 rfl) (bt bc_Scribe_readStatement_3 7 rfl) (bt bc_Scribe_readStatement_3 8 rfl) (n := 33) rfl) rfl (kp_I (kp_I (kp_I (of_decide_eq_true h13)))) ?_
        refine EJ_iconst 106 (dk_4 (bt bc_Scribe_readStatement_3 9 rfl)) rfl (v := 1) kI_1 ?_
        refine EJ_iadd 107 (dk_96 (bt bc_Scribe_readStatement_3 10 rfl)) rfl ?_
        refine EJ_putI cf8 4 (by decide) 110 tw_88 rfl (Or.inl rfl) (dk_181 (bt bc_Scribe_readStatement_3 11 rfl) (bt bc_Scribe_readStatement_3 12 rfl) (bt bc_Scribe_readStatement_3 13 rfl) (n := 33) rfl) rfl (kp_I (kp_I (kp_I (of_decide_eq_true h13)))) ?_
        refine EJ_iconst 111 (dk_4 (bt bc_Scribe_readStatement_3 14 rfl)) rfl (v := 1) kI_1 ?_
        exact EJ_zret rfl (by decide) (dk_172 (bt bc_Scribe_readStatement_3 15 rfl))
      · refine EJ_iconst 66 (dk_3 (bt bc_Scribe_readStatement_2 1 rfl)) rfl (v := 0) kI_0 ?_
        exact EJ_zret rfl (by decide) (dk_172 (bt bc_Scribe_readStatement_2 2 rfl))
  · refine EJ_iconst 44 (dk_3 (bt bc_Scribe_readStatement_1 11 rfl)) rfl (v := 0) kI_0 ?_
    exact EJ_zret rfl (by decide) (dk_172 (bt bc_Scribe_readStatement_1 12 rfl))
def Scribe_readStatement (M : Mm) (a0 : Nat) : Option (Int32 × Mm) :=
  ck (kO M a0 8 11) (
  if (mI M a0 4) < 24 then (
    bd (Scribe_take M a0 20) (fun r2 M3 =>
    if r2 = 0 then (
      Scribe_readStatement_J30 a0 M3)
    else (
      ck (kO M3 a0 8 11) (
      bd (Scribe_tC M3 a0 0) (fun r25 M26 =>
      if r25 = 0 then (
        some (0, M26))
      else (
        Scribe_readStatement_J30 a0 M26))))))
  else (
    some (0, M)))
set_option maxRecDepth 100000 in
set_option maxHeartbeats 4000000 in
theorem s_Scribe_readStatement (G : Gx) (M : Mm) (a0 : Nat) : FnS G Y_Scribe_readStatement cvI 47 [.ref a0] M (Scribe_readStatement M a0) := by
  refine FnS.ofE (by decide) (Nat.le_of_ble_eq_true rfl) ?_
  show EJ G Y_Scribe_readStatement cvI 47 0 [(0, .ref a0)] [] M _
  unfold Scribe_readStatement
  refine EJ_aload_n 1 0 (dk_42 (bt bc_Scribe_readStatement_0 0 rfl)) rfl rfl ?_
  refine EJ_ck (fun h1 => ?_)
  refine EJ_getI cf8 4 (by decide) 4 tw_88 (fun _ _ _ => rfl) (dk_180 (bt bc_Scribe_readStatement_0 1 rfl) (bt bc_Scribe_readStatement_0 2 rfl) (bt bc_Scribe_readStatement_0 3 rfl) (n := 33) rfl) rfl (of_decide_eq_true h1) ?_
  refine EJ_bipush 6 (dk_16 (bt bc_Scribe_readStatement_0 4 rfl) (bt bc_Scribe_readStatement_0 5 rfl) (n := 24) rfl) rfl (v := 24) kB_24 ?_
  refine EJ_icmp_lt 11 9 (dk_161 (bt bc_Scribe_readStatement_0 6 rfl) (bt bc_Scribe_readStatement_0 7 rfl) (bt bc_Scribe_readStatement_0 8 rfl) (n := 5) rfl) (by decide) rfl (fun _ => ?_) (fun _ => ?_)
  · refine EJ_aload_n 12 0 (dk_42 (bt bc_Scribe_readStatement_0 11 rfl)) rfl rfl ?_
    refine EJ_bipush 14 (dk_16 (bt bc_Scribe_readStatement_0 12 rfl) (bt bc_Scribe_readStatement_0 13 rfl) (n := 20) rfl) rfl (v := 20) kB_20 ?_
    refine EJ_callVi (Y2 := Y_Scribe_take) 17 cf8 (s_Scribe_take G _ _ _) (of_decide_eq_true h1) rfl (dk_182 (bt bc_Scribe_readStatement_0 14 rfl) (bt bc_Scribe_readStatement_0 15 rfl) (bt bc_Scribe_readStatement_0 16 rfl) (n := 93) rfl) rfl tw_712 tw_714 ts_15 tw_715 hd_Scribe_take rfl (by decide) (Nat.le_of_ble_eq_true rfl) (fun r2 M3 => ?_)
    refine EJ_if_eq 30 20 (dk_153 (bt bc_Scribe_readStatement_0 17 rfl) (bt bc_Scribe_readStatement_0 18 rfl) (bt bc_Scribe_readStatement_0 19 rfl) (n := 13) rfl) (by decide) rfl (fun _ => ?_) (fun _ => ?_)
    · exact EJ_pick (lv2 := [(0, .ref _)]) [0] rfl (e_Scribe_readStatement_J30 _ _)
    · refine EJ_aload_n 21 0 (dk_42 (bt bc_Scribe_readStatement_0 20 rfl)) rfl rfl ?_
      refine EJ_iconst 22 (dk_3 (bt bc_Scribe_readStatement_0 21 rfl)) rfl (v := 0) kI_0 ?_
      refine EJ_ck (fun h24 => ?_)
      refine EJ_callVi (Y2 := Y_Scribe_readCondition) 25 cf8 (s_Scribe_tC G _ _ _) (of_decide_eq_true h24) rfl (dk_182 (bt bc_Scribe_readStatement_0 22 rfl) (bt bc_Scribe_readStatement_0 23 rfl) (bt bc_Scribe_readStatement_0 24 rfl) (n := 97) rfl) rfl tw_716 tw_718 ts_16 tw_719 hd_Scribe_readCondition rfl (by decide) (Nat.le_of_ble_eq_true rfl) (fun r25 M26 => ?_)
      refine EJ_if_ne 30 28 (dk_154 (bt bc_Scribe_readStatement_0 25 rfl) (bt bc_Scribe_readStatement_0 26 rfl) (bt bc_Scribe_readStatement_0 27 rfl) (n := 5) rfl) (by decide) rfl (fun _ => ?_) (fun _ => ?_)
      · exact EJ_pick (lv2 := [(0, .ref _)]) [0] rfl (e_Scribe_readStatement_J30 _ _)
      · refine EJ_iconst 29 (dk_3 (bt bc_Scribe_readStatement_0 28 rfl)) rfl (v := 0) kI_0 ?_
        exact EJ_zret rfl (by decide) (dk_172 (bt bc_Scribe_readStatement_0 29 rfl))
  · refine EJ_iconst 10 (dk_3 (bt bc_Scribe_readStatement_0 9 rfl)) rfl (v := 0) kI_0 ?_
    exact EJ_zret rfl (by decide) (dk_172 (bt bc_Scribe_readStatement_0 10 rfl))
abbrev Y_Scribe_placeReached : Ym := (⟨"RiceHall$Scribe", "placeReached", "()I"⟩, prog_10_method_4_code, 1, (some FieldType.int))
theorem bc_Scribe_placeReached_0 : bts prog_10_method_4_code 0 [42, 180, 0, 27, 42, 180, 0, 43, 42, 180, 0, 40, 184, 0, 46, 46, 172] := bts_of (by decide +kernel)
theorem hd_Scribe_placeReached : Y_Scribe_placeReached.1.cls = RX8 ∧ Y_Scribe_placeReached.1.cls ≠ "java/lang/invoke/MethodHandle" ∧ Y_Scribe_placeReached.1.cls ≠ "java/lang/invoke/VarHandle" ∧ (parseMethodDescriptor Y_Scribe_placeReached.1.desc).map (fun d => d.parameters.length) = some 0 := by decide +kernel
def Scribe_placeReached (M : Mm) (a0 : Nat) : Option (Int32 × Mm) :=
  ck (kO M a0 8 11) (
  nn (mR M a0 7) (fun b2 =>
  bd (Math_min_I M (mI M a0 10) (mI M a0 9)) (fun r3 M4 =>
  ck (kA M4 b2 20 r3) (
  some (mI M4 b2 (ix r3), M4)))))
set_option maxRecDepth 100000 in
set_option maxHeartbeats 4000000 in
theorem s_Scribe_placeReached (G : Gx) (M : Mm) (a0 : Nat) : FnS G Y_Scribe_placeReached cvI 2 [.ref a0] M (Scribe_placeReached M a0) := by
  refine FnS.ofE (by decide) (Nat.le_of_ble_eq_true rfl) ?_
  show EJ G Y_Scribe_placeReached cvI 2 0 [(0, .ref a0)] [] M _
  unfold Scribe_placeReached
  refine EJ_aload_n 1 0 (dk_42 (bt bc_Scribe_placeReached_0 0 rfl)) rfl rfl ?_
  refine EJ_ck (fun h1 => ?_)
  refine EJ_getR cf8 7 (by decide) 4 tw_92 (fun _ _ _ => rfl) (dk_180 (bt bc_Scribe_placeReached_0 1 rfl) (bt bc_Scribe_placeReached_0 2 rfl) (bt bc_Scribe_placeReached_0 3 rfl) (n := 27) rfl) rfl (of_decide_eq_true h1) (fun b2 => ?_)
  refine EJ_aload_n 5 0 (dk_42 (bt bc_Scribe_placeReached_0 4 rfl)) rfl rfl ?_
  refine EJ_getI cf8 10 (by decide) 8 tw_95 (fun _ _ _ => rfl) (dk_180 (bt bc_Scribe_placeReached_0 5 rfl) (bt bc_Scribe_placeReached_0 6 rfl) (bt bc_Scribe_placeReached_0 7 rfl) (n := 43) rfl) rfl (of_decide_eq_true h1) ?_
  refine EJ_aload_n 9 0 (dk_42 (bt bc_Scribe_placeReached_0 8 rfl)) rfl rfl ?_
  refine EJ_getI cf8 9 (by decide) 12 tw_94 (fun _ _ _ => rfl) (dk_180 (bt bc_Scribe_placeReached_0 9 rfl) (bt bc_Scribe_placeReached_0 10 rfl) (bt bc_Scribe_placeReached_0 11 rfl) (n := 40) rfl) rfl (of_decide_eq_true h1) ?_
  refine EJ_callSi (Y2 := Y_Math_min_I) 15 (s_Math_min_I G _ _ _) rfl (dk_184 (bt bc_Scribe_placeReached_0 12 rfl) (bt bc_Scribe_placeReached_0 13 rfl) (bt bc_Scribe_placeReached_0 14 rfl) (n := 46) rfl) rfl tw_631 tw_322 tw_9 tw_323 hd_Math_min_I rfl (by decide) (Nat.le_of_ble_eq_true rfl) (fun r3 M4 => ?_)
  refine EJ_ck (fun h5 => ?_)
  refine EJ_iald 16 h5 (dk_46 (bt bc_Scribe_placeReached_0 15 rfl)) rfl ?_
  exact EJ_iret rfl (dk_172 (bt bc_Scribe_placeReached_0 16 rfl))
abbrev Y_Store_new : Ym := (⟨"RiceHall$Store", "<init>", "()V"⟩, prog_12_method_1_code, 1, none)
theorem bc_Store_new_0 : bts prog_12_method_1_code 0 [42, 183, 0, 3, 42, 16, 60, 188, 10, 181, 0, 9, 42, 16, 60, 188, 10, 181, 0, 15, 42, 16, 60, 188, 10, 181, 0, 18, 42, 16, 60, 188] := bts_of (by decide +kernel)
theorem bc_Store_new_1 : bts prog_12_method_1_code 32 [10, 181, 0, 21, 42, 16, 60, 188, 10, 181, 0, 24, 177] := bts_of (by decide +kernel)
theorem hd_Store_new : Y_Store_new.1.cls ≠ "java/lang/invoke/MethodHandle" ∧ Y_Store_new.1.cls ≠ "java/lang/invoke/VarHandle" ∧ (parseMethodDescriptor Y_Store_new.1.desc).map (fun d => d.parameters.length) = some 0 := by decide +kernel
def Store_new (M : Mm) (a0 : Nat) : Option (Unit × Mm) :=
  let M1 := nw M 20 60
  ck (kO M1 a0 10 14) (
  let M3 := sR M1 a0 0 (some (mZ M))
  let M4 := nw M3 20 60
  ck (kO M4 a0 10 14) (
  let M6 := sR M4 a0 1 (some (mZ M3))
  let M7 := nw M6 20 60
  ck (kO M7 a0 10 14) (
  let M9 := sR M7 a0 3 (some (mZ M6))
  let M10 := nw M9 20 60
  ck (kO M10 a0 10 14) (
  let M12 := sR M10 a0 4 (some (mZ M9))
  let M13 := nw M12 20 60
  ck (kO M13 a0 10 14) (
  let M15 := sR M13 a0 5 (some (mZ M12))
  some ((), M15))))))
set_option maxRecDepth 100000 in
set_option maxHeartbeats 4000000 in
theorem s_Store_new (G : Gx) (M : Mm) (a0 : Nat) : FnS G Y_Store_new cvV 1 [.ref a0] M (Store_new M a0) := by
  refine FnS.ofE (by decide) (Nat.le_of_ble_eq_true rfl) ?_
  show EJ G Y_Store_new cvV 1 0 [(0, .ref a0)] [] M _
  unfold Store_new
  refine EJ_aload_n 1 0 (dk_42 (bt bc_Store_new_0 0 rfl)) rfl rfl ?_
  refine EJ_obj 4 (dk_183 (bt bc_Store_new_0 1 rfl) (bt bc_Store_new_0 2 rfl) (bt bc_Store_new_0 3 rfl) (n := 3) rfl) rfl tw_399 tw_27 tw_28 (by decide) (Nat.le_of_ble_eq_true rfl) ?_
  refine EJ_aload_n 5 0 (dk_42 (bt bc_Store_new_0 4 rfl)) rfl rfl ?_
  refine EJ_bipush 7 (dk_16 (bt bc_Store_new_0 5 rfl) (bt bc_Store_new_0 6 rfl) (n := 60) rfl) rfl (v := 60) kB_60 ?_
  refine EJ_newa' 0 9 (c := 20) (N := 60) (by decide) rfl tw_61 rfl (by decide) (by decide) (dk_188_10 (bt bc_Store_new_0 7 rfl) (bt bc_Store_new_0 8 rfl)) rfl ?_
  refine EJ_ck (fun h2 => ?_)
  refine EJ_putR cf10 0 (by decide) 12 tw_400 (fun _ _ _ => rfl) (fun _ => rfl) (fun _ => rfl) (Or.inr ⟨rfl, rfl⟩) (dk_181 (bt bc_Store_new_0 9 rfl) (bt bc_Store_new_0 10 rfl) (bt bc_Store_new_0 11 rfl) (n := 9) rfl) rfl (of_decide_eq_true h2) ?_
  refine EJ_aload_n 13 0 (dk_42 (bt bc_Store_new_0 12 rfl)) rfl rfl ?_
  refine EJ_bipush 15 (dk_16 (bt bc_Store_new_0 13 rfl) (bt bc_Store_new_0 14 rfl) (n := 60) rfl) rfl (v := 60) kB_60 ?_
  refine EJ_newa' 0 17 (c := 20) (N := 60) (by decide) rfl tw_61 rfl (by decide) (by decide) (dk_188_10 (bt bc_Store_new_0 15 rfl) (bt bc_Store_new_0 16 rfl)) rfl ?_
  refine EJ_ck (fun h5 => ?_)
  refine EJ_putR cf10 1 (by decide) 20 tw_401 (fun _ _ _ => rfl) (fun _ => rfl) (fun _ => rfl) (Or.inr ⟨rfl, rfl⟩) (dk_181 (bt bc_Store_new_0 17 rfl) (bt bc_Store_new_0 18 rfl) (bt bc_Store_new_0 19 rfl) (n := 15) rfl) rfl (of_decide_eq_true h5) ?_
  refine EJ_aload_n 21 0 (dk_42 (bt bc_Store_new_0 20 rfl)) rfl rfl ?_
  refine EJ_bipush 23 (dk_16 (bt bc_Store_new_0 21 rfl) (bt bc_Store_new_0 22 rfl) (n := 60) rfl) rfl (v := 60) kB_60 ?_
  refine EJ_newa' 0 25 (c := 20) (N := 60) (by decide) rfl tw_61 rfl (by decide) (by decide) (dk_188_10 (bt bc_Store_new_0 23 rfl) (bt bc_Store_new_0 24 rfl)) rfl ?_
  refine EJ_ck (fun h8 => ?_)
  refine EJ_putR cf10 3 (by decide) 28 tw_403 (fun _ _ _ => rfl) (fun _ => rfl) (fun _ => rfl) (Or.inr ⟨rfl, rfl⟩) (dk_181 (bt bc_Store_new_0 25 rfl) (bt bc_Store_new_0 26 rfl) (bt bc_Store_new_0 27 rfl) (n := 18) rfl) rfl (of_decide_eq_true h8) ?_
  refine EJ_aload_n 29 0 (dk_42 (bt bc_Store_new_0 28 rfl)) rfl rfl ?_
  refine EJ_bipush 31 (dk_16 (bt bc_Store_new_0 29 rfl) (bt bc_Store_new_0 30 rfl) (n := 60) rfl) rfl (v := 60) kB_60 ?_
  refine EJ_newa' 0 33 (c := 20) (N := 60) (by decide) rfl tw_61 rfl (by decide) (by decide) (dk_188_10 (bt bc_Store_new_0 31 rfl) (bt bc_Store_new_1 0 rfl)) rfl ?_
  refine EJ_ck (fun h11 => ?_)
  refine EJ_putR cf10 4 (by decide) 36 tw_404 (fun _ _ _ => rfl) (fun _ => rfl) (fun _ => rfl) (Or.inr ⟨rfl, rfl⟩) (dk_181 (bt bc_Store_new_1 1 rfl) (bt bc_Store_new_1 2 rfl) (bt bc_Store_new_1 3 rfl) (n := 21) rfl) rfl (of_decide_eq_true h11) ?_
  refine EJ_aload_n 37 0 (dk_42 (bt bc_Store_new_1 4 rfl)) rfl rfl ?_
  refine EJ_bipush 39 (dk_16 (bt bc_Store_new_1 5 rfl) (bt bc_Store_new_1 6 rfl) (n := 60) rfl) rfl (v := 60) kB_60 ?_
  refine EJ_newa' 0 41 (c := 20) (N := 60) (by decide) rfl tw_61 rfl (by decide) (by decide) (dk_188_10 (bt bc_Store_new_1 7 rfl) (bt bc_Store_new_1 8 rfl)) rfl ?_
  refine EJ_ck (fun h14 => ?_)
  refine EJ_putR cf10 5 (by decide) 44 tw_405 (fun _ _ _ => rfl) (fun _ => rfl) (fun _ => rfl) (Or.inr ⟨rfl, rfl⟩) (dk_181 (bt bc_Store_new_1 9 rfl) (bt bc_Store_new_1 10 rfl) (bt bc_Store_new_1 11 rfl) (n := 24) rfl) rfl (of_decide_eq_true h14) ?_
  exact EJ_vret rfl (dk_177 (bt bc_Store_new_1 12 rfl))
abbrev Y_Store_addIssue : Ym := (⟨"RiceHall$Store", "addIssue", "(II)V"⟩, prog_12_method_3_code, 3, none)
theorem bc_Store_addIssue_0 : bts prog_12_method_3_code 0 [42, 180, 0, 34, 16, 60, 162, 0, 43, 42, 180, 0, 9, 42, 180, 0, 34, 27, 79, 42, 180, 0, 15, 42, 180, 0, 34, 28, 79, 42, 89, 180] := bts_of (by decide +kernel)
theorem bc_Store_addIssue_1 : bts prog_12_method_3_code 32 [0, 34, 4, 96, 181, 0, 34, 42, 89, 180, 0, 27, 27, 96, 181, 0, 27, 177] := bts_of (by decide +kernel)
theorem hd_Store_addIssue : Y_Store_addIssue.1.cls = RX10 ∧ Y_Store_addIssue.1.cls ≠ "java/lang/invoke/MethodHandle" ∧ Y_Store_addIssue.1.cls ≠ "java/lang/invoke/VarHandle" ∧ (parseMethodDescriptor Y_Store_addIssue.1.desc).map (fun d => d.parameters.length) = some 2 := by decide +kernel
def Store_addIssue (M : Mm) (a0 : Nat) (a1 : Int32) (a2 : Int32) : Option (Unit × Mm) :=
  ck (kO M a0 10 14) (
  if 60 ≤ (mI M a0 2) then (
    some ((), M))
  else (
    nn (mR M a0 0) (fun b2 =>
    ck (kA M b2 20 (mI M a0 2)) (
    let M4 := sI M b2 (ix (mI M a0 2)) a1
    nn (mR M4 a0 1) (fun b5 =>
    ck (kA M4 b5 20 (mI M4 a0 2)) (
    let M7 := sI M4 b5 (ix (mI M4 a0 2)) a2
    let M8 := sI M7 a0 2 ((mI M7 a0 2) + 1)
    let M9 := sI M8 a0 9 ((mI M8 a0 9) + a1)
    some ((), M9)))))))
set_option maxRecDepth 100000 in
set_option maxHeartbeats 4000000 in
theorem s_Store_addIssue (G : Gx) (M : Mm) (a0 : Nat) (a1 : Int32) (a2 : Int32) : FnS G Y_Store_addIssue cvV 1 [.ref a0, .int a1, .int a2] M (Store_addIssue M a0 a1 a2) := by
  refine FnS.ofE (by decide) (Nat.le_of_ble_eq_true rfl) ?_
  show EJ G Y_Store_addIssue cvV 1 0 [(0, .ref a0), (1, .int a1), (2, .int a2)] [] M _
  unfold Store_addIssue
  refine EJ_aload_n 1 0 (dk_42 (bt bc_Store_addIssue_0 0 rfl)) rfl rfl ?_
  refine EJ_ck (fun h1 => ?_)
  refine EJ_getI cf10 2 (by decide) 4 tw_402 (fun _ _ _ => rfl) (dk_180 (bt bc_Store_addIssue_0 1 rfl) (bt bc_Store_addIssue_0 2 rfl) (bt bc_Store_addIssue_0 3 rfl) (n := 34) rfl) rfl (of_decide_eq_true h1) ?_
  refine EJ_bipush 6 (dk_16 (bt bc_Store_addIssue_0 4 rfl) (bt bc_Store_addIssue_0 5 rfl) (n := 60) rfl) rfl (v := 60) kB_60 ?_
  refine EJ_icmp_ge 49 9 (dk_162 (bt bc_Store_addIssue_0 6 rfl) (bt bc_Store_addIssue_0 7 rfl) (bt bc_Store_addIssue_0 8 rfl) (n := 43) rfl) (by decide) rfl (fun _ => ?_) (fun _ => ?_)
  · exact EJ_vret rfl (dk_177 (bt bc_Store_addIssue_1 17 rfl))
  · refine EJ_aload_n 10 0 (dk_42 (bt bc_Store_addIssue_0 9 rfl)) rfl rfl ?_
    refine EJ_getR cf10 0 (by decide) 13 tw_400 (fun _ _ _ => rfl) (dk_180 (bt bc_Store_addIssue_0 10 rfl) (bt bc_Store_addIssue_0 11 rfl) (bt bc_Store_addIssue_0 12 rfl) (n := 9) rfl) rfl (of_decide_eq_true h1) (fun b2 => ?_)
    refine EJ_aload_n 14 0 (dk_42 (bt bc_Store_addIssue_0 13 rfl)) rfl rfl ?_
    refine EJ_getI cf10 2 (by decide) 17 tw_402 (fun _ _ _ => rfl) (dk_180 (bt bc_Store_addIssue_0 14 rfl) (bt bc_Store_addIssue_0 15 rfl) (bt bc_Store_addIssue_0 16 rfl) (n := 34) rfl) rfl (of_decide_eq_true h1) ?_
    refine EJ_iload_n 18 1 (dk_27 (bt bc_Store_addIssue_0 17 rfl)) rfl rfl ?_
    refine EJ_ck (fun h3 => ?_)
    refine EJ_iast 19 h3 (dk_79 (bt bc_Store_addIssue_0 18 rfl)) rfl ?_
    refine EJ_aload_n 20 0 (dk_42 (bt bc_Store_addIssue_0 19 rfl)) rfl rfl ?_
    refine EJ_getR cf10 1 (by decide) 23 tw_401 (fun _ _ _ => rfl) (dk_180 (bt bc_Store_addIssue_0 20 rfl) (bt bc_Store_addIssue_0 21 rfl) (bt bc_Store_addIssue_0 22 rfl) (n := 15) rfl) rfl (kp_I (of_decide_eq_true h1)) (fun b5 => ?_)
    refine EJ_aload_n 24 0 (dk_42 (bt bc_Store_addIssue_0 23 rfl)) rfl rfl ?_
    refine EJ_getI cf10 2 (by decide) 27 tw_402 (fun _ _ _ => rfl) (dk_180 (bt bc_Store_addIssue_0 24 rfl) (bt bc_Store_addIssue_0 25 rfl) (bt bc_Store_addIssue_0 26 rfl) (n := 34) rfl) rfl (kp_I (of_decide_eq_true h1)) ?_
    refine EJ_iload_n 28 2 (dk_28 (bt bc_Store_addIssue_0 27 rfl)) rfl rfl ?_
    refine EJ_ck (fun h6 => ?_)
    refine EJ_iast 29 h6 (dk_79 (bt bc_Store_addIssue_0 28 rfl)) rfl ?_
    refine EJ_aload_n 30 0 (dk_42 (bt bc_Store_addIssue_0 29 rfl)) rfl rfl ?_
    refine EJ_dup 31 (dk_89 (bt bc_Store_addIssue_0 30 rfl)) rfl rfl ?_
    refine EJ_getI cf10 2 (by decide) 34 tw_402 (fun _ _ _ => rfl) (dk_180 (bt bc_Store_addIssue_0 31 rfl) (bt bc_Store_addIssue_1 0 rfl) (bt bc_Store_addIssue_1 1 rfl) (n := 34) rfl) rfl (kp_I (kp_I (of_decide_eq_true h1))) ?_
    refine EJ_iconst 35 (dk_4 (bt bc_Store_addIssue_1 2 rfl)) rfl (v := 1) kI_1 ?_
    refine EJ_iadd 36 (dk_96 (bt bc_Store_addIssue_1 3 rfl)) rfl ?_
    refine EJ_putI cf10 2 (by decide) 39 tw_402 rfl (Or.inl rfl) (dk_181 (bt bc_Store_addIssue_1 4 rfl) (bt bc_Store_addIssue_1 5 rfl) (bt bc_Store_addIssue_1 6 rfl) (n := 34) rfl) rfl (kp_I (kp_I (of_decide_eq_true h1))) ?_
    refine EJ_aload_n 40 0 (dk_42 (bt bc_Store_addIssue_1 7 rfl)) rfl rfl ?_
    refine EJ_dup 41 (dk_89 (bt bc_Store_addIssue_1 8 rfl)) rfl rfl ?_
    refine EJ_getI cf10 9 (by decide) 44 tw_410 (fun _ _ _ => rfl) (dk_180 (bt bc_Store_addIssue_1 9 rfl) (bt bc_Store_addIssue_1 10 rfl) (bt bc_Store_addIssue_1 11 rfl) (n := 27) rfl) rfl (kp_I (kp_I (kp_I (of_decide_eq_true h1)))) ?_
    refine EJ_iload_n 45 1 (dk_27 (bt bc_Store_addIssue_1 12 rfl)) rfl rfl ?_
    refine EJ_iadd 46 (dk_96 (bt bc_Store_addIssue_1 13 rfl)) rfl ?_
    refine EJ_putI cf10 9 (by decide) 49 tw_410 rfl (Or.inl rfl) (dk_181 (bt bc_Store_addIssue_1 14 rfl) (bt bc_Store_addIssue_1 15 rfl) (bt bc_Store_addIssue_1 16 rfl) (n := 27) rfl) rfl (kp_I (kp_I (kp_I (of_decide_eq_true h1)))) ?_
    exact EJ_vret rfl (dk_177 (bt bc_Store_addIssue_1 17 rfl))
abbrev Y_Store_out : Ym := (⟨"RiceHall$Store", "out", "()I"⟩, prog_12_method_2_code, 1, (some FieldType.int))
theorem bc_Store_out_0 : bts prog_12_method_2_code 0 [42, 180, 0, 27, 42, 180, 0, 31, 96, 172] := bts_of (by decide +kernel)
theorem hd_Store_out : Y_Store_out.1.cls = RX10 ∧ Y_Store_out.1.cls ≠ "java/lang/invoke/MethodHandle" ∧ Y_Store_out.1.cls ≠ "java/lang/invoke/VarHandle" ∧ (parseMethodDescriptor Y_Store_out.1.desc).map (fun d => d.parameters.length) = some 0 := by decide +kernel
def Store_out (M : Mm) (a0 : Nat) : Option (Int32 × Mm) :=
  ck (kO M a0 10 14) (
  some ((mI M a0 9) + (mI M a0 10), M))
set_option maxRecDepth 100000 in
set_option maxHeartbeats 4000000 in
theorem s_Store_out (G : Gx) (M : Mm) (a0 : Nat) : FnS G Y_Store_out cvI 1 [.ref a0] M (Store_out M a0) := by
  refine FnS.ofE (by decide) (Nat.le_of_ble_eq_true rfl) ?_
  show EJ G Y_Store_out cvI 1 0 [(0, .ref a0)] [] M _
  unfold Store_out
  refine EJ_aload_n 1 0 (dk_42 (bt bc_Store_out_0 0 rfl)) rfl rfl ?_
  refine EJ_ck (fun h1 => ?_)
  refine EJ_getI cf10 9 (by decide) 4 tw_410 (fun _ _ _ => rfl) (dk_180 (bt bc_Store_out_0 1 rfl) (bt bc_Store_out_0 2 rfl) (bt bc_Store_out_0 3 rfl) (n := 27) rfl) rfl (of_decide_eq_true h1) ?_
  refine EJ_aload_n 5 0 (dk_42 (bt bc_Store_out_0 4 rfl)) rfl rfl ?_
  refine EJ_getI cf10 10 (by decide) 8 tw_412 (fun _ _ _ => rfl) (dk_180 (bt bc_Store_out_0 5 rfl) (bt bc_Store_out_0 6 rfl) (bt bc_Store_out_0 7 rfl) (n := 31) rfl) rfl (of_decide_eq_true h1) ?_
  refine EJ_iadd 9 (dk_96 (bt bc_Store_out_0 8 rfl)) rfl ?_
  exact EJ_iret rfl (dk_172 (bt bc_Store_out_0 9 rfl))
abbrev Y_Store_addWait : Ym := (⟨"RiceHall$Store", "addWait", "(III)V"⟩, prog_12_method_4_code, 4, none)
theorem bc_Store_addWait_0 : bts prog_12_method_4_code 0 [42, 180, 0, 37, 16, 60, 162, 0, 63, 42, 180, 0, 18, 42, 180, 0, 37, 27, 79, 42, 180, 0, 21, 42, 180, 0, 37, 28, 79, 42, 180, 0] := bts_of (by decide +kernel)
theorem bc_Store_addWait_1 : bts prog_12_method_4_code 32 [24, 42, 180, 0, 37, 29, 79, 42, 89, 180, 0, 37, 4, 96, 181, 0, 37, 42, 89, 180, 0, 27, 28, 100, 181, 0, 27, 42, 89, 180, 0, 31] := bts_of (by decide +kernel)
theorem bc_Store_addWait_2 : bts prog_12_method_4_code 64 [28, 96, 181, 0, 31, 177] := bts_of (by decide +kernel)
theorem hd_Store_addWait : Y_Store_addWait.1.cls = RX10 ∧ Y_Store_addWait.1.cls ≠ "java/lang/invoke/MethodHandle" ∧ Y_Store_addWait.1.cls ≠ "java/lang/invoke/VarHandle" ∧ (parseMethodDescriptor Y_Store_addWait.1.desc).map (fun d => d.parameters.length) = some 3 := by decide +kernel
def Store_addWait (M : Mm) (a0 : Nat) (a1 : Int32) (a2 : Int32) (a3 : Int32) : Option (Unit × Mm) :=
  ck (kO M a0 10 14) (
  if 60 ≤ (mI M a0 7) then (
    some ((), M))
  else (
    nn (mR M a0 3) (fun b2 =>
    ck (kA M b2 20 (mI M a0 7)) (
    let M4 := sI M b2 (ix (mI M a0 7)) a1
    nn (mR M4 a0 4) (fun b5 =>
    ck (kA M4 b5 20 (mI M4 a0 7)) (
    let M7 := sI M4 b5 (ix (mI M4 a0 7)) a2
    nn (mR M7 a0 5) (fun b8 =>
    ck (kA M7 b8 20 (mI M7 a0 7)) (
    let M10 := sI M7 b8 (ix (mI M7 a0 7)) a3
    let M11 := sI M10 a0 7 ((mI M10 a0 7) + 1)
    let M12 := sI M11 a0 9 ((mI M11 a0 9) - a2)
    let M13 := sI M12 a0 10 ((mI M12 a0 10) + a2)
    some ((), M13)))))))))
set_option maxRecDepth 100000 in
set_option maxHeartbeats 4000000 in
theorem s_Store_addWait (G : Gx) (M : Mm) (a0 : Nat) (a1 : Int32) (a2 : Int32) (a3 : Int32) : FnS G Y_Store_addWait cvV 1 [.ref a0, .int a1, .int a2, .int a3] M (Store_addWait M a0 a1 a2 a3) := by
  refine FnS.ofE (by decide) (Nat.le_of_ble_eq_true rfl) ?_
  show EJ G Y_Store_addWait cvV 1 0 [(0, .ref a0), (1, .int a1), (2, .int a2), (3, .int a3)] [] M _
  unfold Store_addWait
  refine EJ_aload_n 1 0 (dk_42 (bt bc_Store_addWait_0 0 rfl)) rfl rfl ?_
  refine EJ_ck (fun h1 => ?_)
  refine EJ_getI cf10 7 (by decide) 4 tw_407 (fun _ _ _ => rfl) (dk_180 (bt bc_Store_addWait_0 1 rfl) (bt bc_Store_addWait_0 2 rfl) (bt bc_Store_addWait_0 3 rfl) (n := 37) rfl) rfl (of_decide_eq_true h1) ?_
  refine EJ_bipush 6 (dk_16 (bt bc_Store_addWait_0 4 rfl) (bt bc_Store_addWait_0 5 rfl) (n := 60) rfl) rfl (v := 60) kB_60 ?_
  refine EJ_icmp_ge 69 9 (dk_162 (bt bc_Store_addWait_0 6 rfl) (bt bc_Store_addWait_0 7 rfl) (bt bc_Store_addWait_0 8 rfl) (n := 63) rfl) (by decide) rfl (fun _ => ?_) (fun _ => ?_)
  · exact EJ_vret rfl (dk_177 (bt bc_Store_addWait_2 5 rfl))
  · refine EJ_aload_n 10 0 (dk_42 (bt bc_Store_addWait_0 9 rfl)) rfl rfl ?_
    refine EJ_getR cf10 3 (by decide) 13 tw_403 (fun _ _ _ => rfl) (dk_180 (bt bc_Store_addWait_0 10 rfl) (bt bc_Store_addWait_0 11 rfl) (bt bc_Store_addWait_0 12 rfl) (n := 18) rfl) rfl (of_decide_eq_true h1) (fun b2 => ?_)
    refine EJ_aload_n 14 0 (dk_42 (bt bc_Store_addWait_0 13 rfl)) rfl rfl ?_
    refine EJ_getI cf10 7 (by decide) 17 tw_407 (fun _ _ _ => rfl) (dk_180 (bt bc_Store_addWait_0 14 rfl) (bt bc_Store_addWait_0 15 rfl) (bt bc_Store_addWait_0 16 rfl) (n := 37) rfl) rfl (of_decide_eq_true h1) ?_
    refine EJ_iload_n 18 1 (dk_27 (bt bc_Store_addWait_0 17 rfl)) rfl rfl ?_
    refine EJ_ck (fun h3 => ?_)
    refine EJ_iast 19 h3 (dk_79 (bt bc_Store_addWait_0 18 rfl)) rfl ?_
    refine EJ_aload_n 20 0 (dk_42 (bt bc_Store_addWait_0 19 rfl)) rfl rfl ?_
    refine EJ_getR cf10 4 (by decide) 23 tw_404 (fun _ _ _ => rfl) (dk_180 (bt bc_Store_addWait_0 20 rfl) (bt bc_Store_addWait_0 21 rfl) (bt bc_Store_addWait_0 22 rfl) (n := 21) rfl) rfl (kp_I (of_decide_eq_true h1)) (fun b5 => ?_)
    refine EJ_aload_n 24 0 (dk_42 (bt bc_Store_addWait_0 23 rfl)) rfl rfl ?_
    refine EJ_getI cf10 7 (by decide) 27 tw_407 (fun _ _ _ => rfl) (dk_180 (bt bc_Store_addWait_0 24 rfl) (bt bc_Store_addWait_0 25 rfl) (bt bc_Store_addWait_0 26 rfl) (n := 37) rfl) rfl (kp_I (of_decide_eq_true h1)) ?_
    refine EJ_iload_n 28 2 (dk_28 (bt bc_Store_addWait_0 27 rfl)) rfl rfl ?_
    refine EJ_ck (fun h6 => ?_)
    refine EJ_iast 29 h6 (dk_79 (bt bc_Store_addWait_0 28 rfl)) rfl ?_
    refine EJ_aload_n 30 0 (dk_42 (bt bc_Store_addWait_0 29 rfl)) rfl rfl ?_
    refine EJ_getR cf10 5 (by decide) 33 tw_405 (fun _ _ _ => rfl) (dk_180 (bt bc_Store_addWait_0 30 rfl) (bt bc_Store_addWait_0 31 rfl) (bt bc_Store_addWait_1 0 rfl) (n := 24) rfl) rfl (kp_I (kp_I (of_decide_eq_true h1))) (fun b8 => ?_)
    refine EJ_aload_n 34 0 (dk_42 (bt bc_Store_addWait_1 1 rfl)) rfl rfl ?_
    refine EJ_getI cf10 7 (by decide) 37 tw_407 (fun _ _ _ => rfl) (dk_180 (bt bc_Store_addWait_1 2 rfl) (bt bc_Store_addWait_1 3 rfl) (bt bc_Store_addWait_1 4 rfl) (n := 37) rfl) rfl (kp_I (kp_I (of_decide_eq_true h1))) ?_
    refine EJ_iload_n 38 3 (dk_29 (bt bc_Store_addWait_1 5 rfl)) rfl rfl ?_
    refine EJ_ck (fun h9 => ?_)
    refine EJ_iast 39 h9 (dk_79 (bt bc_Store_addWait_1 6 rfl)) rfl ?_
    refine EJ_aload_n 40 0 (dk_42 (bt bc_Store_addWait_1 7 rfl)) rfl rfl ?_
    refine EJ_dup 41 (dk_89 (bt bc_Store_addWait_1 8 rfl)) rfl rfl ?_
    refine EJ_getI cf10 7 (by decide) 44 tw_407 (fun _ _ _ => rfl) (dk_180 (bt bc_Store_addWait_1 9 rfl) (bt bc_Store_addWait_1 10 rfl) (bt bc_Store_addWait_1 11 rfl) (n := 37) rfl) rfl (kp_I (kp_I (kp_I (of_decide_eq_true h1)))) ?_
    refine EJ_iconst 45 (dk_4 (bt bc_Store_addWait_1 12 rfl)) rfl (v := 1) kI_1 ?_
    refine EJ_iadd 46 (dk_96 (bt bc_Store_addWait_1 13 rfl)) rfl ?_
    refine EJ_putI cf10 7 (by decide) 49 tw_407 rfl (Or.inl rfl) (dk_181 (bt bc_Store_addWait_1 14 rfl) (bt bc_Store_addWait_1 15 rfl) (bt bc_Store_addWait_1 16 rfl) (n := 37) rfl) rfl (kp_I (kp_I (kp_I (of_decide_eq_true h1)))) ?_
    refine EJ_aload_n 50 0 (dk_42 (bt bc_Store_addWait_1 17 rfl)) rfl rfl ?_
    refine EJ_dup 51 (dk_89 (bt bc_Store_addWait_1 18 rfl)) rfl rfl ?_
    refine EJ_getI cf10 9 (by decide) 54 tw_410 (fun _ _ _ => rfl) (dk_180 (bt bc_Store_addWait_1 19 rfl) (bt bc_Store_addWait_1 20 rfl) (bt bc_Store_addWait_1 21 rfl) (n := 27) rfl) rfl (kp_I (kp_I (kp_I (kp_I (of_decide_eq_true h1))))) ?_
    refine EJ_iload_n 55 2 (dk_28 (bt bc_Store_addWait_1 22 rfl)) rfl rfl ?_
    refine EJ_isub 56 (dk_100 (bt bc_Store_addWait_1 23 rfl)) rfl ?_
    refine EJ_putI cf10 9 (by decide) 59 tw_410 rfl (Or.inl rfl) (dk_181 (bt bc_Store_addWait_1 24 rfl) (bt bc_Store_addWait_1 25 rfl) (bt bc_Store_addWait_1 26 rfl) (n := 27) rfl) rfl (kp_I (kp_I (kp_I (kp_I (of_decide_eq_true h1))))) ?_
    refine EJ_aload_n 60 0 (dk_42 (bt bc_Store_addWait_1 27 rfl)) rfl rfl ?_
    refine EJ_dup 61 (dk_89 (bt bc_Store_addWait_1 28 rfl)) rfl rfl ?_
    refine EJ_getI cf10 10 (by decide) 64 tw_412 (fun _ _ _ => rfl) (dk_180 (bt bc_Store_addWait_1 29 rfl) (bt bc_Store_addWait_1 30 rfl) (bt bc_Store_addWait_1 31 rfl) (n := 31) rfl) rfl (kp_I (kp_I (kp_I (kp_I (kp_I (of_decide_eq_true h1)))))) ?_
    refine EJ_iload_n 65 2 (dk_28 (bt bc_Store_addWait_2 0 rfl)) rfl rfl ?_
    refine EJ_iadd 66 (dk_96 (bt bc_Store_addWait_2 1 rfl)) rfl ?_
    refine EJ_putI cf10 10 (by decide) 69 tw_412 rfl (Or.inl rfl) (dk_181 (bt bc_Store_addWait_2 2 rfl) (bt bc_Store_addWait_2 3 rfl) (bt bc_Store_addWait_2 4 rfl) (n := 31) rfl) rfl (kp_I (kp_I (kp_I (kp_I (kp_I (of_decide_eq_true h1)))))) ?_
    exact EJ_vret rfl (dk_177 (bt bc_Store_addWait_2 5 rfl))
abbrev Y_Store_serve : Ym := (⟨"RiceHall$Store", "serve", "([LRiceHall$Person;)I"⟩, prog_12_method_5_code, 5, (some FieldType.int))
theorem bc_Store_serve_0 : bts prog_12_method_5_code 0 [42, 180, 0, 40, 61, 42, 180, 0, 43, 62, 29, 42, 180, 0, 37, 162, 0, 109, 42, 180, 0, 40, 158, 0, 102, 42, 180, 0, 40, 42, 180, 0] := bts_of (by decide +kernel)
theorem bc_Store_serve_1 : bts prog_12_method_5_code 32 [21, 29, 46, 184, 0, 46, 54, 4, 42, 89, 180, 0, 40, 21, 4, 100, 181, 0, 40, 42, 89, 180, 0, 31, 21, 4, 100, 181, 0, 31, 42, 89] := bts_of (by decide +kernel)
theorem bc_Store_serve_2 : bts prog_12_method_5_code 64 [180, 0, 52, 21, 4, 96, 181, 0, 52, 42, 180, 0, 21, 29, 92, 46, 21, 4, 100, 79, 43, 42, 180, 0, 18, 29, 46, 50, 89, 180, 0, 55] := bts_of (by decide +kernel)
theorem bc_Store_serve_3 : bts prog_12_method_5_code 96 [21, 4, 96, 181, 0, 55, 42, 180, 0, 21, 29, 46, 154, 0, 10, 42, 29, 4, 96, 181, 0, 43, 132, 3, 1, 167, 255, 145, 28, 42, 180, 0] := bts_of (by decide +kernel)
theorem bc_Store_serve_4 : bts prog_12_method_5_code 128 [40, 100, 172] := bts_of (by decide +kernel)
theorem hd_Store_serve : Y_Store_serve.1.cls = RX10 ∧ Y_Store_serve.1.cls ≠ "java/lang/invoke/MethodHandle" ∧ Y_Store_serve.1.cls ≠ "java/lang/invoke/VarHandle" ∧ (parseMethodDescriptor Y_Store_serve.1.desc).map (fun d => d.parameters.length) = some 1 := by decide +kernel
def Store_serve_J118 (k10 : Nat → Nat → Int32 → Int32 → Mm → Option (Int32 × Mm)) (x0 : Nat) (x1 : Nat) (x2 : Int32) (x3 : Int32) (M : Mm) : Option (Int32 × Mm) :=
  let v24 : Int32 := x3 + 1
  k10 x0 x1 x2 v24 M
set_option maxRecDepth 100000 in
set_option maxHeartbeats 4000000 in
theorem e_Store_serve_J118 {G : Gx} (k10 : Nat → Nat → Int32 → Int32 → Mm → Option (Int32 × Mm)) (hk10 : ∀ (x0 : Nat) (x1 : Nat) (x2 : Int32) (x3 : Int32) (M : Mm), EJ G Y_Store_serve cvI 2 10 [(0, .ref x0), (1, .ref x1), (2, .int x2), (3, .int x3)] [] M (k10 x0 x1 x2 x3 M)) (x0 : Nat) (x1 : Nat) (x2 : Int32) (x3 : Int32) (M : Mm) : EJ G Y_Store_serve cvI 2 118 [(0, .ref x0), (1, .ref x1), (2, .int x2), (3, .int x3)] [] M (Store_serve_J118 k10 x0 x1 x2 x3 M) := by
  unfold Store_serve_J118
  refine EJ_iinc 121 3 (lv2 := [(3, .int _), (0, .ref _), (1, .ref _), (2, .int _)]) (dk_132 (bt bc_Store_serve_3 22 rfl) (bt bc_Store_serve_3 23 rfl) (bt bc_Store_serve_3 24 rfl) (n := 1) rfl) rfl (by decide) rfl (v := 1) kI_1 rfl ?_
  refine EJ_goto 10 (dk_167 (bt bc_Store_serve_3 25 rfl) (bt bc_Store_serve_3 26 rfl) (bt bc_Store_serve_3 27 rfl) (n := -111) rfl) (by decide) ?_
  exact EJ_pick (lv2 := [(0, .ref _), (1, .ref _), (2, .int _), (3, .int _)]) [1, 2, 3, 0] rfl (hk10 _ _ _ _ _)
def Store_serve_B10 (k10 : Nat → Nat → Int32 → Int32 → Mm → Option (Int32 × Mm)) (x0 : Nat) (x1 : Nat) (x2 : Int32) (x3 : Int32) (M : Mm) : Option (Int32 × Mm) :=
  ck (kO M x0 10 14) (
  if (mI M x0 7) ≤ x3 then (
    some (x2 - (mI M x0 8), M))
  else (
    if (mI M x0 8) ≤ 0 then (
      some (x2 - (mI M x0 8), M))
    else (
      nn (mR M x0 4) (fun b5 =>
      ck (kA M b5 20 x3) (
      bd (Math_min_I M (mI M x0 8) (mI M b5 (ix x3))) (fun r7 M8 =>
      ck (kO M8 x0 10 14) (
      let M10 := sI M8 x0 8 ((mI M8 x0 8) - r7)
      let M11 := sI M10 x0 10 ((mI M10 x0 10) - r7)
      let M12 := sI M11 x0 11 ((mI M11 x0 11) + r7)
      nn (mR M12 x0 4) (fun b13 =>
      ck (kA M12 b13 20 x3) (
      let M15 := sI M12 b13 (ix x3) ((mI M12 b13 (ix x3)) - r7)
      nn (mR M15 x0 3) (fun b16 =>
      ck (kA M15 b16 20 x3) (
      ck (kA M15 x1 24 (mI M15 b16 (ix x3))) (
      nn (mR M15 x1 (ix (mI M15 b16 (ix x3)))) (fun b19 =>
      ck (kO M15 b19 6 9) (
      let M21 := sI M15 b19 5 ((mI M15 b19 5) + r7)
      nn (mR M21 x0 4) (fun b22 =>
      ck (kA M21 b22 20 x3) (
      if (mI M21 b22 (ix x3)) = 0 then (
        let M25 := sI M21 x0 6 (x3 + 1)
        Store_serve_J118 k10 x0 x1 x2 x3 M25)
      else (
        Store_serve_J118 k10 x0 x1 x2 x3 M21)))))))))))))))))
set_option maxRecDepth 100000 in
set_option maxHeartbeats 4000000 in
theorem e_Store_serve_B10 {G : Gx} (k10 : Nat → Nat → Int32 → Int32 → Mm → Option (Int32 × Mm)) (hk10 : ∀ (x0 : Nat) (x1 : Nat) (x2 : Int32) (x3 : Int32) (M : Mm), EJ G Y_Store_serve cvI 2 10 [(0, .ref x0), (1, .ref x1), (2, .int x2), (3, .int x3)] [] M (k10 x0 x1 x2 x3 M)) (x0 : Nat) (x1 : Nat) (x2 : Int32) (x3 : Int32) (M : Mm) : EJ G Y_Store_serve cvI 2 10 [(0, .ref x0), (1, .ref x1), (2, .int x2), (3, .int x3)] [] M (Store_serve_B10 k10 x0 x1 x2 x3 M) := by
  unfold Store_serve_B10
  refine EJ_iload_n 11 3 (dk_29 (bt bc_Store_serve_0 10 rfl)) rfl rfl ?_
  refine EJ_aload_n 12 0 (dk_42 (bt bc_Store_serve_0 11 rfl)) rfl rfl ?_
  refine EJ_ck (fun h4 => ?_)
  refine EJ_getI cf10 7 (by decide) 15 tw_407 (fun _ _ _ => rfl) (dk_180 (bt bc_Store_serve_0 12 rfl) (bt bc_Store_serve_0 13 rfl) (bt bc_Store_serve_0 14 rfl) (n := 37) rfl) rfl (of_decide_eq_true h4) ?_
  refine EJ_icmp_ge 124 18 (dk_162 (bt bc_Store_serve_0 15 rfl) (bt bc_Store_serve_0 16 rfl) (bt bc_Store_serve_0 17 rfl) (n := 109) rfl) (by decide) rfl (fun _ => ?_) (fun _ => ?_)
  · refine EJ_iload_n 125 2 (dk_28 (bt bc_Store_serve_3 28 rfl)) rfl rfl ?_
    refine EJ_aload_n 126 0 (dk_42 (bt bc_Store_serve_3 29 rfl)) rfl rfl ?_
    refine EJ_getI cf10 8 (by decide) 129 tw_408 (fun _ _ _ => rfl) (dk_180 (bt bc_Store_serve_3 30 rfl) (bt bc_Store_serve_3 31 rfl) (bt bc_Store_serve_4 0 rfl) (n := 40) rfl) rfl (of_decide_eq_true h4) ?_
    refine EJ_isub 130 (dk_100 (bt bc_Store_serve_4 1 rfl)) rfl ?_
    exact EJ_iret rfl (dk_172 (bt bc_Store_serve_4 2 rfl))
  · refine EJ_aload_n 19 0 (dk_42 (bt bc_Store_serve_0 18 rfl)) rfl rfl ?_
    refine EJ_getI cf10 8 (by decide) 22 tw_408 (fun _ _ _ => rfl) (dk_180 (bt bc_Store_serve_0 19 rfl) (bt bc_Store_serve_0 20 rfl) (bt bc_Store_serve_0 21 rfl) (n := 40) rfl) rfl (of_decide_eq_true h4) ?_
    refine EJ_if_le 124 25 (dk_158 (bt bc_Store_serve_0 22 rfl) (bt bc_Store_serve_0 23 rfl) (bt bc_Store_serve_0 24 rfl) (n := 102) rfl) (by decide) rfl (fun _ => ?_) (fun _ => ?_)
    · refine EJ_iload_n 125 2 (dk_28 (bt bc_Store_serve_3 28 rfl)) rfl rfl ?_
      refine EJ_aload_n 126 0 (dk_42 (bt bc_Store_serve_3 29 rfl)) rfl rfl ?_
      refine EJ_getI cf10 8 (by decide) 129 tw_408 (fun _ _ _ => rfl) (dk_180 (bt bc_Store_serve_3 30 rfl) (bt bc_Store_serve_3 31 rfl) (bt bc_Store_serve_4 0 rfl) (n := 40) rfl) rfl (of_decide_eq_true h4) ?_
      refine EJ_isub 130 (dk_100 (bt bc_Store_serve_4 1 rfl)) rfl ?_
      exact EJ_iret rfl (dk_172 (bt bc_Store_serve_4 2 rfl))
    · refine EJ_aload_n 26 0 (dk_42 (bt bc_Store_serve_0 25 rfl)) rfl rfl ?_
      refine EJ_getI cf10 8 (by decide) 29 tw_408 (fun _ _ _ => rfl) (dk_180 (bt bc_Store_serve_0 26 rfl) (bt bc_Store_serve_0 27 rfl) (bt bc_Store_serve_0 28 rfl) (n := 40) rfl) rfl (of_decide_eq_true h4) ?_
      refine EJ_aload_n 30 0 (dk_42 (bt bc_Store_serve_0 29 rfl)) rfl rfl ?_
      refine EJ_getR cf10 4 (by decide) 33 tw_404 (fun _ _ _ => rfl) (dk_180 (bt bc_Store_serve_0 30 rfl) (bt bc_Store_serve_0 31 rfl) (bt bc_Store_serve_1 0 rfl) (n := 21) rfl) rfl (of_decide_eq_true h4) (fun b5 => ?_)
      refine EJ_iload_n 34 3 (dk_29 (bt bc_Store_serve_1 1 rfl)) rfl rfl ?_
      refine EJ_ck (fun h6 => ?_)
      refine EJ_iald 35 h6 (dk_46 (bt bc_Store_serve_1 2 rfl)) rfl ?_
      refine EJ_callSi (Y2 := Y_Math_min_I) 38 (s_Math_min_I G _ _ _) rfl (dk_184 (bt bc_Store_serve_1 3 rfl) (bt bc_Store_serve_1 4 rfl) (bt bc_Store_serve_1 5 rfl) (n := 46) rfl) rfl tw_489 tw_322 tw_9 tw_323 hd_Math_min_I rfl (by decide) (Nat.le_of_ble_eq_true rfl) (fun r7 M8 => ?_)
      refine EJ_istore 40 (lv2 := [(4, .int _), (0, .ref _), (1, .ref _), (2, .int _), (3, .int _)]) (dk_54 (bt bc_Store_serve_1 6 rfl) (bt bc_Store_serve_1 7 rfl)) rfl (by decide) rfl ?_
      refine EJ_aload_n 41 1 (dk_42 (bt bc_Store_serve_1 8 rfl)) rfl rfl ?_
      refine EJ_dup 42 (dk_89 (bt bc_Store_serve_1 9 rfl)) rfl rfl ?_
      refine EJ_ck (fun h9 => ?_)
      refine EJ_getI cf10 8 (by decide) 45 tw_408 (fun _ _ _ => rfl) (dk_180 (bt bc_Store_serve_1 10 rfl) (bt bc_Store_serve_1 11 rfl) (bt bc_Store_serve_1 12 rfl) (n := 40) rfl) rfl (of_decide_eq_true h9) ?_
      refine EJ_iload 47 0 (dk_21 (bt bc_Store_serve_1 13 rfl) (bt bc_Store_serve_1 14 rfl)) rfl rfl ?_
      refine EJ_isub 48 (dk_100 (bt bc_Store_serve_1 15 rfl)) rfl ?_
      refine EJ_putI cf10 8 (by decide) 51 tw_408 rfl (Or.inl rfl) (dk_181 (bt bc_Store_serve_1 16 rfl) (bt bc_Store_serve_1 17 rfl) (bt bc_Store_serve_1 18 rfl) (n := 40) rfl) rfl (of_decide_eq_true h9) ?_
      refine EJ_aload_n 52 1 (dk_42 (bt bc_Store_serve_1 19 rfl)) rfl rfl ?_
      refine EJ_dup 53 (dk_89 (bt bc_Store_serve_1 20 rfl)) rfl rfl ?_
      refine EJ_getI cf10 10 (by decide) 56 tw_412 (fun _ _ _ => rfl) (dk_180 (bt bc_Store_serve_1 21 rfl) (bt bc_Store_serve_1 22 rfl) (bt bc_Store_serve_1 23 rfl) (n := 31) rfl) rfl (kp_I (of_decide_eq_true h9)) ?_
      refine EJ_iload 58 0 (dk_21 (bt bc_Store_serve_1 24 rfl) (bt bc_Store_serve_1 25 rfl)) rfl rfl ?_
      refine EJ_isub 59 (dk_100 (bt bc_Store_serve_1 26 rfl)) rfl ?_
      refine EJ_putI cf10 10 (by decide) 62 tw_412 rfl (Or.inl rfl) (dk_181 (bt bc_Store_serve_1 27 rfl) (bt bc_Store_serve_1 28 rfl) (bt bc_Store_serve_1 29 rfl) (n := 31) rfl) rfl (kp_I (of_decide_eq_true h9)) ?_
      refine EJ_aload_n 63 1 (dk_42 (bt bc_Store_serve_1 30 rfl)) rfl rfl ?_
      refine EJ_dup 64 (dk_89 (bt bc_Store_serve_1 31 rfl)) rfl rfl ?_
      refine EJ_getI cf10 11 (by decide) 67 tw_414 (fun _ _ _ => rfl) (dk_180 (bt bc_Store_serve_2 0 rfl) (bt bc_Store_serve_2 1 rfl) (bt bc_Store_serve_2 2 rfl) (n := 52) rfl) rfl (kp_I (kp_I (of_decide_eq_true h9))) ?_
      refine EJ_iload 69 0 (dk_21 (bt bc_Store_serve_2 3 rfl) (bt bc_Store_serve_2 4 rfl)) rfl rfl ?_
      refine EJ_iadd 70 (dk_96 (bt bc_Store_serve_2 5 rfl)) rfl ?_
      refine EJ_putI cf10 11 (by decide) 73 tw_414 rfl (Or.inl rfl) (dk_181 (bt bc_Store_serve_2 6 rfl) (bt bc_Store_serve_2 7 rfl) (bt bc_Store_serve_2 8 rfl) (n := 52) rfl) rfl (kp_I (kp_I (of_decide_eq_true h9))) ?_
      refine EJ_aload_n 74 1 (dk_42 (bt bc_Store_serve_2 9 rfl)) rfl rfl ?_
      refine EJ_getR cf10 4 (by decide) 77 tw_404 (fun _ _ _ => rfl) (dk_180 (bt bc_Store_serve_2 10 rfl) (bt bc_Store_serve_2 11 rfl) (bt bc_Store_serve_2 12 rfl) (n := 21) rfl) rfl (kp_I (kp_I (kp_I (of_decide_eq_true h9)))) (fun b13 => ?_)
      refine EJ_iload_n 78 4 (dk_29 (bt bc_Store_serve_2 13 rfl)) rfl rfl ?_
      refine EJ_dup2 79 (dk_92 (bt bc_Store_serve_2 14 rfl)) rfl rfl rfl ?_
      refine EJ_ck (fun h14 => ?_)
      refine EJ_iald 80 h14 (dk_46 (bt bc_Store_serve_2 15 rfl)) rfl ?_
      refine EJ_iload 82 0 (dk_21 (bt bc_Store_serve_2 16 rfl) (bt bc_Store_serve_2 17 rfl)) rfl rfl ?_
      refine EJ_isub 83 (dk_100 (bt bc_Store_serve_2 18 rfl)) rfl ?_
      refine EJ_iast 84 h14 (dk_79 (bt bc_Store_serve_2 19 rfl)) rfl ?_
      refine EJ_aload_n 85 2 (dk_43 (bt bc_Store_serve_2 20 rfl)) rfl rfl ?_
      refine EJ_aload_n 86 1 (dk_42 (bt bc_Store_serve_2 21 rfl)) rfl rfl ?_
      refine EJ_getR cf10 3 (by decide) 89 tw_403 (fun _ _ _ => rfl) (dk_180 (bt bc_Store_serve_2 22 rfl) (bt bc_Store_serve_2 23 rfl) (bt bc_Store_serve_2 24 rfl) (n := 18) rfl) rfl (kp_I (kp_I (kp_I (kp_I (of_decide_eq_true h9))))) (fun b16 => ?_)
      refine EJ_iload_n 90 4 (dk_29 (bt bc_Store_serve_2 25 rfl)) rfl rfl ?_
      refine EJ_ck (fun h17 => ?_)
      refine EJ_iald 91 h17 (dk_46 (bt bc_Store_serve_2 26 rfl)) rfl ?_
      refine EJ_ck (fun h18 => ?_)
      refine EJ_aald 4 92 (by decide) (by decide) rfl h18 (dk_50 (bt bc_Store_serve_2 27 rfl)) rfl (fun b19 => ?_)
      refine EJ_dup 93 (dk_89 (bt bc_Store_serve_2 28 rfl)) rfl rfl ?_
      refine EJ_ck (fun h20 => ?_)
      refine EJ_getI cf6 5 (by decide) 96 tw_351 (fun _ _ _ => rfl) (dk_180 (bt bc_Store_serve_2 29 rfl) (bt bc_Store_serve_2 30 rfl) (bt bc_Store_serve_2 31 rfl) (n := 55) rfl) rfl (of_decide_eq_true h20) ?_
      refine EJ_iload 98 0 (dk_21 (bt bc_Store_serve_3 0 rfl) (bt bc_Store_serve_3 1 rfl)) rfl rfl ?_
      refine EJ_iadd 99 (dk_96 (bt bc_Store_serve_3 2 rfl)) rfl ?_
      refine EJ_putI cf6 5 (by decide) 102 tw_351 rfl (Or.inl rfl) (dk_181 (bt bc_Store_serve_3 3 rfl) (bt bc_Store_serve_3 4 rfl) (bt bc_Store_serve_3 5 rfl) (n := 55) rfl) rfl (of_decide_eq_true h20) ?_
      refine EJ_aload_n 103 1 (dk_42 (bt bc_Store_serve_3 6 rfl)) rfl rfl ?_
      refine EJ_getR cf10 4 (by decide) 106 tw_404 (fun _ _ _ => rfl) (dk_180 (bt bc_Store_serve_3 7 rfl) (bt bc_Store_serve_3 8 rfl) (bt bc_Store_serve_3 9 rfl) (n := 21) rfl) rfl (kp_I (kp_I (kp_I (kp_I (kp_I (of_decide_eq_true h9)))))) (fun b22 => ?_)
      refine EJ_iload_n 107 4 (dk_29 (bt bc_Store_serve_3 10 rfl)) rfl rfl ?_
      refine EJ_ck (fun h23 => ?_)
      refine EJ_iald 108 h23 (dk_46 (bt bc_Store_serve_3 11 rfl)) rfl ?_
      refine EJ_if_ne 118 111 (dk_154 (bt bc_Store_serve_3 12 rfl) (bt bc_Store_serve_3 13 rfl) (bt bc_Store_serve_3 14 rfl) (n := 10) rfl) (by decide) rfl (fun _ => ?_) (fun _ => ?_)
      · exact EJ_pick (lv2 := [(0, .ref _), (1, .ref _), (2, .int _), (3, .int _)]) [1, 2, 3, 4] rfl (e_Store_serve_J118 k10 hk10 _ _ _ _ _)
      · refine EJ_aload_n 112 1 (dk_42 (bt bc_Store_serve_3 15 rfl)) rfl rfl ?_
        refine EJ_iload_n 113 4 (dk_29 (bt bc_Store_serve_3 16 rfl)) rfl rfl ?_
        refine EJ_iconst 114 (dk_4 (bt bc_Store_serve_3 17 rfl)) rfl (v := 1) kI_1 ?_
        refine EJ_iadd 115 (dk_96 (bt bc_Store_serve_3 18 rfl)) rfl ?_
        refine EJ_putI cf10 6 (by decide) 118 tw_406 rfl (Or.inl rfl) (dk_181 (bt bc_Store_serve_3 19 rfl) (bt bc_Store_serve_3 20 rfl) (bt bc_Store_serve_3 21 rfl) (n := 43) rfl) rfl (kp_I (kp_I (kp_I (kp_I (kp_I (of_decide_eq_true h9)))))) ?_
        exact EJ_pick (lv2 := [(0, .ref _), (1, .ref _), (2, .int _), (3, .int _)]) [1, 2, 3, 4] rfl (e_Store_serve_J118 k10 hk10 _ _ _ _ _)
def Store_serve_L10 (n : Nat) : Nat → Nat → Int32 → Int32 → Mm → Option (Int32 × Mm) :=
  match n with
  | 0 => fun _ _ _ _ _ => none
  | n + 1 => Store_serve_B10 (Store_serve_L10 n)
theorem e_Store_serve_L10 {G : Gx} : ∀ (n : Nat) (x0 : Nat) (x1 : Nat) (x2 : Int32) (x3 : Int32) (M : Mm), EJ G Y_Store_serve cvI 2 10 [(0, .ref x0), (1, .ref x1), (2, .int x2), (3, .int x3)] [] M (Store_serve_L10 n x0 x1 x2 x3 M) := by
  intro n
  induction n with
  | zero => intros; exact EJ_none
  | succ n ih => intro x0 x1 x2 x3 M; exact e_Store_serve_B10 _ ih x0 x1 x2 x3 M
def Store_serve (M : Mm) (a0 : Nat) (a1 : Nat) : Option (Int32 × Mm) :=
  ck (kO M a0 10 14) (
  let v2 : Int32 := mI M a0 8
  let v3 : Int32 := mI M a0 6
  Store_serve_L10 fu a0 a1 v2 v3 M)
set_option maxRecDepth 100000 in
set_option maxHeartbeats 4000000 in
theorem s_Store_serve (G : Gx) (M : Mm) (a0 : Nat) (a1 : Nat) : FnS G Y_Store_serve cvI 2 [.ref a0, .ref a1] M (Store_serve M a0 a1) := by
  refine FnS.ofE (by decide) (Nat.le_of_ble_eq_true rfl) ?_
  show EJ G Y_Store_serve cvI 2 0 [(0, .ref a0), (1, .ref a1)] [] M _
  unfold Store_serve
  refine EJ_aload_n 1 0 (dk_42 (bt bc_Store_serve_0 0 rfl)) rfl rfl ?_
  refine EJ_ck (fun h1 => ?_)
  refine EJ_getI cf10 8 (by decide) 4 tw_408 (fun _ _ _ => rfl) (dk_180 (bt bc_Store_serve_0 1 rfl) (bt bc_Store_serve_0 2 rfl) (bt bc_Store_serve_0 3 rfl) (n := 40) rfl) rfl (of_decide_eq_true h1) ?_
  refine EJ_istore_n 5 (lv2 := [(2, .int _), (0, .ref _), (1, .ref _)]) (dk_61 (bt bc_Store_serve_0 4 rfl)) rfl (by decide) rfl ?_
  refine EJ_aload_n 6 1 (dk_42 (bt bc_Store_serve_0 5 rfl)) rfl rfl ?_
  refine EJ_getI cf10 6 (by decide) 9 tw_406 (fun _ _ _ => rfl) (dk_180 (bt bc_Store_serve_0 6 rfl) (bt bc_Store_serve_0 7 rfl) (bt bc_Store_serve_0 8 rfl) (n := 43) rfl) rfl (of_decide_eq_true h1) ?_
  refine EJ_istore_n 10 (lv2 := [(3, .int _), (2, .int _), (0, .ref _), (1, .ref _)]) (dk_62 (bt bc_Store_serve_0 9 rfl)) rfl (by decide) rfl ?_
  exact EJ_pick (lv2 := [(0, .ref _), (1, .ref _), (2, .int _), (3, .int _)]) [2, 3, 1, 0] rfl (e_Store_serve_L10 fu _ _ _ _ _)
abbrev Y_Store_spoilRice : Ym := (⟨"RiceHall$Store", "spoilRice", "(I)I"⟩, prog_12_method_6_code, 3, (some FieldType.int))
theorem bc_Store_spoilRice_0 : bts prog_12_method_6_code 0 [42, 180, 0, 40, 27, 104, 16, 100, 108, 61, 42, 89, 180, 0, 40, 28, 100, 181, 0, 40, 42, 89, 180, 0, 60, 28, 96, 181, 0, 60, 28, 172] := bts_of (by decide +kernel)
theorem hd_Store_spoilRice : Y_Store_spoilRice.1.cls = RX10 ∧ Y_Store_spoilRice.1.cls ≠ "java/lang/invoke/MethodHandle" ∧ Y_Store_spoilRice.1.cls ≠ "java/lang/invoke/VarHandle" ∧ (parseMethodDescriptor Y_Store_spoilRice.1.desc).map (fun d => d.parameters.length) = some 1 := by decide +kernel
def Store_spoilRice (M : Mm) (a0 : Nat) (a1 : Int32) : Option (Int32 × Mm) :=
  ck (kO M a0 10 14) (
  let v2 : Int32 := ((mI M a0 8) * a1) / 100
  let M3 := sI M a0 8 ((mI M a0 8) - v2)
  let M4 := sI M3 a0 12 ((mI M3 a0 12) + v2)
  some (v2, M4))
set_option maxRecDepth 100000 in
set_option maxHeartbeats 4000000 in
theorem s_Store_spoilRice (G : Gx) (M : Mm) (a0 : Nat) (a1 : Int32) : FnS G Y_Store_spoilRice cvI 1 [.ref a0, .int a1] M (Store_spoilRice M a0 a1) := by
  refine FnS.ofE (by decide) (Nat.le_of_ble_eq_true rfl) ?_
  show EJ G Y_Store_spoilRice cvI 1 0 [(0, .ref a0), (1, .int a1)] [] M _
  unfold Store_spoilRice
  refine EJ_aload_n 1 0 (dk_42 (bt bc_Store_spoilRice_0 0 rfl)) rfl rfl ?_
  refine EJ_ck (fun h1 => ?_)
  refine EJ_getI cf10 8 (by decide) 4 tw_408 (fun _ _ _ => rfl) (dk_180 (bt bc_Store_spoilRice_0 1 rfl) (bt bc_Store_spoilRice_0 2 rfl) (bt bc_Store_spoilRice_0 3 rfl) (n := 40) rfl) rfl (of_decide_eq_true h1) ?_
  refine EJ_iload_n 5 1 (dk_27 (bt bc_Store_spoilRice_0 4 rfl)) rfl rfl ?_
  refine EJ_imul 6 (dk_104 (bt bc_Store_spoilRice_0 5 rfl)) rfl ?_
  refine EJ_bipush 8 (dk_16 (bt bc_Store_spoilRice_0 6 rfl) (bt bc_Store_spoilRice_0 7 rfl) (n := 100) rfl) rfl (v := 100) kB_100 ?_
  refine EJ_idiv 9 (dk_108 (bt bc_Store_spoilRice_0 8 rfl)) rfl (by decide) ?_
  refine EJ_istore_n 10 (lv2 := [(2, .int _), (0, .ref _), (1, .int _)]) (dk_61 (bt bc_Store_spoilRice_0 9 rfl)) rfl (by decide) rfl ?_
  refine EJ_aload_n 11 1 (dk_42 (bt bc_Store_spoilRice_0 10 rfl)) rfl rfl ?_
  refine EJ_dup 12 (dk_89 (bt bc_Store_spoilRice_0 11 rfl)) rfl rfl ?_
  refine EJ_getI cf10 8 (by decide) 15 tw_408 (fun _ _ _ => rfl) (dk_180 (bt bc_Store_spoilRice_0 12 rfl) (bt bc_Store_spoilRice_0 13 rfl) (bt bc_Store_spoilRice_0 14 rfl) (n := 40) rfl) rfl (of_decide_eq_true h1) ?_
  refine EJ_iload_n 16 0 (dk_28 (bt bc_Store_spoilRice_0 15 rfl)) rfl rfl ?_
  refine EJ_isub 17 (dk_100 (bt bc_Store_spoilRice_0 16 rfl)) rfl ?_
  refine EJ_putI cf10 8 (by decide) 20 tw_408 rfl (Or.inl rfl) (dk_181 (bt bc_Store_spoilRice_0 17 rfl) (bt bc_Store_spoilRice_0 18 rfl) (bt bc_Store_spoilRice_0 19 rfl) (n := 40) rfl) rfl (of_decide_eq_true h1) ?_
  refine EJ_aload_n 21 1 (dk_42 (bt bc_Store_spoilRice_0 20 rfl)) rfl rfl ?_
  refine EJ_dup 22 (dk_89 (bt bc_Store_spoilRice_0 21 rfl)) rfl rfl ?_
  refine EJ_getI cf10 12 (by decide) 25 tw_416 (fun _ _ _ => rfl) (dk_180 (bt bc_Store_spoilRice_0 22 rfl) (bt bc_Store_spoilRice_0 23 rfl) (bt bc_Store_spoilRice_0 24 rfl) (n := 60) rfl) rfl (kp_I (of_decide_eq_true h1)) ?_
  refine EJ_iload_n 26 0 (dk_28 (bt bc_Store_spoilRice_0 25 rfl)) rfl rfl ?_
  refine EJ_iadd 27 (dk_96 (bt bc_Store_spoilRice_0 26 rfl)) rfl ?_
  refine EJ_putI cf10 12 (by decide) 30 tw_416 rfl (Or.inl rfl) (dk_181 (bt bc_Store_spoilRice_0 27 rfl) (bt bc_Store_spoilRice_0 28 rfl) (bt bc_Store_spoilRice_0 29 rfl) (n := 60) rfl) rfl (kp_I (of_decide_eq_true h1)) ?_
  refine EJ_iload_n 31 0 (dk_28 (bt bc_Store_spoilRice_0 30 rfl)) rfl rfl ?_
  exact EJ_iret rfl (dk_172 (bt bc_Store_spoilRice_0 31 rfl))
abbrev Y_Store_overAsKnown : Ym := (⟨"RiceHall$Store", "overAsKnown", "(I)I"⟩, prog_12_method_7_code, 4, (some FieldType.int))
theorem bc_Store_overAsKnown_0 : bts prog_12_method_7_code 0 [3, 61, 3, 62, 29, 42, 180, 0, 34, 162, 0, 28, 42, 180, 0, 15, 29, 46, 27, 163, 0, 12, 28, 42, 180, 0, 9, 29, 46, 96, 61, 132] := bts_of (by decide +kernel)
theorem bc_Store_overAsKnown_1 : bts prog_12_method_7_code 32 [3, 1, 167, 255, 226, 3, 28, 42, 180, 0, 52, 100, 42, 180, 0, 63, 100, 42, 180, 0, 40, 100, 184, 0, 66, 172] := bts_of (by decide +kernel)
theorem hd_Store_overAsKnown : Y_Store_overAsKnown.1.cls = RX10 ∧ Y_Store_overAsKnown.1.cls ≠ "java/lang/invoke/MethodHandle" ∧ Y_Store_overAsKnown.1.cls ≠ "java/lang/invoke/VarHandle" ∧ (parseMethodDescriptor Y_Store_overAsKnown.1.desc).map (fun d => d.parameters.length) = some 1 := by decide +kernel
def Store_overAsKnown_J31 (k4 : Nat → Int32 → Int32 → Int32 → Mm → Option (Int32 × Mm)) (x0 : Nat) (x1 : Int32) (x2 : Int32) (x3 : Int32) (M : Mm) : Option (Int32 × Mm) :=
  let v6 : Int32 := x3 + 1
  k4 x0 x1 x2 v6 M
set_option maxRecDepth 100000 in
set_option maxHeartbeats 4000000 in
theorem e_Store_overAsKnown_J31 {G : Gx} (k4 : Nat → Int32 → Int32 → Int32 → Mm → Option (Int32 × Mm)) (hk4 : ∀ (x0 : Nat) (x1 : Int32) (x2 : Int32) (x3 : Int32) (M : Mm), EJ G Y_Store_overAsKnown cvI 2 4 [(0, .ref x0), (1, .int x1), (2, .int x2), (3, .int x3)] [] M (k4 x0 x1 x2 x3 M)) (x0 : Nat) (x1 : Int32) (x2 : Int32) (x3 : Int32) (M : Mm) : EJ G Y_Store_overAsKnown cvI 2 31 [(0, .ref x0), (1, .int x1), (2, .int x2), (3, .int x3)] [] M (Store_overAsKnown_J31 k4 x0 x1 x2 x3 M) := by
  unfold Store_overAsKnown_J31
  refine EJ_iinc 34 3 (lv2 := [(3, .int _), (0, .ref _), (1, .int _), (2, .int _)]) (dk_132 (bt bc_Store_overAsKnown_0 31 rfl) (bt bc_Store_overAsKnown_1 0 rfl) (bt bc_Store_overAsKnown_1 1 rfl) (n := 1) rfl) rfl (by decide) rfl (v := 1) kI_1 rfl ?_
  refine EJ_goto 4 (dk_167 (bt bc_Store_overAsKnown_1 2 rfl) (bt bc_Store_overAsKnown_1 3 rfl) (bt bc_Store_overAsKnown_1 4 rfl) (n := -30) rfl) (by decide) ?_
  exact EJ_pick (lv2 := [(0, .ref _), (1, .int _), (2, .int _), (3, .int _)]) [1, 2, 3, 0] rfl (hk4 _ _ _ _ _)
def Store_overAsKnown_B4 (k4 : Nat → Int32 → Int32 → Int32 → Mm → Option (Int32 × Mm)) (x0 : Nat) (x1 : Int32) (x2 : Int32) (x3 : Int32) (M : Mm) : Option (Int32 × Mm) :=
  ck (kO M x0 10 14) (
  if (mI M x0 2) ≤ x3 then (
    bd (Math_max_I M 0 (((x2 - (mI M x0 11)) - (mI M x0 13)) - (mI M x0 8))) (fun r2 M3 =>
    some (r2, M3)))
  else (
    nn (mR M x0 1) (fun b4 =>
    ck (kA M b4 20 x3) (
    if x1 < (mI M b4 (ix x3)) then (
      Store_overAsKnown_J31 k4 x0 x1 x2 x3 M)
    else (
      nn (mR M x0 0) (fun b7 =>
      ck (kA M b7 20 x3) (
      let v9 : Int32 := x2 + (mI M b7 (ix x3))
      Store_overAsKnown_J31 k4 x0 x1 v9 x3 M)))))))
set_option maxRecDepth 100000 in
set_option maxHeartbeats 4000000 in
theorem e_Store_overAsKnown_B4 {G : Gx} (k4 : Nat → Int32 → Int32 → Int32 → Mm → Option (Int32 × Mm)) (hk4 : ∀ (x0 : Nat) (x1 : Int32) (x2 : Int32) (x3 : Int32) (M : Mm), EJ G Y_Store_overAsKnown cvI 2 4 [(0, .ref x0), (1, .int x1), (2, .int x2), (3, .int x3)] [] M (k4 x0 x1 x2 x3 M)) (x0 : Nat) (x1 : Int32) (x2 : Int32) (x3 : Int32) (M : Mm) : EJ G Y_Store_overAsKnown cvI 2 4 [(0, .ref x0), (1, .int x1), (2, .int x2), (3, .int x3)] [] M (Store_overAsKnown_B4 k4 x0 x1 x2 x3 M) := by
  unfold Store_overAsKnown_B4
  refine EJ_iload_n 5 3 (dk_29 (bt bc_Store_overAsKnown_0 4 rfl)) rfl rfl ?_
  refine EJ_aload_n 6 0 (dk_42 (bt bc_Store_overAsKnown_0 5 rfl)) rfl rfl ?_
  refine EJ_ck (fun h1 => ?_)
  refine EJ_getI cf10 2 (by decide) 9 tw_402 (fun _ _ _ => rfl) (dk_180 (bt bc_Store_overAsKnown_0 6 rfl) (bt bc_Store_overAsKnown_0 7 rfl) (bt bc_Store_overAsKnown_0 8 rfl) (n := 34) rfl) rfl (of_decide_eq_true h1) ?_
  refine EJ_icmp_ge 37 12 (dk_162 (bt bc_Store_overAsKnown_0 9 rfl) (bt bc_Store_overAsKnown_0 10 rfl) (bt bc_Store_overAsKnown_0 11 rfl) (n := 28) rfl) (by decide) rfl (fun _ => ?_) (fun _ => ?_)
  · refine EJ_iconst 38 (dk_3 (bt bc_Store_overAsKnown_1 5 rfl)) rfl (v := 0) kI_0 ?_
    refine EJ_iload_n 39 2 (dk_28 (bt bc_Store_overAsKnown_1 6 rfl)) rfl rfl ?_
    refine EJ_aload_n 40 0 (dk_42 (bt bc_Store_overAsKnown_1 7 rfl)) rfl rfl ?_
    refine EJ_getI cf10 11 (by decide) 43 tw_414 (fun _ _ _ => rfl) (dk_180 (bt bc_Store_overAsKnown_1 8 rfl) (bt bc_Store_overAsKnown_1 9 rfl) (bt bc_Store_overAsKnown_1 10 rfl) (n := 52) rfl) rfl (of_decide_eq_true h1) ?_
    refine EJ_isub 44 (dk_100 (bt bc_Store_overAsKnown_1 11 rfl)) rfl ?_
    refine EJ_aload_n 45 0 (dk_42 (bt bc_Store_overAsKnown_1 12 rfl)) rfl rfl ?_
    refine EJ_getI cf10 13 (by decide) 48 tw_418 (fun _ _ _ => rfl) (dk_180 (bt bc_Store_overAsKnown_1 13 rfl) (bt bc_Store_overAsKnown_1 14 rfl) (bt bc_Store_overAsKnown_1 15 rfl) (n := 63) rfl) rfl (of_decide_eq_true h1) ?_
    refine EJ_isub 49 (dk_100 (bt bc_Store_overAsKnown_1 16 rfl)) rfl ?_
    refine EJ_aload_n 50 0 (dk_42 (bt bc_Store_overAsKnown_1 17 rfl)) rfl rfl ?_
    refine EJ_getI cf10 8 (by decide) 53 tw_408 (fun _ _ _ => rfl) (dk_180 (bt bc_Store_overAsKnown_1 18 rfl) (bt bc_Store_overAsKnown_1 19 rfl) (bt bc_Store_overAsKnown_1 20 rfl) (n := 40) rfl) rfl (of_decide_eq_true h1) ?_
    refine EJ_isub 54 (dk_100 (bt bc_Store_overAsKnown_1 21 rfl)) rfl ?_
    refine EJ_callSi (Y2 := Y_Math_max_I) 57 (s_Math_max_I G _ _ _) rfl (dk_184 (bt bc_Store_overAsKnown_1 22 rfl) (bt bc_Store_overAsKnown_1 23 rfl) (bt bc_Store_overAsKnown_1 24 rfl) (n := 66) rfl) rfl tw_558 tw_559 tw_9 tw_560 hd_Math_max_I rfl (by decide) (Nat.le_of_ble_eq_true rfl) (fun r2 M3 => ?_)
    exact EJ_iret rfl (dk_172 (bt bc_Store_overAsKnown_1 25 rfl))
  · refine EJ_aload_n 13 0 (dk_42 (bt bc_Store_overAsKnown_0 12 rfl)) rfl rfl ?_
    refine EJ_getR cf10 1 (by decide) 16 tw_401 (fun _ _ _ => rfl) (dk_180 (bt bc_Store_overAsKnown_0 13 rfl) (bt bc_Store_overAsKnown_0 14 rfl) (bt bc_Store_overAsKnown_0 15 rfl) (n := 15) rfl) rfl (of_decide_eq_true h1) (fun b4 => ?_)
    refine EJ_iload_n 17 3 (dk_29 (bt bc_Store_overAsKnown_0 16 rfl)) rfl rfl ?_
    refine EJ_ck (fun h5 => ?_)
    refine EJ_iald 18 h5 (dk_46 (bt bc_Store_overAsKnown_0 17 rfl)) rfl ?_
    refine EJ_iload_n 19 1 (dk_27 (bt bc_Store_overAsKnown_0 18 rfl)) rfl rfl ?_
    refine EJ_icmp_gt 31 22 (dk_163 (bt bc_Store_overAsKnown_0 19 rfl) (bt bc_Store_overAsKnown_0 20 rfl) (bt bc_Store_overAsKnown_0 21 rfl) (n := 12) rfl) (by decide) rfl (fun _ => ?_) (fun _ => ?_)
    · exact EJ_pick (lv2 := [(0, .ref _), (1, .int _), (2, .int _), (3, .int _)]) [0, 1, 2, 3] rfl (e_Store_overAsKnown_J31 k4 hk4 _ _ _ _ _)
    · refine EJ_iload_n 23 2 (dk_28 (bt bc_Store_overAsKnown_0 22 rfl)) rfl rfl ?_
      refine EJ_aload_n 24 0 (dk_42 (bt bc_Store_overAsKnown_0 23 rfl)) rfl rfl ?_
      refine EJ_getR cf10 0 (by decide) 27 tw_400 (fun _ _ _ => rfl) (dk_180 (bt bc_Store_overAsKnown_0 24 rfl) (bt bc_Store_overAsKnown_0 25 rfl) (bt bc_Store_overAsKnown_0 26 rfl) (n := 9) rfl) rfl (of_decide_eq_true h1) (fun b7 => ?_)
      refine EJ_iload_n 28 3 (dk_29 (bt bc_Store_overAsKnown_0 27 rfl)) rfl rfl ?_
      refine EJ_ck (fun h8 => ?_)
      refine EJ_iald 29 h8 (dk_46 (bt bc_Store_overAsKnown_0 28 rfl)) rfl ?_
      refine EJ_iadd 30 (dk_96 (bt bc_Store_overAsKnown_0 29 rfl)) rfl ?_
      refine EJ_istore_n 31 (lv2 := [(2, .int _), (0, .ref _), (1, .int _), (3, .int _)]) (dk_61 (bt bc_Store_overAsKnown_0 30 rfl)) rfl (by decide) rfl ?_
      exact EJ_pick (lv2 := [(0, .ref _), (1, .int _), (2, .int _), (3, .int _)]) [1, 2, 0, 3] rfl (e_Store_overAsKnown_J31 k4 hk4 _ _ _ _ _)
def Store_overAsKnown_L4 (n : Nat) : Nat → Int32 → Int32 → Int32 → Mm → Option (Int32 × Mm) :=
  match n with
  | 0 => fun _ _ _ _ _ => none
  | n + 1 => Store_overAsKnown_B4 (Store_overAsKnown_L4 n)
theorem e_Store_overAsKnown_L4 {G : Gx} : ∀ (n : Nat) (x0 : Nat) (x1 : Int32) (x2 : Int32) (x3 : Int32) (M : Mm), EJ G Y_Store_overAsKnown cvI 2 4 [(0, .ref x0), (1, .int x1), (2, .int x2), (3, .int x3)] [] M (Store_overAsKnown_L4 n x0 x1 x2 x3 M) := by
  intro n
  induction n with
  | zero => intros; exact EJ_none
  | succ n ih => intro x0 x1 x2 x3 M; exact e_Store_overAsKnown_B4 _ ih x0 x1 x2 x3 M
def Store_overAsKnown (M : Mm) (a0 : Nat) (a1 : Int32) : Option (Int32 × Mm) :=
  Store_overAsKnown_L4 fu a0 a1 0 0 M
set_option maxRecDepth 100000 in
set_option maxHeartbeats 4000000 in
theorem s_Store_overAsKnown (G : Gx) (M : Mm) (a0 : Nat) (a1 : Int32) : FnS G Y_Store_overAsKnown cvI 2 [.ref a0, .int a1] M (Store_overAsKnown M a0 a1) := by
  refine FnS.ofE (by decide) (Nat.le_of_ble_eq_true rfl) ?_
  show EJ G Y_Store_overAsKnown cvI 2 0 [(0, .ref a0), (1, .int a1)] [] M _
  unfold Store_overAsKnown
  refine EJ_iconst 1 (dk_3 (bt bc_Store_overAsKnown_0 0 rfl)) rfl (v := 0) kI_0 ?_
  refine EJ_istore_n 2 (lv2 := [(2, .int _), (0, .ref _), (1, .int _)]) (dk_61 (bt bc_Store_overAsKnown_0 1 rfl)) rfl (by decide) rfl ?_
  refine EJ_iconst 3 (dk_3 (bt bc_Store_overAsKnown_0 2 rfl)) rfl (v := 0) kI_0 ?_
  refine EJ_istore_n 4 (lv2 := [(3, .int _), (2, .int _), (0, .ref _), (1, .int _)]) (dk_62 (bt bc_Store_overAsKnown_0 3 rfl)) rfl (by decide) rfl ?_
  exact EJ_pick (lv2 := [(0, .ref _), (1, .int _), (2, .int _), (3, .int _)]) [2, 3, 1, 0] rfl (e_Store_overAsKnown_L4 fu _ _ _ _ _)
abbrev Y_Store_cannot : Ym := (⟨"RiceHall$Store", "cannot", "(I)Z"⟩, prog_12_method_8_code, 2, (some FieldType.boolean))
theorem bc_Store_cannot_0 : bts prog_12_method_8_code 0 [42, 180, 0, 43, 42, 180, 0, 37, 162, 0, 24, 27, 42, 180, 0, 24, 42, 180, 0, 43, 46, 100, 17, 11, 64, 161, 0, 7, 4, 167, 0, 4] := bts_of (by decide +kernel)
theorem bc_Store_cannot_1 : bts prog_12_method_8_code 32 [3, 172] := bts_of (by decide +kernel)
theorem hd_Store_cannot : Y_Store_cannot.1.cls = RX10 ∧ Y_Store_cannot.1.cls ≠ "java/lang/invoke/MethodHandle" ∧ Y_Store_cannot.1.cls ≠ "java/lang/invoke/VarHandle" ∧ (parseMethodDescriptor Y_Store_cannot.1.desc).map (fun d => d.parameters.length) = some 1 := by decide +kernel
def Store_cannot (M : Mm) (a0 : Nat) (a1 : Int32) : Option (Int32 × Mm) :=
  ck (kO M a0 10 14) (
  if (mI M a0 7) ≤ (mI M a0 6) then (
    some (0, M))
  else (
    nn (mR M a0 5) (fun b2 =>
    ck (kA M b2 20 (mI M a0 6)) (
    if (a1 - (mI M b2 (ix (mI M a0 6)))) < 2880 then (
      some (0, M))
    else (
      some (1, M))))))
set_option maxRecDepth 100000 in
set_option maxHeartbeats 4000000 in
theorem s_Store_cannot (G : Gx) (M : Mm) (a0 : Nat) (a1 : Int32) : FnS G Y_Store_cannot cvI 1 [.ref a0, .int a1] M (Store_cannot M a0 a1) := by
  refine FnS.ofE (by decide) (Nat.le_of_ble_eq_true rfl) ?_
  show EJ G Y_Store_cannot cvI 1 0 [(0, .ref a0), (1, .int a1)] [] M _
  unfold Store_cannot
  refine EJ_aload_n 1 0 (dk_42 (bt bc_Store_cannot_0 0 rfl)) rfl rfl ?_
  refine EJ_ck (fun h1 => ?_)
  refine EJ_getI cf10 6 (by decide) 4 tw_406 (fun _ _ _ => rfl) (dk_180 (bt bc_Store_cannot_0 1 rfl) (bt bc_Store_cannot_0 2 rfl) (bt bc_Store_cannot_0 3 rfl) (n := 43) rfl) rfl (of_decide_eq_true h1) ?_
  refine EJ_aload_n 5 0 (dk_42 (bt bc_Store_cannot_0 4 rfl)) rfl rfl ?_
  refine EJ_getI cf10 7 (by decide) 8 tw_407 (fun _ _ _ => rfl) (dk_180 (bt bc_Store_cannot_0 5 rfl) (bt bc_Store_cannot_0 6 rfl) (bt bc_Store_cannot_0 7 rfl) (n := 37) rfl) rfl (of_decide_eq_true h1) ?_
  refine EJ_icmp_ge 32 11 (dk_162 (bt bc_Store_cannot_0 8 rfl) (bt bc_Store_cannot_0 9 rfl) (bt bc_Store_cannot_0 10 rfl) (n := 24) rfl) (by decide) rfl (fun _ => ?_) (fun _ => ?_)
  · refine EJ_iconst 33 (dk_3 (bt bc_Store_cannot_1 0 rfl)) rfl (v := 0) kI_0 ?_
    exact EJ_zret rfl (by decide) (dk_172 (bt bc_Store_cannot_1 1 rfl))
  · refine EJ_iload_n 12 1 (dk_27 (bt bc_Store_cannot_0 11 rfl)) rfl rfl ?_
    refine EJ_aload_n 13 0 (dk_42 (bt bc_Store_cannot_0 12 rfl)) rfl rfl ?_
    refine EJ_getR cf10 5 (by decide) 16 tw_405 (fun _ _ _ => rfl) (dk_180 (bt bc_Store_cannot_0 13 rfl) (bt bc_Store_cannot_0 14 rfl) (bt bc_Store_cannot_0 15 rfl) (n := 24) rfl) rfl (of_decide_eq_true h1) (fun b2 => ?_)
    refine EJ_aload_n 17 0 (dk_42 (bt bc_Store_cannot_0 16 rfl)) rfl rfl ?_
    refine EJ_getI cf10 6 (by decide) 20 tw_406 (fun _ _ _ => rfl) (dk_180 (bt bc_Store_cannot_0 17 rfl) (bt bc_Store_cannot_0 18 rfl) (bt bc_Store_cannot_0 19 rfl) (n := 43) rfl) rfl (of_decide_eq_true h1) ?_
    refine EJ_ck (fun h3 => ?_)
    refine EJ_iald 21 h3 (dk_46 (bt bc_Store_cannot_0 20 rfl)) rfl ?_
    refine EJ_isub 22 (dk_100 (bt bc_Store_cannot_0 21 rfl)) rfl ?_
    refine EJ_sipush 25 (dk_17 (bt bc_Store_cannot_0 22 rfl) (bt bc_Store_cannot_0 23 rfl) (bt bc_Store_cannot_0 24 rfl) (n := 2880) rfl) rfl (v := 2880) kS_2880 ?_
    refine EJ_icmp_lt 32 28 (dk_161 (bt bc_Store_cannot_0 25 rfl) (bt bc_Store_cannot_0 26 rfl) (bt bc_Store_cannot_0 27 rfl) (n := 7) rfl) (by decide) rfl (fun _ => ?_) (fun _ => ?_)
    · refine EJ_iconst 33 (dk_3 (bt bc_Store_cannot_1 0 rfl)) rfl (v := 0) kI_0 ?_
      exact EJ_zret rfl (by decide) (dk_172 (bt bc_Store_cannot_1 1 rfl))
    · refine EJ_iconst 29 (dk_4 (bt bc_Store_cannot_0 28 rfl)) rfl (v := 1) kI_1 ?_
      refine EJ_goto 33 (dk_167 (bt bc_Store_cannot_0 29 rfl) (bt bc_Store_cannot_0 30 rfl) (bt bc_Store_cannot_0 31 rfl) (n := 4) rfl) (by decide) ?_
      exact EJ_zret rfl (by decide) (dk_172 (bt bc_Store_cannot_1 1 rfl))
abbrev Y_Store_firstWaiter : Ym := (⟨"RiceHall$Store", "firstWaiter", "()I"⟩, prog_12_method_9_code, 1, (some FieldType.int))
theorem bc_Store_firstWaiter_0 : bts prog_12_method_9_code 0 [42, 180, 0, 43, 42, 180, 0, 37, 162, 0, 15, 42, 180, 0, 18, 42, 180, 0, 43, 46, 167, 0, 4, 2, 172] := bts_of (by decide +kernel)
theorem hd_Store_firstWaiter : Y_Store_firstWaiter.1.cls = RX10 ∧ Y_Store_firstWaiter.1.cls ≠ "java/lang/invoke/MethodHandle" ∧ Y_Store_firstWaiter.1.cls ≠ "java/lang/invoke/VarHandle" ∧ (parseMethodDescriptor Y_Store_firstWaiter.1.desc).map (fun d => d.parameters.length) = some 0 := by decide +kernel
def Store_firstWaiter (M : Mm) (a0 : Nat) : Option (Int32 × Mm) :=
  ck (kO M a0 10 14) (
  if (mI M a0 7) ≤ (mI M a0 6) then (
    some ((-1), M))
  else (
    nn (mR M a0 3) (fun b2 =>
    ck (kA M b2 20 (mI M a0 6)) (
    some (mI M b2 (ix (mI M a0 6)), M)))))
set_option maxRecDepth 100000 in
set_option maxHeartbeats 4000000 in
theorem s_Store_firstWaiter (G : Gx) (M : Mm) (a0 : Nat) : FnS G Y_Store_firstWaiter cvI 1 [.ref a0] M (Store_firstWaiter M a0) := by
  refine FnS.ofE (by decide) (Nat.le_of_ble_eq_true rfl) ?_
  show EJ G Y_Store_firstWaiter cvI 1 0 [(0, .ref a0)] [] M _
  unfold Store_firstWaiter
  refine EJ_aload_n 1 0 (dk_42 (bt bc_Store_firstWaiter_0 0 rfl)) rfl rfl ?_
  refine EJ_ck (fun h1 => ?_)
  refine EJ_getI cf10 6 (by decide) 4 tw_406 (fun _ _ _ => rfl) (dk_180 (bt bc_Store_firstWaiter_0 1 rfl) (bt bc_Store_firstWaiter_0 2 rfl) (bt bc_Store_firstWaiter_0 3 rfl) (n := 43) rfl) rfl (of_decide_eq_true h1) ?_
  refine EJ_aload_n 5 0 (dk_42 (bt bc_Store_firstWaiter_0 4 rfl)) rfl rfl ?_
  refine EJ_getI cf10 7 (by decide) 8 tw_407 (fun _ _ _ => rfl) (dk_180 (bt bc_Store_firstWaiter_0 5 rfl) (bt bc_Store_firstWaiter_0 6 rfl) (bt bc_Store_firstWaiter_0 7 rfl) (n := 37) rfl) rfl (of_decide_eq_true h1) ?_
  refine EJ_icmp_ge 23 11 (dk_162 (bt bc_Store_firstWaiter_0 8 rfl) (bt bc_Store_firstWaiter_0 9 rfl) (bt bc_Store_firstWaiter_0 10 rfl) (n := 15) rfl) (by decide) rfl (fun _ => ?_) (fun _ => ?_)
  · refine EJ_iconst 24 (dk_2 (bt bc_Store_firstWaiter_0 23 rfl)) rfl (v := (-1)) kI_m1 ?_
    exact EJ_iret rfl (dk_172 (bt bc_Store_firstWaiter_0 24 rfl))
  · refine EJ_aload_n 12 0 (dk_42 (bt bc_Store_firstWaiter_0 11 rfl)) rfl rfl ?_
    refine EJ_getR cf10 3 (by decide) 15 tw_403 (fun _ _ _ => rfl) (dk_180 (bt bc_Store_firstWaiter_0 12 rfl) (bt bc_Store_firstWaiter_0 13 rfl) (bt bc_Store_firstWaiter_0 14 rfl) (n := 18) rfl) rfl (of_decide_eq_true h1) (fun b2 => ?_)
    refine EJ_aload_n 16 0 (dk_42 (bt bc_Store_firstWaiter_0 15 rfl)) rfl rfl ?_
    refine EJ_getI cf10 6 (by decide) 19 tw_406 (fun _ _ _ => rfl) (dk_180 (bt bc_Store_firstWaiter_0 16 rfl) (bt bc_Store_firstWaiter_0 17 rfl) (bt bc_Store_firstWaiter_0 18 rfl) (n := 43) rfl) rfl (of_decide_eq_true h1) ?_
    refine EJ_ck (fun h3 => ?_)
    refine EJ_iald 20 h3 (dk_46 (bt bc_Store_firstWaiter_0 19 rfl)) rfl ?_
    refine EJ_goto 24 (dk_167 (bt bc_Store_firstWaiter_0 20 rfl) (bt bc_Store_firstWaiter_0 21 rfl) (bt bc_Store_firstWaiter_0 22 rfl) (n := 4) rfl) (by decide) ?_
    exact EJ_iret rfl (dk_172 (bt bc_Store_firstWaiter_0 24 rfl))
abbrev Y_Store_share : Ym := (⟨"RiceHall$Store", "share", "()I"⟩, prog_12_method_10_code, 2, (some FieldType.int))
theorem bc_Store_share_0 : bts prog_12_method_10_code 0 [42, 182, 0, 69, 60, 27, 157, 0, 8, 16, 100, 167, 0, 17, 16, 100, 42, 180, 0, 40, 16, 100, 104, 27, 108, 184, 0, 46, 172] := bts_of (by decide +kernel)
theorem hd_Store_share : Y_Store_share.1.cls = RX10 ∧ Y_Store_share.1.cls ≠ "java/lang/invoke/MethodHandle" ∧ Y_Store_share.1.cls ≠ "java/lang/invoke/VarHandle" ∧ (parseMethodDescriptor Y_Store_share.1.desc).map (fun d => d.parameters.length) = some 0 := by decide +kernel
def Store_share (M : Mm) (a0 : Nat) : Option (Int32 × Mm) :=
  ck (kO M a0 10 14) (
  bd (Store_out M a0) (fun r2 M3 =>
  if 0 < r2 then (
    ck (kO M3 a0 10 14) (
    ck (!decide (r2 = 0)) (
    bd (Math_min_I M3 100 (((mI M3 a0 8) * 100) / r2)) (fun r6 M7 =>
    some (r6, M7)))))
  else (
    some (100, M3))))
set_option maxRecDepth 100000 in
set_option maxHeartbeats 4000000 in
theorem s_Store_share (G : Gx) (M : Mm) (a0 : Nat) : FnS G Y_Store_share cvI 2 [.ref a0] M (Store_share M a0) := by
  refine FnS.ofE (by decide) (Nat.le_of_ble_eq_true rfl) ?_
  show EJ G Y_Store_share cvI 2 0 [(0, .ref a0)] [] M _
  unfold Store_share
  refine EJ_aload_n 1 0 (dk_42 (bt bc_Store_share_0 0 rfl)) rfl rfl ?_
  refine EJ_ck (fun h1 => ?_)
  refine EJ_callVi (Y2 := Y_Store_out) 4 cf10 (s_Store_out G _ _) (of_decide_eq_true h1) rfl (dk_182 (bt bc_Store_share_0 1 rfl) (bt bc_Store_share_0 2 rfl) (bt bc_Store_share_0 3 rfl) (n := 69) rfl) rfl tw_577 tw_466 tw_467 tw_468 hd_Store_out rfl (by decide) (Nat.le_of_ble_eq_true rfl) (fun r2 M3 => ?_)
  refine EJ_istore_n 5 (lv2 := [(1, .int _), (0, .ref _)]) (dk_60 (bt bc_Store_share_0 4 rfl)) rfl (by decide) rfl ?_
  refine EJ_iload_n 6 0 (dk_27 (bt bc_Store_share_0 5 rfl)) rfl rfl ?_
  refine EJ_if_gt 14 9 (dk_157 (bt bc_Store_share_0 6 rfl) (bt bc_Store_share_0 7 rfl) (bt bc_Store_share_0 8 rfl) (n := 8) rfl) (by decide) rfl (fun _ => ?_) (fun _ => ?_)
  · refine EJ_bipush 16 (dk_16 (bt bc_Store_share_0 14 rfl) (bt bc_Store_share_0 15 rfl) (n := 100) rfl) rfl (v := 100) kB_100 ?_
    refine EJ_aload_n 17 1 (dk_42 (bt bc_Store_share_0 16 rfl)) rfl rfl ?_
    refine EJ_ck (fun h4 => ?_)
    refine EJ_getI cf10 8 (by decide) 20 tw_408 (fun _ _ _ => rfl) (dk_180 (bt bc_Store_share_0 17 rfl) (bt bc_Store_share_0 18 rfl) (bt bc_Store_share_0 19 rfl) (n := 40) rfl) rfl (of_decide_eq_true h4) ?_
    refine EJ_bipush 22 (dk_16 (bt bc_Store_share_0 20 rfl) (bt bc_Store_share_0 21 rfl) (n := 100) rfl) rfl (v := 100) kB_100 ?_
    refine EJ_imul 23 (dk_104 (bt bc_Store_share_0 22 rfl)) rfl ?_
    refine EJ_iload_n 24 0 (dk_27 (bt bc_Store_share_0 23 rfl)) rfl rfl ?_
    refine EJ_ck (fun h5 => ?_)
    refine EJ_idiv 25 (dk_108 (bt bc_Store_share_0 24 rfl)) rfl (by simpa using h5) ?_
    refine EJ_callSi (Y2 := Y_Math_min_I) 28 (s_Math_min_I G _ _ _) rfl (dk_184 (bt bc_Store_share_0 25 rfl) (bt bc_Store_share_0 26 rfl) (bt bc_Store_share_0 27 rfl) (n := 46) rfl) rfl tw_489 tw_322 tw_9 tw_323 hd_Math_min_I rfl (by decide) (Nat.le_of_ble_eq_true rfl) (fun r6 M7 => ?_)
    exact EJ_iret rfl (dk_172 (bt bc_Store_share_0 28 rfl))
  · refine EJ_bipush 11 (dk_16 (bt bc_Store_share_0 9 rfl) (bt bc_Store_share_0 10 rfl) (n := 100) rfl) rfl (v := 100) kB_100 ?_
    refine EJ_goto 28 (dk_167 (bt bc_Store_share_0 11 rfl) (bt bc_Store_share_0 12 rfl) (bt bc_Store_share_0 13 rfl) (n := 17) rfl) (by decide) ?_
    exact EJ_iret rfl (dk_172 (bt bc_Store_share_0 28 rfl))
abbrev Y_House_new : Ym := (⟨"RiceHall$House", "<init>", "()V"⟩, prog_5_method_1_code, 1, none)
theorem bc_House_new_0 : bts prog_5_method_1_code 0 [42, 183, 0, 3, 42, 16, 24, 188, 10, 181, 0, 9, 42, 16, 16, 188, 11, 181, 0, 15, 177] := bts_of (by decide +kernel)
theorem hd_House_new : Y_House_new.1.cls ≠ "java/lang/invoke/MethodHandle" ∧ Y_House_new.1.cls ≠ "java/lang/invoke/VarHandle" ∧ (parseMethodDescriptor Y_House_new.1.desc).map (fun d => d.parameters.length) = some 0 := by decide +kernel
def House_new (M : Mm) (a0 : Nat) : Option (Unit × Mm) :=
  let M1 := nw M 20 24
  ck (kO M1 a0 3 7) (
  let M3 := sR M1 a0 0 (some (mZ M))
  let M4 := nw M3 23 16
  ck (kO M4 a0 3 7) (
  let M6 := sR M4 a0 1 (some (mZ M3))
  some ((), M6)))
set_option maxRecDepth 100000 in
set_option maxHeartbeats 4000000 in
theorem s_House_new (G : Gx) (M : Mm) (a0 : Nat) : FnS G Y_House_new cvV 1 [.ref a0] M (House_new M a0) := by
  refine FnS.ofE (by decide) (Nat.le_of_ble_eq_true rfl) ?_
  show EJ G Y_House_new cvV 1 0 [(0, .ref a0)] [] M _
  unfold House_new
  refine EJ_aload_n 1 0 (dk_42 (bt bc_House_new_0 0 rfl)) rfl rfl ?_
  refine EJ_obj 4 (dk_183 (bt bc_House_new_0 1 rfl) (bt bc_House_new_0 2 rfl) (bt bc_House_new_0 3 rfl) (n := 3) rfl) rfl tw_145 tw_27 tw_28 (by decide) (Nat.le_of_ble_eq_true rfl) ?_
  refine EJ_aload_n 5 0 (dk_42 (bt bc_House_new_0 4 rfl)) rfl rfl ?_
  refine EJ_bipush 7 (dk_16 (bt bc_House_new_0 5 rfl) (bt bc_House_new_0 6 rfl) (n := 24) rfl) rfl (v := 24) kB_24 ?_
  refine EJ_newa' 0 9 (c := 20) (N := 24) (by decide) rfl tw_61 rfl (by decide) (by decide) (dk_188_10 (bt bc_House_new_0 7 rfl) (bt bc_House_new_0 8 rfl)) rfl ?_
  refine EJ_ck (fun h2 => ?_)
  refine EJ_putR cf3 0 (by decide) 12 tw_146 (fun _ _ _ => rfl) (fun _ => rfl) (fun _ => rfl) (Or.inr ⟨rfl, rfl⟩) (dk_181 (bt bc_House_new_0 9 rfl) (bt bc_House_new_0 10 rfl) (bt bc_House_new_0 11 rfl) (n := 9) rfl) rfl (of_decide_eq_true h2) ?_
  refine EJ_aload_n 13 0 (dk_42 (bt bc_House_new_0 12 rfl)) rfl rfl ?_
  refine EJ_bipush 15 (dk_16 (bt bc_House_new_0 13 rfl) (bt bc_House_new_0 14 rfl) (n := 16) rfl) rfl (v := 16) kB_16 ?_
  refine EJ_newa' 3 17 (c := 23) (N := 16) (by decide) rfl tw_171 rfl (by decide) (by decide) (dk_188_11 (bt bc_House_new_0 15 rfl) (bt bc_House_new_0 16 rfl)) rfl ?_
  refine EJ_ck (fun h5 => ?_)
  refine EJ_putR cf3 1 (by decide) 20 tw_147 (fun _ _ _ => rfl) (fun _ => rfl) (fun _ => rfl) (Or.inr ⟨rfl, rfl⟩) (dk_181 (bt bc_House_new_0 17 rfl) (bt bc_House_new_0 18 rfl) (bt bc_House_new_0 19 rfl) (n := 15) rfl) rfl (of_decide_eq_true h5) ?_
  exact EJ_vret rfl (dk_177 (bt bc_House_new_0 20 rfl))
abbrev Y_House_latestClose : Ym := (⟨"RiceHall$House", "latestClose", "()I"⟩, prog_5_method_2_code, 1, (some FieldType.int))
theorem bc_House_latestClose_0 : bts prog_5_method_2_code 0 [42, 180, 0, 19, 158, 0, 17, 42, 180, 0, 9, 42, 180, 0, 19, 4, 100, 46, 167, 0, 4, 3, 172] := bts_of (by decide +kernel)
theorem hd_House_latestClose : Y_House_latestClose.1.cls = RX3 ∧ Y_House_latestClose.1.cls ≠ "java/lang/invoke/MethodHandle" ∧ Y_House_latestClose.1.cls ≠ "java/lang/invoke/VarHandle" ∧ (parseMethodDescriptor Y_House_latestClose.1.desc).map (fun d => d.parameters.length) = some 0 := by decide +kernel
def House_latestClose (M : Mm) (a0 : Nat) : Option (Int32 × Mm) :=
  ck (kO M a0 3 7) (
  if (mI M a0 2) ≤ 0 then (
    some (0, M))
  else (
    nn (mR M a0 0) (fun b2 =>
    ck (kA M b2 20 ((mI M a0 2) - 1)) (
    some (mI M b2 (ix ((mI M a0 2) - 1)), M)))))
set_option maxRecDepth 100000 in
set_option maxHeartbeats 4000000 in
theorem s_House_latestClose (G : Gx) (M : Mm) (a0 : Nat) : FnS G Y_House_latestClose cvI 1 [.ref a0] M (House_latestClose M a0) := by
  refine FnS.ofE (by decide) (Nat.le_of_ble_eq_true rfl) ?_
  show EJ G Y_House_latestClose cvI 1 0 [(0, .ref a0)] [] M _
  unfold House_latestClose
  refine EJ_aload_n 1 0 (dk_42 (bt bc_House_latestClose_0 0 rfl)) rfl rfl ?_
  refine EJ_ck (fun h1 => ?_)
  refine EJ_getI cf3 2 (by decide) 4 tw_148 (fun _ _ _ => rfl) (dk_180 (bt bc_House_latestClose_0 1 rfl) (bt bc_House_latestClose_0 2 rfl) (bt bc_House_latestClose_0 3 rfl) (n := 19) rfl) rfl (of_decide_eq_true h1) ?_
  refine EJ_if_le 21 7 (dk_158 (bt bc_House_latestClose_0 4 rfl) (bt bc_House_latestClose_0 5 rfl) (bt bc_House_latestClose_0 6 rfl) (n := 17) rfl) (by decide) rfl (fun _ => ?_) (fun _ => ?_)
  · refine EJ_iconst 22 (dk_3 (bt bc_House_latestClose_0 21 rfl)) rfl (v := 0) kI_0 ?_
    exact EJ_iret rfl (dk_172 (bt bc_House_latestClose_0 22 rfl))
  · refine EJ_aload_n 8 0 (dk_42 (bt bc_House_latestClose_0 7 rfl)) rfl rfl ?_
    refine EJ_getR cf3 0 (by decide) 11 tw_146 (fun _ _ _ => rfl) (dk_180 (bt bc_House_latestClose_0 8 rfl) (bt bc_House_latestClose_0 9 rfl) (bt bc_House_latestClose_0 10 rfl) (n := 9) rfl) rfl (of_decide_eq_true h1) (fun b2 => ?_)
    refine EJ_aload_n 12 0 (dk_42 (bt bc_House_latestClose_0 11 rfl)) rfl rfl ?_
    refine EJ_getI cf3 2 (by decide) 15 tw_148 (fun _ _ _ => rfl) (dk_180 (bt bc_House_latestClose_0 12 rfl) (bt bc_House_latestClose_0 13 rfl) (bt bc_House_latestClose_0 14 rfl) (n := 19) rfl) rfl (of_decide_eq_true h1) ?_
    refine EJ_iconst 16 (dk_4 (bt bc_House_latestClose_0 15 rfl)) rfl (v := 1) kI_1 ?_
    refine EJ_isub 17 (dk_100 (bt bc_House_latestClose_0 16 rfl)) rfl ?_
    refine EJ_ck (fun h3 => ?_)
    refine EJ_iald 18 h3 (dk_46 (bt bc_House_latestClose_0 17 rfl)) rfl ?_
    refine EJ_goto 22 (dk_167 (bt bc_House_latestClose_0 18 rfl) (bt bc_House_latestClose_0 19 rfl) (bt bc_House_latestClose_0 20 rfl) (n := 4) rfl) (by decide) ?_
    exact EJ_iret rfl (dk_172 (bt bc_House_latestClose_0 22 rfl))
abbrev Y_House_mark : Ym := (⟨"RiceHall$House", "mark", "([LRiceHall$Person;II)V"⟩, prog_5_method_6_code, 7, none)
theorem bc_House_mark_0 : bts prog_5_method_6_code 0 [29, 42, 182, 0, 42, 100, 133, 55, 4, 3, 54, 6, 21, 6, 28, 162, 0, 32, 43, 21, 6, 50, 89, 180, 0, 27, 43, 21, 6, 50, 180, 0] := bts_of (by decide +kernel)
theorem bc_House_mark_1 : bts prog_5_method_6_code 32 [46, 133, 22, 4, 105, 97, 181, 0, 27, 132, 6, 1, 167, 255, 224, 42, 89, 180, 0, 23, 42, 180, 0, 49, 133, 22, 4, 105, 97, 181, 0, 23] := bts_of (by decide +kernel)
theorem bc_House_mark_2 : bts prog_5_method_6_code 64 [177] := bts_of (by decide +kernel)
theorem hd_House_mark : Y_House_mark.1.cls = RX3 ∧ Y_House_mark.1.cls ≠ "java/lang/invoke/MethodHandle" ∧ Y_House_mark.1.cls ≠ "java/lang/invoke/VarHandle" ∧ (parseMethodDescriptor Y_House_mark.1.desc).map (fun d => d.parameters.length) = some 3 := by decide +kernel
def House_mark_B12 (k12 : Nat → Nat → Int32 → Int64 → Int32 → Mm → Option (Unit × Mm)) (x0 : Nat) (x1 : Nat) (x2 : Int32) (x4 : Int64) (x6 : Int32) (M : Mm) : Option (Unit × Mm) :=
  if x2 ≤ x6 then (
    ck (kO M x0 3 7) (
    let M6 := sL M x0 4 ((mL M x0 4) + ((Int32.toInt64 (mI M x0 3)) * x4))
    some ((), M6)))
  else (
    ck (kA M x1 24 x6) (
    nn (mR M x1 (ix x6)) (fun b8 =>
    ck (kO M b8 6 9) (
    nn (mR M x1 (ix x6)) (fun b10 =>
    ck (kO M b10 6 9) (
    let M12 := sL M b8 3 ((mL M b8 3) + ((Int32.toInt64 (mI M b10 4)) * x4))
    let v13 : Int32 := x6 + 1
    k12 x0 x1 x2 x4 v13 M12))))))
set_option maxRecDepth 100000 in
set_option maxHeartbeats 4000000 in
theorem e_House_mark_B12 {G : Gx} (k12 : Nat → Nat → Int32 → Int64 → Int32 → Mm → Option (Unit × Mm)) (hk12 : ∀ (x0 : Nat) (x1 : Nat) (x2 : Int32) (x4 : Int64) (x6 : Int32) (M : Mm), EJ G Y_House_mark cvV 2 12 [(0, .ref x0), (1, .ref x1), (2, .int x2), (4, .long x4), (6, .int x6)] [] M (k12 x0 x1 x2 x4 x6 M)) (x0 : Nat) (x1 : Nat) (x2 : Int32) (x4 : Int64) (x6 : Int32) (M : Mm) : EJ G Y_House_mark cvV 2 12 [(0, .ref x0), (1, .ref x1), (2, .int x2), (4, .long x4), (6, .int x6)] [] M (House_mark_B12 k12 x0 x1 x2 x4 x6 M) := by
  unfold House_mark_B12
  refine EJ_iload 14 4 (dk_21 (bt bc_House_mark_0 12 rfl) (bt bc_House_mark_0 13 rfl)) rfl rfl ?_
  refine EJ_iload_n 15 2 (dk_28 (bt bc_House_mark_0 14 rfl)) rfl rfl ?_
  refine EJ_icmp_ge 47 18 (dk_162 (bt bc_House_mark_0 15 rfl) (bt bc_House_mark_0 16 rfl) (bt bc_House_mark_0 17 rfl) (n := 32) rfl) (by decide) rfl (fun _ => ?_) (fun _ => ?_)
  · refine EJ_aload_n 48 0 (dk_42 (bt bc_House_mark_1 15 rfl)) rfl rfl ?_
    refine EJ_dup 49 (dk_89 (bt bc_House_mark_1 16 rfl)) rfl rfl ?_
    refine EJ_ck (fun h5 => ?_)
    refine EJ_getL cf3 4 (by decide) 52 tw_152 (fun _ _ _ => rfl) (dk_180 (bt bc_House_mark_1 17 rfl) (bt bc_House_mark_1 18 rfl) (bt bc_House_mark_1 19 rfl) (n := 23) rfl) rfl (of_decide_eq_true h5) ?_
    refine EJ_aload_n 53 0 (dk_42 (bt bc_House_mark_1 20 rfl)) rfl rfl ?_
    refine EJ_getI cf3 3 (by decide) 56 tw_150 (fun _ _ _ => rfl) (dk_180 (bt bc_House_mark_1 21 rfl) (bt bc_House_mark_1 22 rfl) (bt bc_House_mark_1 23 rfl) (n := 49) rfl) rfl (of_decide_eq_true h5) ?_
    refine EJ_i2l 57 (dk_133 (bt bc_House_mark_1 24 rfl)) rfl ?_
    refine EJ_lload 59 3 (dk_22 (bt bc_House_mark_1 25 rfl) (bt bc_House_mark_1 26 rfl)) rfl rfl ?_
    refine EJ_lmul 60 (dk_105 (bt bc_House_mark_1 27 rfl)) rfl ?_
    refine EJ_ladd 61 (dk_97 (bt bc_House_mark_1 28 rfl)) rfl ?_
    refine EJ_putL cf3 4 (by decide) 64 tw_152 rfl (Or.inl rfl) (dk_181 (bt bc_House_mark_1 29 rfl) (bt bc_House_mark_1 30 rfl) (bt bc_House_mark_1 31 rfl) (n := 23) rfl) rfl (of_decide_eq_true h5) ?_
    exact EJ_vret rfl (dk_177 (bt bc_House_mark_2 0 rfl))
  · refine EJ_aload_n 19 1 (dk_43 (bt bc_House_mark_0 18 rfl)) rfl rfl ?_
    refine EJ_iload 21 4 (dk_21 (bt bc_House_mark_0 19 rfl) (bt bc_House_mark_0 20 rfl)) rfl rfl ?_
    refine EJ_ck (fun h7 => ?_)
    refine EJ_aald 4 22 (by decide) (by decide) rfl h7 (dk_50 (bt bc_House_mark_0 21 rfl)) rfl (fun b8 => ?_)
    refine EJ_dup 23 (dk_89 (bt bc_House_mark_0 22 rfl)) rfl rfl ?_
    refine EJ_ck (fun h9 => ?_)
    refine EJ_getL cf6 3 (by decide) 26 tw_346 (fun _ _ _ => rfl) (dk_180 (bt bc_House_mark_0 23 rfl) (bt bc_House_mark_0 24 rfl) (bt bc_House_mark_0 25 rfl) (n := 27) rfl) rfl (of_decide_eq_true h9) ?_
    refine EJ_aload_n 27 1 (dk_43 (bt bc_House_mark_0 26 rfl)) rfl rfl ?_
    refine EJ_iload 29 4 (dk_21 (bt bc_House_mark_0 27 rfl) (bt bc_House_mark_0 28 rfl)) rfl rfl ?_
    refine EJ_aald 4 30 (by decide) (by decide) rfl h7 (dk_50 (bt bc_House_mark_0 29 rfl)) rfl (fun b10 => ?_)
    refine EJ_ck (fun h11 => ?_)
    refine EJ_getI cf6 4 (by decide) 33 tw_349 (fun _ _ _ => rfl) (dk_180 (bt bc_House_mark_0 30 rfl) (bt bc_House_mark_0 31 rfl) (bt bc_House_mark_1 0 rfl) (n := 46) rfl) rfl (of_decide_eq_true h11) ?_
    refine EJ_i2l 34 (dk_133 (bt bc_House_mark_1 1 rfl)) rfl ?_
    refine EJ_lload 36 3 (dk_22 (bt bc_House_mark_1 2 rfl) (bt bc_House_mark_1 3 rfl)) rfl rfl ?_
    refine EJ_lmul 37 (dk_105 (bt bc_House_mark_1 4 rfl)) rfl ?_
    refine EJ_ladd 38 (dk_97 (bt bc_House_mark_1 5 rfl)) rfl ?_
    refine EJ_putL cf6 3 (by decide) 41 tw_346 rfl (Or.inl rfl) (dk_181 (bt bc_House_mark_1 6 rfl) (bt bc_House_mark_1 7 rfl) (bt bc_House_mark_1 8 rfl) (n := 27) rfl) rfl (of_decide_eq_true h9) ?_
    refine EJ_iinc 44 4 (lv2 := [(6, .int _), (0, .ref _), (1, .ref _), (2, .int _), (4, .long _)]) (dk_132 (bt bc_House_mark_1 9 rfl) (bt bc_House_mark_1 10 rfl) (bt bc_House_mark_1 11 rfl) (n := 1) rfl) rfl (by decide) rfl (v := 1) kI_1 rfl ?_
    refine EJ_goto 12 (dk_167 (bt bc_House_mark_1 12 rfl) (bt bc_House_mark_1 13 rfl) (bt bc_House_mark_1 14 rfl) (n := -32) rfl) (by decide) ?_
    exact EJ_pick (lv2 := [(0, .ref _), (1, .ref _), (2, .int _), (4, .long _), (6, .int _)]) [1, 2, 3, 4, 0] rfl (hk12 _ _ _ _ _ _)
def House_mark_L12 (n : Nat) : Nat → Nat → Int32 → Int64 → Int32 → Mm → Option (Unit × Mm) :=
  match n with
  | 0 => fun _ _ _ _ _ _ => none
  | n + 1 => House_mark_B12 (House_mark_L12 n)
theorem e_House_mark_L12 {G : Gx} : ∀ (n : Nat) (x0 : Nat) (x1 : Nat) (x2 : Int32) (x4 : Int64) (x6 : Int32) (M : Mm), EJ G Y_House_mark cvV 2 12 [(0, .ref x0), (1, .ref x1), (2, .int x2), (4, .long x4), (6, .int x6)] [] M (House_mark_L12 n x0 x1 x2 x4 x6 M) := by
  intro n
  induction n with
  | zero => intros; exact EJ_none
  | succ n ih => intro x0 x1 x2 x4 x6 M; exact e_House_mark_B12 _ ih x0 x1 x2 x4 x6 M
def House_mark (M : Mm) (a0 : Nat) (a1 : Nat) (a2 : Int32) (a3 : Int32) : Option (Unit × Mm) :=
  ck (kO M a0 3 7) (
  bd (House_latestClose M a0) (fun r2 M3 =>
  let v4 : Int64 := Int32.toInt64 (a3 - r2)
  House_mark_L12 fu a0 a1 a2 v4 0 M3))
set_option maxRecDepth 100000 in
set_option maxHeartbeats 4000000 in
theorem s_House_mark (G : Gx) (M : Mm) (a0 : Nat) (a1 : Nat) (a2 : Int32) (a3 : Int32) : FnS G Y_House_mark cvV 2 [.ref a0, .ref a1, .int a2, .int a3] M (House_mark M a0 a1 a2 a3) := by
  refine FnS.ofE (by decide) (Nat.le_of_ble_eq_true rfl) ?_
  show EJ G Y_House_mark cvV 2 0 [(0, .ref a0), (1, .ref a1), (2, .int a2), (3, .int a3)] [] M _
  unfold House_mark
  refine EJ_iload_n 1 3 (dk_29 (bt bc_House_mark_0 0 rfl)) rfl rfl ?_
  refine EJ_aload_n 2 0 (dk_42 (bt bc_House_mark_0 1 rfl)) rfl rfl ?_
  refine EJ_ck (fun h1 => ?_)
  refine EJ_callVi (Y2 := Y_House_latestClose) 5 cf3 (s_House_latestClose G _ _) (of_decide_eq_true h1) rfl (dk_182 (bt bc_House_mark_0 2 rfl) (bt bc_House_mark_0 3 rfl) (bt bc_House_mark_0 4 rfl) (n := 42) rfl) rfl tw_1058 tw_512 tw_513 tw_514 hd_House_latestClose rfl (by decide) (Nat.le_of_ble_eq_true rfl) (fun r2 M3 => ?_)
  refine EJ_isub 6 (dk_100 (bt bc_House_mark_0 5 rfl)) rfl ?_
  refine EJ_i2l 7 (dk_133 (bt bc_House_mark_0 6 rfl)) rfl ?_
  refine EJ_lstore 9 (lv2 := [(4, .long _), (0, .ref _), (1, .ref _), (2, .int _), (3, .int _)]) (dk_55 (bt bc_House_mark_0 7 rfl) (bt bc_House_mark_0 8 rfl)) rfl (by decide) rfl ?_
  refine EJ_iconst 10 (dk_3 (bt bc_House_mark_0 9 rfl)) rfl (v := 0) kI_0 ?_
  refine EJ_istore 12 (lv2 := [(6, .int _), (4, .long _), (0, .ref _), (1, .ref _), (2, .int _), (3, .int _)]) (dk_54 (bt bc_House_mark_0 10 rfl) (bt bc_House_mark_0 11 rfl)) rfl (by decide) rfl ?_
  exact EJ_pick (lv2 := [(0, .ref _), (1, .ref _), (2, .int _), (4, .long _), (6, .int _)]) [2, 3, 4, 1, 0] rfl (e_House_mark_L12 fu _ _ _ _ _ _)
abbrev Y_House_enter : Ym := (⟨"RiceHall$House", "enter", "([LRiceHall$Person;LRiceHall$Session;)V"⟩, prog_5_method_7_code, 7, none)
theorem bc_House_enter_0 : bts prog_5_method_7_code 0 [3, 62, 29, 44, 180, 0, 50, 162, 0, 111, 44, 180, 0, 55, 29, 50, 58, 4, 25, 4, 180, 0, 59, 133, 44, 180, 0, 64, 25, 4, 180, 0] := bts_of (by decide +kernel)
theorem bc_House_enter_1 : bts prog_5_method_7_code 32 [67, 100, 133, 105, 55, 5, 43, 25, 4, 180, 0, 70, 50, 89, 180, 0, 46, 25, 4, 180, 0, 59, 96, 181, 0, 46, 43, 25, 4, 180, 0, 70] := bts_of (by decide +kernel)
theorem bc_House_enter_2 : bts prog_5_method_7_code 64 [50, 89, 180, 0, 27, 22, 5, 97, 181, 0, 27, 43, 25, 4, 180, 0, 73, 50, 89, 180, 0, 46, 25, 4, 180, 0, 59, 100, 181, 0, 46, 43] := bts_of (by decide +kernel)
theorem bc_House_enter_3 : bts prog_5_method_7_code 96 [25, 4, 180, 0, 73, 50, 89, 180, 0, 27, 22, 5, 101, 181, 0, 27, 132, 3, 1, 167, 255, 143, 177] := bts_of (by decide +kernel)
theorem hd_House_enter : Y_House_enter.1.cls = RX3 ∧ Y_House_enter.1.cls ≠ "java/lang/invoke/MethodHandle" ∧ Y_House_enter.1.cls ≠ "java/lang/invoke/VarHandle" ∧ (parseMethodDescriptor Y_House_enter.1.desc).map (fun d => d.parameters.length) = some 2 := by decide +kernel
def House_enter_B2 (k2 : Nat → Nat → Int32 → Mm → Option (Unit × Mm)) (x1 : Nat) (x2 : Nat) (x3 : Int32) (M : Mm) : Option (Unit × Mm) :=
  ck (kO M x2 9 11) (
  if (mI M x2 5) ≤ x3 then (
    some ((), M))
  else (
    nn (mR M x2 3) (fun b2 =>
    ck (kA M b2 29 x3) (
    nn (mR M b2 (ix x3)) (fun b4 =>
    ck (kO M b4 0 14) (
    let v6 : Int64 := (Int32.toInt64 (mI M b4 12)) * (Int32.toInt64 ((mI M x2 9) - (mI M b4 13)))
    ck (kA M x1 24 (mI M b4 0)) (
    nn (mR M x1 (ix (mI M b4 0))) (fun b8 =>
    ck (kO M b8 6 9) (
    let M10 := sI M b8 4 ((mI M b8 4) + (mI M b4 12))
    ck (kA M10 x1 24 (mI M10 b4 0)) (
    nn (mR M10 x1 (ix (mI M10 b4 0))) (fun b12 =>
    ck (kO M10 b12 6 9) (
    let M14 := sL M10 b12 3 ((mL M10 b12 3) + v6)
    ck (kA M14 x1 24 (mI M14 b4 1)) (
    nn (mR M14 x1 (ix (mI M14 b4 1))) (fun b16 =>
    ck (kO M14 b16 6 9) (
    let M18 := sI M14 b16 4 ((mI M14 b16 4) - (mI M14 b4 12))
    ck (kA M18 x1 24 (mI M18 b4 1)) (
    nn (mR M18 x1 (ix (mI M18 b4 1))) (fun b20 =>
    ck (kO M18 b20 6 9) (
    let M22 := sL M18 b20 3 ((mL M18 b20 3) - v6)
    let v23 : Int32 := x3 + 1
    k2 x1 x2 v23 M22))))))))))))))))))
set_option maxRecDepth 100000 in
set_option maxHeartbeats 4000000 in
theorem e_House_enter_B2 {G : Gx} (k2 : Nat → Nat → Int32 → Mm → Option (Unit × Mm)) (hk2 : ∀ (x1 : Nat) (x2 : Nat) (x3 : Int32) (M : Mm), EJ G Y_House_enter cvV 1 2 [(1, .ref x1), (2, .ref x2), (3, .int x3)] [] M (k2 x1 x2 x3 M)) (x1 : Nat) (x2 : Nat) (x3 : Int32) (M : Mm) : EJ G Y_House_enter cvV 1 2 [(1, .ref x1), (2, .ref x2), (3, .int x3)] [] M (House_enter_B2 k2 x1 x2 x3 M) := by
  unfold House_enter_B2
  refine EJ_iload_n 3 2 (dk_29 (bt bc_House_enter_0 2 rfl)) rfl rfl ?_
  refine EJ_aload_n 4 1 (dk_44 (bt bc_House_enter_0 3 rfl)) rfl rfl ?_
  refine EJ_ck (fun h1 => ?_)
  refine EJ_getI cf9 5 (by decide) 7 tw_838 (fun _ _ _ => rfl) (dk_180 (bt bc_House_enter_0 4 rfl) (bt bc_House_enter_0 5 rfl) (bt bc_House_enter_0 6 rfl) (n := 50) rfl) rfl (of_decide_eq_true h1) ?_
  refine EJ_icmp_ge 118 10 (dk_162 (bt bc_House_enter_0 7 rfl) (bt bc_House_enter_0 8 rfl) (bt bc_House_enter_0 9 rfl) (n := 111) rfl) (by decide) rfl (fun _ => ?_) (fun _ => ?_)
  · exact EJ_vret rfl (dk_177 (bt bc_House_enter_3 22 rfl))
  · refine EJ_aload_n 11 1 (dk_44 (bt bc_House_enter_0 10 rfl)) rfl rfl ?_
    refine EJ_getR cf9 3 (by decide) 14 tw_833 (fun _ _ _ => rfl) (dk_180 (bt bc_House_enter_0 11 rfl) (bt bc_House_enter_0 12 rfl) (bt bc_House_enter_0 13 rfl) (n := 55) rfl) rfl (of_decide_eq_true h1) (fun b2 => ?_)
    refine EJ_iload_n 15 2 (dk_29 (bt bc_House_enter_0 14 rfl)) rfl rfl ?_
    refine EJ_ck (fun h3 => ?_)
    refine EJ_aald 9 16 (by decide) (by decide) rfl h3 (dk_50 (bt bc_House_enter_0 15 rfl)) rfl (fun b4 => ?_)
    refine EJ_astore 18 (lv2 := [(4, .ref _), (1, .ref _), (2, .ref _), (3, .int _)]) (dk_58 (bt bc_House_enter_0 16 rfl) (bt bc_House_enter_0 17 rfl)) rfl (by decide) rfl ?_
    refine EJ_aload 20 0 (dk_25 (bt bc_House_enter_0 18 rfl) (bt bc_House_enter_0 19 rfl)) rfl rfl ?_
    refine EJ_ck (fun h5 => ?_)
    refine EJ_getI cf0 12 (by decide) 23 tw_962 (fun _ _ _ => rfl) (dk_180 (bt bc_House_enter_0 20 rfl) (bt bc_House_enter_0 21 rfl) (bt bc_House_enter_0 22 rfl) (n := 59) rfl) rfl (of_decide_eq_true h5) ?_
    refine EJ_i2l 24 (dk_133 (bt bc_House_enter_0 23 rfl)) rfl ?_
    refine EJ_aload_n 25 2 (dk_44 (bt bc_House_enter_0 24 rfl)) rfl rfl ?_
    refine EJ_getI cf9 9 (by decide) 28 tw_847 (fun _ _ _ => rfl) (dk_180 (bt bc_House_enter_0 25 rfl) (bt bc_House_enter_0 26 rfl) (bt bc_House_enter_0 27 rfl) (n := 64) rfl) rfl (of_decide_eq_true h1) ?_
    refine EJ_aload 30 0 (dk_25 (bt bc_House_enter_0 28 rfl) (bt bc_House_enter_0 29 rfl)) rfl rfl ?_
    refine EJ_getI cf0 13 (by decide) 33 tw_966 (fun _ _ _ => rfl) (dk_180 (bt bc_House_enter_0 30 rfl) (bt bc_House_enter_0 31 rfl) (bt bc_House_enter_1 0 rfl) (n := 67) rfl) rfl (of_decide_eq_true h5) ?_
    refine EJ_isub 34 (dk_100 (bt bc_House_enter_1 1 rfl)) rfl ?_
    refine EJ_i2l 35 (dk_133 (bt bc_House_enter_1 2 rfl)) rfl ?_
    refine EJ_lmul 36 (dk_105 (bt bc_House_enter_1 3 rfl)) rfl ?_
    refine EJ_lstore 38 (lv2 := [(5, .long _), (4, .ref _), (1, .ref _), (2, .ref _), (3, .int _)]) (dk_55 (bt bc_House_enter_1 4 rfl) (bt bc_House_enter_1 5 rfl)) rfl (by decide) rfl ?_
    refine EJ_aload_n 39 2 (dk_43 (bt bc_House_enter_1 6 rfl)) rfl rfl ?_
    refine EJ_aload 41 1 (dk_25 (bt bc_House_enter_1 7 rfl) (bt bc_House_enter_1 8 rfl)) rfl rfl ?_
    refine EJ_getI cf0 0 (by decide) 44 tw_941 (fun _ _ _ => rfl) (dk_180 (bt bc_House_enter_1 9 rfl) (bt bc_House_enter_1 10 rfl) (bt bc_House_enter_1 11 rfl) (n := 70) rfl) rfl (of_decide_eq_true h5) ?_
    refine EJ_ck (fun h7 => ?_)
    refine EJ_aald 4 45 (by decide) (by decide) rfl h7 (dk_50 (bt bc_House_enter_1 12 rfl)) rfl (fun b8 => ?_)
    refine EJ_dup 46 (dk_89 (bt bc_House_enter_1 13 rfl)) rfl rfl ?_
    refine EJ_ck (fun h9 => ?_)
    refine EJ_getI cf6 4 (by decide) 49 tw_349 (fun _ _ _ => rfl) (dk_180 (bt bc_House_enter_1 14 rfl) (bt bc_House_enter_1 15 rfl) (bt bc_House_enter_1 16 rfl) (n := 46) rfl) rfl (of_decide_eq_true h9) ?_
    refine EJ_aload 51 1 (dk_25 (bt bc_House_enter_1 17 rfl) (bt bc_House_enter_1 18 rfl)) rfl rfl ?_
    refine EJ_getI cf0 12 (by decide) 54 tw_962 (fun _ _ _ => rfl) (dk_180 (bt bc_House_enter_1 19 rfl) (bt bc_House_enter_1 20 rfl) (bt bc_House_enter_1 21 rfl) (n := 59) rfl) rfl (of_decide_eq_true h5) ?_
    refine EJ_iadd 55 (dk_96 (bt bc_House_enter_1 22 rfl)) rfl ?_
    refine EJ_putI cf6 4 (by decide) 58 tw_349 rfl (Or.inl rfl) (dk_181 (bt bc_House_enter_1 23 rfl) (bt bc_House_enter_1 24 rfl) (bt bc_House_enter_1 25 rfl) (n := 46) rfl) rfl (of_decide_eq_true h9) ?_
    refine EJ_aload_n 59 2 (dk_43 (bt bc_House_enter_1 26 rfl)) rfl rfl ?_
    refine EJ_aload 61 1 (dk_25 (bt bc_House_enter_1 27 rfl) (bt bc_House_enter_1 28 rfl)) rfl rfl ?_
    refine EJ_getI cf0 0 (by decide) 64 tw_941 (fun _ _ _ => rfl) (dk_180 (bt bc_House_enter_1 29 rfl) (bt bc_House_enter_1 30 rfl) (bt bc_House_enter_1 31 rfl) (n := 70) rfl) rfl (kp_I (of_decide_eq_true h5)) ?_
    refine EJ_ck (fun h11 => ?_)
    refine EJ_aald 4 65 (by decide) (by decide) rfl h11 (dk_50 (bt bc_House_enter_2 0 rfl)) rfl (fun b12 => ?_)
    refine EJ_dup 66 (dk_89 (bt bc_House_enter_2 1 rfl)) rfl rfl ?_
    refine EJ_ck (fun h13 => ?_)
    refine EJ_getL cf6 3 (by decide) 69 tw_346 (fun _ _ _ => rfl) (dk_180 (bt bc_House_enter_2 2 rfl) (bt bc_House_enter_2 3 rfl) (bt bc_House_enter_2 4 rfl) (n := 27) rfl) rfl (of_decide_eq_true h13) ?_
    refine EJ_lload 71 0 (dk_22 (bt bc_House_enter_2 5 rfl) (bt bc_House_enter_2 6 rfl)) rfl rfl ?_
    refine EJ_ladd 72 (dk_97 (bt bc_House_enter_2 7 rfl)) rfl ?_
    refine EJ_putL cf6 3 (by decide) 75 tw_346 rfl (Or.inl rfl) (dk_181 (bt bc_House_enter_2 8 rfl) (bt bc_House_enter_2 9 rfl) (bt bc_House_enter_2 10 rfl) (n := 27) rfl) rfl (of_decide_eq_true h13) ?_
    refine EJ_aload_n 76 2 (dk_43 (bt bc_House_enter_2 11 rfl)) rfl rfl ?_
    refine EJ_aload 78 1 (dk_25 (bt bc_House_enter_2 12 rfl) (bt bc_House_enter_2 13 rfl)) rfl rfl ?_
    refine EJ_getI cf0 1 (by decide) 81 tw_944 (fun _ _ _ => rfl) (dk_180 (bt bc_House_enter_2 14 rfl) (bt bc_House_enter_2 15 rfl) (bt bc_House_enter_2 16 rfl) (n := 73) rfl) rfl (kp_L (kp_I (of_decide_eq_true h5))) ?_
    refine EJ_ck (fun h15 => ?_)
    refine EJ_aald 4 82 (by decide) (by decide) rfl h15 (dk_50 (bt bc_House_enter_2 17 rfl)) rfl (fun b16 => ?_)
    refine EJ_dup 83 (dk_89 (bt bc_House_enter_2 18 rfl)) rfl rfl ?_
    refine EJ_ck (fun h17 => ?_)
    refine EJ_getI cf6 4 (by decide) 86 tw_349 (fun _ _ _ => rfl) (dk_180 (bt bc_House_enter_2 19 rfl) (bt bc_House_enter_2 20 rfl) (bt bc_House_enter_2 21 rfl) (n := 46) rfl) rfl (of_decide_eq_true h17) ?_
    refine EJ_aload 88 1 (dk_25 (bt bc_House_enter_2 22 rfl) (bt bc_House_enter_2 23 rfl)) rfl rfl ?_
    refine EJ_getI cf0 12 (by decide) 91 tw_962 (fun _ _ _ => rfl) (dk_180 (bt bc_House_enter_2 24 rfl) (bt bc_House_enter_2 25 rfl) (bt bc_House_enter_2 26 rfl) (n := 59) rfl) rfl (kp_L (kp_I (of_decide_eq_true h5))) ?_
    refine EJ_isub 92 (dk_100 (bt bc_House_enter_2 27 rfl)) rfl ?_
    refine EJ_putI cf6 4 (by decide) 95 tw_349 rfl (Or.inl rfl) (dk_181 (bt bc_House_enter_2 28 rfl) (bt bc_House_enter_2 29 rfl) (bt bc_House_enter_2 30 rfl) (n := 46) rfl) rfl (of_decide_eq_true h17) ?_
    refine EJ_aload_n 96 2 (dk_43 (bt bc_House_enter_2 31 rfl)) rfl rfl ?_
    refine EJ_aload 98 1 (dk_25 (bt bc_House_enter_3 0 rfl) (bt bc_House_enter_3 1 rfl)) rfl rfl ?_
    refine EJ_getI cf0 1 (by decide) 101 tw_944 (fun _ _ _ => rfl) (dk_180 (bt bc_House_enter_3 2 rfl) (bt bc_House_enter_3 3 rfl) (bt bc_House_enter_3 4 rfl) (n := 73) rfl) rfl (kp_I (kp_L (kp_I (of_decide_eq_true h5)))) ?_
    refine EJ_ck (fun h19 => ?_)
    refine EJ_aald 4 102 (by decide) (by decide) rfl h19 (dk_50 (bt bc_House_enter_3 5 rfl)) rfl (fun b20 => ?_)
    refine EJ_dup 103 (dk_89 (bt bc_House_enter_3 6 rfl)) rfl rfl ?_
    refine EJ_ck (fun h21 => ?_)
    refine EJ_getL cf6 3 (by decide) 106 tw_346 (fun _ _ _ => rfl) (dk_180 (bt bc_House_enter_3 7 rfl) (bt bc_House_enter_3 8 rfl) (bt bc_House_enter_3 9 rfl) (n := 27) rfl) rfl (of_decide_eq_true h21) ?_
    refine EJ_lload 108 0 (dk_22 (bt bc_House_enter_3 10 rfl) (bt bc_House_enter_3 11 rfl)) rfl rfl ?_
    refine EJ_lsub 109 (dk_101 (bt bc_House_enter_3 12 rfl)) rfl ?_
    refine EJ_putL cf6 3 (by decide) 112 tw_346 rfl (Or.inl rfl) (dk_181 (bt bc_House_enter_3 13 rfl) (bt bc_House_enter_3 14 rfl) (bt bc_House_enter_3 15 rfl) (n := 27) rfl) rfl (of_decide_eq_true h21) ?_
    refine EJ_iinc 115 4 (lv2 := [(3, .int _), (5, .long _), (4, .ref _), (1, .ref _), (2, .ref _)]) (dk_132 (bt bc_House_enter_3 16 rfl) (bt bc_House_enter_3 17 rfl) (bt bc_House_enter_3 18 rfl) (n := 1) rfl) rfl (by decide) rfl (v := 1) kI_1 rfl ?_
    refine EJ_goto 2 (dk_167 (bt bc_House_enter_3 19 rfl) (bt bc_House_enter_3 20 rfl) (bt bc_House_enter_3 21 rfl) (n := -113) rfl) (by decide) ?_
    exact EJ_pick (lv2 := [(1, .ref _), (2, .ref _), (3, .int _)]) [3, 4, 0] rfl (hk2 _ _ _ _)
def House_enter_L2 (n : Nat) : Nat → Nat → Int32 → Mm → Option (Unit × Mm) :=
  match n with
  | 0 => fun _ _ _ _ => none
  | n + 1 => House_enter_B2 (House_enter_L2 n)
theorem e_House_enter_L2 {G : Gx} : ∀ (n : Nat) (x1 : Nat) (x2 : Nat) (x3 : Int32) (M : Mm), EJ G Y_House_enter cvV 1 2 [(1, .ref x1), (2, .ref x2), (3, .int x3)] [] M (House_enter_L2 n x1 x2 x3 M) := by
  intro n
  induction n with
  | zero => intros; exact EJ_none
  | succ n ih => intro x1 x2 x3 M; exact e_House_enter_B2 _ ih x1 x2 x3 M
def House_enter (M : Mm) (a0 : Nat) (a1 : Nat) (a2 : Nat) : Option (Unit × Mm) :=
  House_enter_L2 fu a1 a2 0 M
set_option maxRecDepth 100000 in
set_option maxHeartbeats 4000000 in
theorem s_House_enter (G : Gx) (M : Mm) (a0 : Nat) (a1 : Nat) (a2 : Nat) : FnS G Y_House_enter cvV 1 [.ref a0, .ref a1, .ref a2] M (House_enter M a0 a1 a2) := by
  refine FnS.ofE (by decide) (Nat.le_of_ble_eq_true rfl) ?_
  show EJ G Y_House_enter cvV 1 0 [(0, .ref a0), (1, .ref a1), (2, .ref a2)] [] M _
  unfold House_enter
  refine EJ_iconst 1 (dk_3 (bt bc_House_enter_0 0 rfl)) rfl (v := 0) kI_0 ?_
  refine EJ_istore_n 2 (lv2 := [(3, .int _), (0, .ref _), (1, .ref _), (2, .ref _)]) (dk_62 (bt bc_House_enter_0 1 rfl)) rfl (by decide) rfl ?_
  exact EJ_pick (lv2 := [(1, .ref _), (2, .ref _), (3, .int _)]) [2, 3, 0] rfl (e_House_enter_L2 fu _ _ _ _)
abbrev Y_House_addClose : Ym := (⟨"RiceHall$House", "addClose", "(I)V"⟩, prog_5_method_3_code, 2, none)
theorem bc_House_addClose_0 : bts prog_5_method_3_code 0 [42, 180, 0, 19, 16, 24, 162, 0, 23, 42, 180, 0, 9, 42, 180, 0, 19, 27, 79, 42, 89, 180, 0, 19, 4, 96, 181, 0, 19, 177] := bts_of (by decide +kernel)
theorem hd_House_addClose : Y_House_addClose.1.cls = RX3 ∧ Y_House_addClose.1.cls ≠ "java/lang/invoke/MethodHandle" ∧ Y_House_addClose.1.cls ≠ "java/lang/invoke/VarHandle" ∧ (parseMethodDescriptor Y_House_addClose.1.desc).map (fun d => d.parameters.length) = some 1 := by decide +kernel
def House_addClose (M : Mm) (a0 : Nat) (a1 : Int32) : Option (Unit × Mm) :=
  ck (kO M a0 3 7) (
  if 24 ≤ (mI M a0 2) then (
    some ((), M))
  else (
    nn (mR M a0 0) (fun b2 =>
    ck (kA M b2 20 (mI M a0 2)) (
    let M4 := sI M b2 (ix (mI M a0 2)) a1
    let M5 := sI M4 a0 2 ((mI M4 a0 2) + 1)
    some ((), M5)))))
set_option maxRecDepth 100000 in
set_option maxHeartbeats 4000000 in
theorem s_House_addClose (G : Gx) (M : Mm) (a0 : Nat) (a1 : Int32) : FnS G Y_House_addClose cvV 1 [.ref a0, .int a1] M (House_addClose M a0 a1) := by
  refine FnS.ofE (by decide) (Nat.le_of_ble_eq_true rfl) ?_
  show EJ G Y_House_addClose cvV 1 0 [(0, .ref a0), (1, .int a1)] [] M _
  unfold House_addClose
  refine EJ_aload_n 1 0 (dk_42 (bt bc_House_addClose_0 0 rfl)) rfl rfl ?_
  refine EJ_ck (fun h1 => ?_)
  refine EJ_getI cf3 2 (by decide) 4 tw_148 (fun _ _ _ => rfl) (dk_180 (bt bc_House_addClose_0 1 rfl) (bt bc_House_addClose_0 2 rfl) (bt bc_House_addClose_0 3 rfl) (n := 19) rfl) rfl (of_decide_eq_true h1) ?_
  refine EJ_bipush 6 (dk_16 (bt bc_House_addClose_0 4 rfl) (bt bc_House_addClose_0 5 rfl) (n := 24) rfl) rfl (v := 24) kB_24 ?_
  refine EJ_icmp_ge 29 9 (dk_162 (bt bc_House_addClose_0 6 rfl) (bt bc_House_addClose_0 7 rfl) (bt bc_House_addClose_0 8 rfl) (n := 23) rfl) (by decide) rfl (fun _ => ?_) (fun _ => ?_)
  · exact EJ_vret rfl (dk_177 (bt bc_House_addClose_0 29 rfl))
  · refine EJ_aload_n 10 0 (dk_42 (bt bc_House_addClose_0 9 rfl)) rfl rfl ?_
    refine EJ_getR cf3 0 (by decide) 13 tw_146 (fun _ _ _ => rfl) (dk_180 (bt bc_House_addClose_0 10 rfl) (bt bc_House_addClose_0 11 rfl) (bt bc_House_addClose_0 12 rfl) (n := 9) rfl) rfl (of_decide_eq_true h1) (fun b2 => ?_)
    refine EJ_aload_n 14 0 (dk_42 (bt bc_House_addClose_0 13 rfl)) rfl rfl ?_
    refine EJ_getI cf3 2 (by decide) 17 tw_148 (fun _ _ _ => rfl) (dk_180 (bt bc_House_addClose_0 14 rfl) (bt bc_House_addClose_0 15 rfl) (bt bc_House_addClose_0 16 rfl) (n := 19) rfl) rfl (of_decide_eq_true h1) ?_
    refine EJ_iload_n 18 1 (dk_27 (bt bc_House_addClose_0 17 rfl)) rfl rfl ?_
    refine EJ_ck (fun h3 => ?_)
    refine EJ_iast 19 h3 (dk_79 (bt bc_House_addClose_0 18 rfl)) rfl ?_
    refine EJ_aload_n 20 0 (dk_42 (bt bc_House_addClose_0 19 rfl)) rfl rfl ?_
    refine EJ_dup 21 (dk_89 (bt bc_House_addClose_0 20 rfl)) rfl rfl ?_
    refine EJ_getI cf3 2 (by decide) 24 tw_148 (fun _ _ _ => rfl) (dk_180 (bt bc_House_addClose_0 21 rfl) (bt bc_House_addClose_0 22 rfl) (bt bc_House_addClose_0 23 rfl) (n := 19) rfl) rfl (kp_I (of_decide_eq_true h1)) ?_
    refine EJ_iconst 25 (dk_4 (bt bc_House_addClose_0 24 rfl)) rfl (v := 1) kI_1 ?_
    refine EJ_iadd 26 (dk_96 (bt bc_House_addClose_0 25 rfl)) rfl ?_
    refine EJ_putI cf3 2 (by decide) 29 tw_148 rfl (Or.inl rfl) (dk_181 (bt bc_House_addClose_0 26 rfl) (bt bc_House_addClose_0 27 rfl) (bt bc_House_addClose_0 28 rfl) (n := 19) rfl) rfl (kp_I (of_decide_eq_true h1)) ?_
    exact EJ_vret rfl (dk_177 (bt bc_House_addClose_0 29 rfl))
abbrev Y_House_closeOut : Ym := (⟨"RiceHall$House", "closeOut", "(LRiceHall$Person;)V"⟩, prog_5_method_9_code, 2, none)
theorem bc_House_closeOut_0 : bts prog_5_method_9_code 0 [42, 89, 180, 0, 49, 43, 180, 0, 46, 96, 181, 0, 49, 43, 3, 181, 0, 46, 43, 2, 181, 0, 80, 43, 89, 180, 0, 87, 4, 96, 181, 0] := bts_of (by decide +kernel)
theorem bc_House_closeOut_1 : bts prog_5_method_9_code 32 [87, 43, 180, 0, 27, 9, 148, 156, 0, 31, 42, 89, 180, 0, 23, 43, 180, 0, 27, 97, 181, 0, 23, 43, 9, 181, 0, 27, 43, 89, 180, 0] := bts_of (by decide +kernel)
theorem bc_House_closeOut_2 : bts prog_5_method_9_code 64 [90, 4, 96, 181, 0, 90, 177] := bts_of (by decide +kernel)
theorem hd_House_closeOut : Y_House_closeOut.1.cls = RX3 ∧ Y_House_closeOut.1.cls ≠ "java/lang/invoke/MethodHandle" ∧ Y_House_closeOut.1.cls ≠ "java/lang/invoke/VarHandle" ∧ (parseMethodDescriptor Y_House_closeOut.1.desc).map (fun d => d.parameters.length) = some 1 := by decide +kernel
def House_closeOut (M : Mm) (a0 : Nat) (a1 : Nat) : Option (Unit × Mm) :=
  ck (kO M a0 3 7) (
  ck (kO M a1 6 9) (
  let M3 := sI M a0 3 ((mI M a0 3) + (mI M a1 4))
  let M4 := sI M3 a1 4 0
  let M5 := sI M4 a1 6 (-1)
  let M6 := sI M5 a1 7 ((mI M5 a1 7) + 1)
  if 0 ≤ (mL M6 a1 3) then (
    some ((), M6))
  else (
    let M7 := sL M6 a0 4 ((mL M6 a0 4) + (mL M6 a1 3))
    let M8 := sL M7 a1 3 0
    let M9 := sI M8 a1 8 ((mI M8 a1 8) + 1)
    some ((), M9))))
set_option maxRecDepth 100000 in
set_option maxHeartbeats 4000000 in
theorem s_House_closeOut (G : Gx) (M : Mm) (a0 : Nat) (a1 : Nat) : FnS G Y_House_closeOut cvV 1 [.ref a0, .ref a1] M (House_closeOut M a0 a1) := by
  refine FnS.ofE (by decide) (Nat.le_of_ble_eq_true rfl) ?_
  show EJ G Y_House_closeOut cvV 1 0 [(0, .ref a0), (1, .ref a1)] [] M _
  unfold House_closeOut
  refine EJ_aload_n 1 0 (dk_42 (bt bc_House_closeOut_0 0 rfl)) rfl rfl ?_
  refine EJ_dup 2 (dk_89 (bt bc_House_closeOut_0 1 rfl)) rfl rfl ?_
  refine EJ_ck (fun h1 => ?_)
  refine EJ_getI cf3 3 (by decide) 5 tw_150 (fun _ _ _ => rfl) (dk_180 (bt bc_House_closeOut_0 2 rfl) (bt bc_House_closeOut_0 3 rfl) (bt bc_House_closeOut_0 4 rfl) (n := 49) rfl) rfl (of_decide_eq_true h1) ?_
  refine EJ_aload_n 6 1 (dk_43 (bt bc_House_closeOut_0 5 rfl)) rfl rfl ?_
  refine EJ_ck (fun h2 => ?_)
  refine EJ_getI cf6 4 (by decide) 9 tw_349 (fun _ _ _ => rfl) (dk_180 (bt bc_House_closeOut_0 6 rfl) (bt bc_House_closeOut_0 7 rfl) (bt bc_House_closeOut_0 8 rfl) (n := 46) rfl) rfl (of_decide_eq_true h2) ?_
  refine EJ_iadd 10 (dk_96 (bt bc_House_closeOut_0 9 rfl)) rfl ?_
  refine EJ_putI cf3 3 (by decide) 13 tw_150 rfl (Or.inl rfl) (dk_181 (bt bc_House_closeOut_0 10 rfl) (bt bc_House_closeOut_0 11 rfl) (bt bc_House_closeOut_0 12 rfl) (n := 49) rfl) rfl (of_decide_eq_true h1) ?_
  refine EJ_aload_n 14 1 (dk_43 (bt bc_House_closeOut_0 13 rfl)) rfl rfl ?_
  refine EJ_iconst 15 (dk_3 (bt bc_House_closeOut_0 14 rfl)) rfl (v := 0) kI_0 ?_
  refine EJ_putI cf6 4 (by decide) 18 tw_349 rfl (Or.inl rfl) (dk_181 (bt bc_House_closeOut_0 15 rfl) (bt bc_House_closeOut_0 16 rfl) (bt bc_House_closeOut_0 17 rfl) (n := 46) rfl) rfl (kp_I (of_decide_eq_true h2)) ?_
  refine EJ_aload_n 19 1 (dk_43 (bt bc_House_closeOut_0 18 rfl)) rfl rfl ?_
  refine EJ_iconst 20 (dk_2 (bt bc_House_closeOut_0 19 rfl)) rfl (v := (-1)) kI_m1 ?_
  refine EJ_putI cf6 6 (by decide) 23 tw_354 rfl (Or.inl rfl) (dk_181 (bt bc_House_closeOut_0 20 rfl) (bt bc_House_closeOut_0 21 rfl) (bt bc_House_closeOut_0 22 rfl) (n := 80) rfl) rfl (kp_I (kp_I (of_decide_eq_true h2))) ?_
  refine EJ_aload_n 24 1 (dk_43 (bt bc_House_closeOut_0 23 rfl)) rfl rfl ?_
  refine EJ_dup 25 (dk_89 (bt bc_House_closeOut_0 24 rfl)) rfl rfl ?_
  refine EJ_getI cf6 7 (by decide) 28 tw_356 (fun _ _ _ => rfl) (dk_180 (bt bc_House_closeOut_0 25 rfl) (bt bc_House_closeOut_0 26 rfl) (bt bc_House_closeOut_0 27 rfl) (n := 87) rfl) rfl (kp_I (kp_I (kp_I (of_decide_eq_true h2)))) ?_
  refine EJ_iconst 29 (dk_4 (bt bc_House_closeOut_0 28 rfl)) rfl (v := 1) kI_1 ?_
  refine EJ_iadd 30 (dk_96 (bt bc_House_closeOut_0 29 rfl)) rfl ?_
  refine EJ_putI cf6 7 (by decide) 33 tw_356 rfl (Or.inl rfl) (dk_181 (bt bc_House_closeOut_0 30 rfl) (bt bc_House_closeOut_0 31 rfl) (bt bc_House_closeOut_1 0 rfl) (n := 87) rfl) rfl (kp_I (kp_I (kp_I (of_decide_eq_true h2)))) ?_
  refine EJ_aload_n 34 1 (dk_43 (bt bc_House_closeOut_1 1 rfl)) rfl rfl ?_
  refine EJ_getL cf6 3 (by decide) 37 tw_346 (fun _ _ _ => rfl) (dk_180 (bt bc_House_closeOut_1 2 rfl) (bt bc_House_closeOut_1 3 rfl) (bt bc_House_closeOut_1 4 rfl) (n := 27) rfl) rfl (kp_I (kp_I (kp_I (kp_I (of_decide_eq_true h2))))) ?_
  refine EJ_lconst 38 (dk_9 (bt bc_House_closeOut_1 5 rfl)) rfl (v := 0) (by decide) ?_
  refine EJ_lcmp_ge 70 42 (dk_148 (bt bc_House_closeOut_1 6 rfl)) (dk_156 (bt bc_House_closeOut_1 7 rfl) (bt bc_House_closeOut_1 8 rfl) (bt bc_House_closeOut_1 9 rfl) (n := 31) rfl) (by decide) rfl (fun _ => ?_) (fun _ => ?_)
  · exact EJ_vret rfl (dk_177 (bt bc_House_closeOut_2 6 rfl))
  · refine EJ_aload_n 43 0 (dk_42 (bt bc_House_closeOut_1 10 rfl)) rfl rfl ?_
    refine EJ_dup 44 (dk_89 (bt bc_House_closeOut_1 11 rfl)) rfl rfl ?_
    refine EJ_getL cf3 4 (by decide) 47 tw_152 (fun _ _ _ => rfl) (dk_180 (bt bc_House_closeOut_1 12 rfl) (bt bc_House_closeOut_1 13 rfl) (bt bc_House_closeOut_1 14 rfl) (n := 23) rfl) rfl (kp_I (kp_I (kp_I (kp_I (of_decide_eq_true h1))))) ?_
    refine EJ_aload_n 48 1 (dk_43 (bt bc_House_closeOut_1 15 rfl)) rfl rfl ?_
    refine EJ_getL cf6 3 (by decide) 51 tw_346 (fun _ _ _ => rfl) (dk_180 (bt bc_House_closeOut_1 16 rfl) (bt bc_House_closeOut_1 17 rfl) (bt bc_House_closeOut_1 18 rfl) (n := 27) rfl) rfl (kp_I (kp_I (kp_I (kp_I (of_decide_eq_true h2))))) ?_
    refine EJ_ladd 52 (dk_97 (bt bc_House_closeOut_1 19 rfl)) rfl ?_
    refine EJ_putL cf3 4 (by decide) 55 tw_152 rfl (Or.inl rfl) (dk_181 (bt bc_House_closeOut_1 20 rfl) (bt bc_House_closeOut_1 21 rfl) (bt bc_House_closeOut_1 22 rfl) (n := 23) rfl) rfl (kp_I (kp_I (kp_I (kp_I (of_decide_eq_true h1))))) ?_
    refine EJ_aload_n 56 1 (dk_43 (bt bc_House_closeOut_1 23 rfl)) rfl rfl ?_
    refine EJ_lconst 57 (dk_9 (bt bc_House_closeOut_1 24 rfl)) rfl (v := 0) (by decide) ?_
    refine EJ_putL cf6 3 (by decide) 60 tw_346 rfl (Or.inl rfl) (dk_181 (bt bc_House_closeOut_1 25 rfl) (bt bc_House_closeOut_1 26 rfl) (bt bc_House_closeOut_1 27 rfl) (n := 27) rfl) rfl (kp_L (kp_I (kp_I (kp_I (kp_I (of_decide_eq_true h2)))))) ?_
    refine EJ_aload_n 61 1 (dk_43 (bt bc_House_closeOut_1 28 rfl)) rfl rfl ?_
    refine EJ_dup 62 (dk_89 (bt bc_House_closeOut_1 29 rfl)) rfl rfl ?_
    refine EJ_getI cf6 8 (by decide) 65 tw_358 (fun _ _ _ => rfl) (dk_180 (bt bc_House_closeOut_1 30 rfl) (bt bc_House_closeOut_1 31 rfl) (bt bc_House_closeOut_2 0 rfl) (n := 90) rfl) rfl (kp_L (kp_L (kp_I (kp_I (kp_I (kp_I (of_decide_eq_true h2))))))) ?_
    refine EJ_iconst 66 (dk_4 (bt bc_House_closeOut_2 1 rfl)) rfl (v := 1) kI_1 ?_
    refine EJ_iadd 67 (dk_96 (bt bc_House_closeOut_2 2 rfl)) rfl ?_
    refine EJ_putI cf6 8 (by decide) 70 tw_358 rfl (Or.inl rfl) (dk_181 (bt bc_House_closeOut_2 3 rfl) (bt bc_House_closeOut_2 4 rfl) (bt bc_House_closeOut_2 5 rfl) (n := 90) rfl) rfl (kp_L (kp_L (kp_I (kp_I (kp_I (kp_I (of_decide_eq_true h2))))))) ?_
    exact EJ_vret rfl (dk_177 (bt bc_House_closeOut_2 6 rfl))
abbrev Y_House_callMargins : Ym := (⟨"RiceHall$House", "callMargins", "([LRiceHall$Person;IIII)V"⟩, prog_5_method_8_code, 8, none)
theorem bc_House_callMargins_0 : bts prog_5_method_8_code 0 [3, 54, 6, 21, 6, 28, 162, 0, 77, 43, 21, 6, 50, 58, 7, 25, 7, 180, 0, 27, 25, 7, 29, 182, 0, 76, 148, 155, 0, 12, 25, 7] := bts_of (by decide +kernel)
theorem bc_House_callMargins_1 : bts prog_5_method_8_code 32 [2, 181, 0, 80, 167, 0, 41, 25, 7, 180, 0, 80, 2, 160, 0, 13, 25, 7, 21, 5, 181, 0, 80, 167, 0, 22, 21, 5, 25, 7, 180, 0] := bts_of (by decide +kernel)
theorem bc_House_callMargins_2 : bts prog_5_method_8_code 64 [80, 100, 21, 4, 161, 0, 9, 42, 25, 7, 182, 0, 83, 132, 6, 1, 167, 255, 179, 177] := bts_of (by decide +kernel)
theorem hd_House_callMargins : Y_House_callMargins.1.cls = RX3 ∧ Y_House_callMargins.1.cls ≠ "java/lang/invoke/MethodHandle" ∧ Y_House_callMargins.1.cls ≠ "java/lang/invoke/VarHandle" ∧ (parseMethodDescriptor Y_House_callMargins.1.desc).map (fun d => d.parameters.length) = some 5 := by decide +kernel
def House_callMargins_J77 (k3 : Nat → Nat → Int32 → Int32 → Int32 → Int32 → Int32 → Mm → Option (Unit × Mm)) (x0 : Nat) (x1 : Nat) (x2 : Int32) (x3 : Int32) (x4 : Int32) (x5 : Int32) (x6 : Int32) (M : Mm) : Option (Unit × Mm) :=
  let v7 : Int32 := x6 + 1
  k3 x0 x1 x2 x3 x4 x5 v7 M
set_option maxRecDepth 100000 in
set_option maxHeartbeats 4000000 in
theorem e_House_callMargins_J77 {G : Gx} (k3 : Nat → Nat → Int32 → Int32 → Int32 → Int32 → Int32 → Mm → Option (Unit × Mm)) (hk3 : ∀ (x0 : Nat) (x1 : Nat) (x2 : Int32) (x3 : Int32) (x4 : Int32) (x5 : Int32) (x6 : Int32) (M : Mm), EJ G Y_House_callMargins cvV 3 3 [(0, .ref x0), (1, .ref x1), (2, .int x2), (3, .int x3), (4, .int x4), (5, .int x5), (6, .int x6)] [] M (k3 x0 x1 x2 x3 x4 x5 x6 M)) (x0 : Nat) (x1 : Nat) (x2 : Int32) (x3 : Int32) (x4 : Int32) (x5 : Int32) (x6 : Int32) (M : Mm) : EJ G Y_House_callMargins cvV 3 77 [(0, .ref x0), (1, .ref x1), (2, .int x2), (3, .int x3), (4, .int x4), (5, .int x5), (6, .int x6)] [] M (House_callMargins_J77 k3 x0 x1 x2 x3 x4 x5 x6 M) := by
  unfold House_callMargins_J77
  refine EJ_iinc 80 6 (lv2 := [(6, .int _), (0, .ref _), (1, .ref _), (2, .int _), (3, .int _), (4, .int _), (5, .int _)]) (dk_132 (bt bc_House_callMargins_2 13 rfl) (bt bc_House_callMargins_2 14 rfl) (bt bc_House_callMargins_2 15 rfl) (n := 1) rfl) rfl (by decide) rfl (v := 1) kI_1 rfl ?_
  refine EJ_goto 3 (dk_167 (bt bc_House_callMargins_2 16 rfl) (bt bc_House_callMargins_2 17 rfl) (bt bc_House_callMargins_2 18 rfl) (n := -77) rfl) (by decide) ?_
  exact EJ_pick (lv2 := [(0, .ref _), (1, .ref _), (2, .int _), (3, .int _), (4, .int _), (5, .int _), (6, .int _)]) [1, 2, 3, 4, 5, 6, 0] rfl (hk3 _ _ _ _ _ _ _ _)
def House_callMargins_B3 (k3 : Nat → Nat → Int32 → Int32 → Int32 → Int32 → Int32 → Mm → Option (Unit × Mm)) (x0 : Nat) (x1 : Nat) (x2 : Int32) (x3 : Int32) (x4 : Int32) (x5 : Int32) (x6 : Int32) (M : Mm) : Option (Unit × Mm) :=
  if x2 ≤ x6 then (
    some ((), M))
  else (
    ck (kA M x1 24 x6) (
    nn (mR M x1 (ix x6)) (fun b2 =>
    ck (kO M b2 6 9) (
    bd (Person_need M b2 x3) (fun r4 M5 =>
    if (mL M b2 3) < r4 then (
      ck (kO M5 b2 6 9) (
      if (mI M5 b2 6) = (-1) then (
        let M11 := sI M5 b2 6 x5
        House_callMargins_J77 k3 x0 x1 x2 x3 x4 x5 x6 M11)
      else (
        if (x5 - (mI M5 b2 6)) < x4 then (
          House_callMargins_J77 k3 x0 x1 x2 x3 x4 x5 x6 M5)
        else (
          ck (kO M5 x0 3 7) (
          bd (House_closeOut M5 x0 b2) (fun _ M10 =>
          House_callMargins_J77 k3 x0 x1 x2 x3 x4 x5 x6 M10))))))
    else (
      ck (kO M5 b2 6 9) (
      let M13 := sI M5 b2 6 (-1)
      House_callMargins_J77 k3 x0 x1 x2 x3 x4 x5 x6 M13)))))))
set_option maxRecDepth 100000 in
set_option maxHeartbeats 4000000 in
theorem e_House_callMargins_B3 {G : Gx} (k3 : Nat → Nat → Int32 → Int32 → Int32 → Int32 → Int32 → Mm → Option (Unit × Mm)) (hk3 : ∀ (x0 : Nat) (x1 : Nat) (x2 : Int32) (x3 : Int32) (x4 : Int32) (x5 : Int32) (x6 : Int32) (M : Mm), EJ G Y_House_callMargins cvV 3 3 [(0, .ref x0), (1, .ref x1), (2, .int x2), (3, .int x3), (4, .int x4), (5, .int x5), (6, .int x6)] [] M (k3 x0 x1 x2 x3 x4 x5 x6 M)) (x0 : Nat) (x1 : Nat) (x2 : Int32) (x3 : Int32) (x4 : Int32) (x5 : Int32) (x6 : Int32) (M : Mm) : EJ G Y_House_callMargins cvV 3 3 [(0, .ref x0), (1, .ref x1), (2, .int x2), (3, .int x3), (4, .int x4), (5, .int x5), (6, .int x6)] [] M (House_callMargins_B3 k3 x0 x1 x2 x3 x4 x5 x6 M) := by
  unfold House_callMargins_B3
  refine EJ_iload 5 6 (dk_21 (bt bc_House_callMargins_0 3 rfl) (bt bc_House_callMargins_0 4 rfl)) rfl rfl ?_
  refine EJ_iload_n 6 2 (dk_28 (bt bc_House_callMargins_0 5 rfl)) rfl rfl ?_
  refine EJ_icmp_ge 83 9 (dk_162 (bt bc_House_callMargins_0 6 rfl) (bt bc_House_callMargins_0 7 rfl) (bt bc_House_callMargins_0 8 rfl) (n := 77) rfl) (by decide) rfl (fun _ => ?_) (fun _ => ?_)
  · exact EJ_vret rfl (dk_177 (bt bc_House_callMargins_2 19 rfl))
  · refine EJ_aload_n 10 1 (dk_43 (bt bc_House_callMargins_0 9 rfl)) rfl rfl ?_
    refine EJ_iload 12 6 (dk_21 (bt bc_House_callMargins_0 10 rfl) (bt bc_House_callMargins_0 11 rfl)) rfl rfl ?_
    refine EJ_ck (fun h1 => ?_)
    refine EJ_aald 4 13 (by decide) (by decide) rfl h1 (dk_50 (bt bc_House_callMargins_0 12 rfl)) rfl (fun b2 => ?_)
    refine EJ_astore 15 (lv2 := [(7, .ref _), (0, .ref _), (1, .ref _), (2, .int _), (3, .int _), (4, .int _), (5, .int _), (6, .int _)]) (dk_58 (bt bc_House_callMargins_0 13 rfl) (bt bc_House_callMargins_0 14 rfl)) rfl (by decide) rfl ?_
    refine EJ_aload 17 0 (dk_25 (bt bc_House_callMargins_0 15 rfl) (bt bc_House_callMargins_0 16 rfl)) rfl rfl ?_
    refine EJ_ck (fun h3 => ?_)
    refine EJ_getL cf6 3 (by decide) 20 tw_346 (fun _ _ _ => rfl) (dk_180 (bt bc_House_callMargins_0 17 rfl) (bt bc_House_callMargins_0 18 rfl) (bt bc_House_callMargins_0 19 rfl) (n := 27) rfl) rfl (of_decide_eq_true h3) ?_
    refine EJ_aload 22 0 (dk_25 (bt bc_House_callMargins_0 20 rfl) (bt bc_House_callMargins_0 21 rfl)) rfl rfl ?_
    refine EJ_iload_n 23 4 (dk_29 (bt bc_House_callMargins_0 22 rfl)) rfl rfl ?_
    refine EJ_callVl (Y2 := Y_Person_need) 26 cf6 (s_Person_need G _ _ _) (of_decide_eq_true h3) rfl (dk_182 (bt bc_House_callMargins_0 23 rfl) (bt bc_House_callMargins_0 24 rfl) (bt bc_House_callMargins_0 25 rfl) (n := 76) rfl) rfl tw_1071 tw_584 tw_585 tw_586 hd_Person_need rfl (by decide) (Nat.le_of_ble_eq_true rfl) (fun r4 M5 => ?_)
    refine EJ_lcmp_lt 39 30 (dk_148 (bt bc_House_callMargins_0 26 rfl)) (dk_155 (bt bc_House_callMargins_0 27 rfl) (bt bc_House_callMargins_0 28 rfl) (bt bc_House_callMargins_0 29 rfl) (n := 12) rfl) (by decide) rfl (fun _ => ?_) (fun _ => ?_)
    · refine EJ_aload 41 0 (dk_25 (bt bc_House_callMargins_1 7 rfl) (bt bc_House_callMargins_1 8 rfl)) rfl rfl ?_
      refine EJ_ck (fun h6 => ?_)
      refine EJ_getI cf6 6 (by decide) 44 tw_354 (fun _ _ _ => rfl) (dk_180 (bt bc_House_callMargins_1 9 rfl) (bt bc_House_callMargins_1 10 rfl) (bt bc_House_callMargins_1 11 rfl) (n := 80) rfl) rfl (of_decide_eq_true h6) ?_
      refine EJ_iconst 45 (dk_2 (bt bc_House_callMargins_1 12 rfl)) rfl (v := (-1)) kI_m1 ?_
      refine EJ_icmp_ne 58 48 (dk_160 (bt bc_House_callMargins_1 13 rfl) (bt bc_House_callMargins_1 14 rfl) (bt bc_House_callMargins_1 15 rfl) (n := 13) rfl) (by decide) rfl (fun _ => ?_) (fun _ => ?_)
      · refine EJ_iload 60 6 (dk_21 (bt bc_House_callMargins_1 26 rfl) (bt bc_House_callMargins_1 27 rfl)) rfl rfl ?_
        refine EJ_aload 62 0 (dk_25 (bt bc_House_callMargins_1 28 rfl) (bt bc_House_callMargins_1 29 rfl)) rfl rfl ?_
        refine EJ_getI cf6 6 (by decide) 65 tw_354 (fun _ _ _ => rfl) (dk_180 (bt bc_House_callMargins_1 30 rfl) (bt bc_House_callMargins_1 31 rfl) (bt bc_House_callMargins_2 0 rfl) (n := 80) rfl) rfl (of_decide_eq_true h6) ?_
        refine EJ_isub 66 (dk_100 (bt bc_House_callMargins_2 1 rfl)) rfl ?_
        refine EJ_iload 68 5 (dk_21 (bt bc_House_callMargins_2 2 rfl) (bt bc_House_callMargins_2 3 rfl)) rfl rfl ?_
        refine EJ_icmp_lt 77 71 (dk_161 (bt bc_House_callMargins_2 4 rfl) (bt bc_House_callMargins_2 5 rfl) (bt bc_House_callMargins_2 6 rfl) (n := 9) rfl) (by decide) rfl (fun _ => ?_) (fun _ => ?_)
        · exact EJ_pick (lv2 := [(0, .ref _), (1, .ref _), (2, .int _), (3, .int _), (4, .int _), (5, .int _), (6, .int _)]) [1, 2, 3, 4, 5, 6, 7] rfl (e_House_callMargins_J77 k3 hk3 _ _ _ _ _ _ _ _)
        · refine EJ_aload_n 72 1 (dk_42 (bt bc_House_callMargins_2 7 rfl)) rfl rfl ?_
          refine EJ_aload 74 0 (dk_25 (bt bc_House_callMargins_2 8 rfl) (bt bc_House_callMargins_2 9 rfl)) rfl rfl ?_
          refine EJ_ck (fun h8 => ?_)
          refine EJ_callVv (Y2 := Y_House_closeOut) 77 cf3 (s_House_closeOut G _ _ _) (of_decide_eq_true h8) rfl (dk_182 (bt bc_House_callMargins_2 10 rfl) (bt bc_House_callMargins_2 11 rfl) (bt bc_House_callMargins_2 12 rfl) (n := 83) rfl) rfl tw_1072 tw_1074 ts_28 tw_1075 hd_House_closeOut rfl (by decide) (Nat.le_of_ble_eq_true rfl) (fun _ M10 => ?_)
          exact EJ_pick (lv2 := [(0, .ref _), (1, .ref _), (2, .int _), (3, .int _), (4, .int _), (5, .int _), (6, .int _)]) [1, 2, 3, 4, 5, 6, 7] rfl (e_House_callMargins_J77 k3 hk3 _ _ _ _ _ _ _ _)
      · refine EJ_aload 50 0 (dk_25 (bt bc_House_callMargins_1 16 rfl) (bt bc_House_callMargins_1 17 rfl)) rfl rfl ?_
        refine EJ_iload 52 6 (dk_21 (bt bc_House_callMargins_1 18 rfl) (bt bc_House_callMargins_1 19 rfl)) rfl rfl ?_
        refine EJ_putI cf6 6 (by decide) 55 tw_354 rfl (Or.inl rfl) (dk_181 (bt bc_House_callMargins_1 20 rfl) (bt bc_House_callMargins_1 21 rfl) (bt bc_House_callMargins_1 22 rfl) (n := 80) rfl) rfl (of_decide_eq_true h6) ?_
        refine EJ_goto 77 (dk_167 (bt bc_House_callMargins_1 23 rfl) (bt bc_House_callMargins_1 24 rfl) (bt bc_House_callMargins_1 25 rfl) (n := 22) rfl) (by decide) ?_
        exact EJ_pick (lv2 := [(0, .ref _), (1, .ref _), (2, .int _), (3, .int _), (4, .int _), (5, .int _), (6, .int _)]) [1, 2, 3, 4, 5, 6, 7] rfl (e_House_callMargins_J77 k3 hk3 _ _ _ _ _ _ _ _)
    · refine EJ_aload 32 0 (dk_25 (bt bc_House_callMargins_0 30 rfl) (bt bc_House_callMargins_0 31 rfl)) rfl rfl ?_
      refine EJ_iconst 33 (dk_2 (bt bc_House_callMargins_1 0 rfl)) rfl (v := (-1)) kI_m1 ?_
      refine EJ_ck (fun h12 => ?_)
      refine EJ_putI cf6 6 (by decide) 36 tw_354 rfl (Or.inl rfl) (dk_181 (bt bc_House_callMargins_1 1 rfl) (bt bc_House_callMargins_1 2 rfl) (bt bc_House_callMargins_1 3 rfl) (n := 80) rfl) rfl (of_decide_eq_true h12) ?_
      refine EJ_goto 77 (dk_167 (bt bc_House_callMargins_1 4 rfl) (bt bc_House_callMargins_1 5 rfl) (bt bc_House_callMargins_1 6 rfl) (n := 41) rfl) (by decide) ?_
      exact EJ_pick (lv2 := [(0, .ref _), (1, .ref _), (2, .int _), (3, .int _), (4, .int _), (5, .int _), (6, .int _)]) [1, 2, 3, 4, 5, 6, 7] rfl (e_House_callMargins_J77 k3 hk3 _ _ _ _ _ _ _ _)
def House_callMargins_L3 (n : Nat) : Nat → Nat → Int32 → Int32 → Int32 → Int32 → Int32 → Mm → Option (Unit × Mm) :=
  match n with
  | 0 => fun _ _ _ _ _ _ _ _ => none
  | n + 1 => House_callMargins_B3 (House_callMargins_L3 n)
theorem e_House_callMargins_L3 {G : Gx} : ∀ (n : Nat) (x0 : Nat) (x1 : Nat) (x2 : Int32) (x3 : Int32) (x4 : Int32) (x5 : Int32) (x6 : Int32) (M : Mm), EJ G Y_House_callMargins cvV 3 3 [(0, .ref x0), (1, .ref x1), (2, .int x2), (3, .int x3), (4, .int x4), (5, .int x5), (6, .int x6)] [] M (House_callMargins_L3 n x0 x1 x2 x3 x4 x5 x6 M) := by
  intro n
  induction n with
  | zero => intros; exact EJ_none
  | succ n ih => intro x0 x1 x2 x3 x4 x5 x6 M; exact e_House_callMargins_B3 _ ih x0 x1 x2 x3 x4 x5 x6 M
def House_callMargins (M : Mm) (a0 : Nat) (a1 : Nat) (a2 : Int32) (a3 : Int32) (a4 : Int32) (a5 : Int32) : Option (Unit × Mm) :=
  House_callMargins_L3 fu a0 a1 a2 a3 a4 a5 0 M
set_option maxRecDepth 100000 in
set_option maxHeartbeats 4000000 in
theorem s_House_callMargins (G : Gx) (M : Mm) (a0 : Nat) (a1 : Nat) (a2 : Int32) (a3 : Int32) (a4 : Int32) (a5 : Int32) : FnS G Y_House_callMargins cvV 3 [.ref a0, .ref a1, .int a2, .int a3, .int a4, .int a5] M (House_callMargins M a0 a1 a2 a3 a4 a5) := by
  refine FnS.ofE (by decide) (Nat.le_of_ble_eq_true rfl) ?_
  show EJ G Y_House_callMargins cvV 3 0 [(0, .ref a0), (1, .ref a1), (2, .int a2), (3, .int a3), (4, .int a4), (5, .int a5)] [] M _
  unfold House_callMargins
  refine EJ_iconst 1 (dk_3 (bt bc_House_callMargins_0 0 rfl)) rfl (v := 0) kI_0 ?_
  refine EJ_istore 3 (lv2 := [(6, .int _), (0, .ref _), (1, .ref _), (2, .int _), (3, .int _), (4, .int _), (5, .int _)]) (dk_54 (bt bc_House_callMargins_0 1 rfl) (bt bc_House_callMargins_0 2 rfl)) rfl (by decide) rfl ?_
  exact EJ_pick (lv2 := [(0, .ref _), (1, .ref _), (2, .int _), (3, .int _), (4, .int _), (5, .int _), (6, .int _)]) [1, 2, 3, 4, 5, 6, 0] rfl (e_House_callMargins_L3 fu _ _ _ _ _ _ _ _)
