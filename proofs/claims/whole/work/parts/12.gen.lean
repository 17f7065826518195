abbrev Y_Scribe_takeNumber : Ym := (⟨"RiceHall$Scribe", "takeNumber", "(I)I"⟩, prog_10_method_14_code, 2, (some FieldType.int))
theorem bc_Scribe_takeNumber_0 : bts prog_10_method_14_code 0 [42, 180, 0, 43, 42, 180, 0, 40, 162, 0, 30, 42, 180, 0, 24, 42, 180, 0, 43, 46, 16, 30, 160, 0, 16, 42, 180, 0, 30, 42, 180, 0] := bts_of (by decide +kernel)
theorem bc_Scribe_takeNumber_1 : bts prog_10_method_14_code 32 [43, 46, 27, 162, 0, 5, 2, 172, 42, 89, 180, 0, 43, 4, 96, 181, 0, 43, 42, 180, 0, 30, 42, 180, 0, 43, 4, 100, 46, 172] := bts_of (by decide +kernel)
theorem hd_Scribe_takeNumber : Y_Scribe_takeNumber.1.cls = RX8 ∧ Y_Scribe_takeNumber.1.cls ≠ "java/lang/invoke/MethodHandle" ∧ Y_Scribe_takeNumber.1.cls ≠ "java/lang/invoke/VarHandle" ∧ (parseMethodDescriptor Y_Scribe_takeNumber.1.desc).map (fun d => d.parameters.length) = some 1 := by decide +kernel
def Scribe_takeNumber (M : Mm) (a0 : Nat) (a1 : Int32) : Option (Int32 × Mm) :=
  ck (kO M a0 8 11) (
  if (mI M a0 9) ≤ (mI M a0 10) then (
    some ((-1), M))
  else (
    nn (mR M a0 6) (fun b2 =>
    ck (kA M b2 20 (mI M a0 10)) (
    if (mI M b2 (ix (mI M a0 10))) = 30 then (
      nn (mR M a0 8) (fun b4 =>
      ck (kA M b4 20 (mI M a0 10)) (
      if a1 ≤ (mI M b4 (ix (mI M a0 10))) then (
        let M6 := sI M a0 10 ((mI M a0 10) + 1)
        nn (mR M6 a0 8) (fun b7 =>
        ck (kA M6 b7 20 ((mI M6 a0 10) - 1)) (
        some (mI M6 b7 (ix ((mI M6 a0 10) - 1)), M6))))
      else (
        some ((-1), M)))))
    else (
      some ((-1), M))))))
set_option maxRecDepth 100000 in
set_option maxHeartbeats 4000000 in
theorem s_Scribe_takeNumber (G : Gx) (M : Mm) (a0 : Nat) (a1 : Int32) : FnS G Y_Scribe_takeNumber cvI 1 [.ref a0, .int a1] M (Scribe_takeNumber M a0 a1) := by
  refine FnS.ofE (by decide) (Nat.le_of_ble_eq_true rfl) ?_
  show EJ G Y_Scribe_takeNumber cvI 1 0 [(0, .ref a0), (1, .int a1)] [] M _
  unfold Scribe_takeNumber
  refine EJ_aload_n 1 0 (dk_42 (bt bc_Scribe_takeNumber_0 0 rfl)) rfl rfl ?_
  refine EJ_ck (fun h1 => ?_)
  refine EJ_getI cf8 10 (by decide) 4 tw_95 (fun _ _ _ => rfl) (dk_180 (bt bc_Scribe_takeNumber_0 1 rfl) (bt bc_Scribe_takeNumber_0 2 rfl) (bt bc_Scribe_takeNumber_0 3 rfl) (n := 43) rfl) rfl (of_decide_eq_true h1) ?_
  refine EJ_aload_n 5 0 (dk_42 (bt bc_Scribe_takeNumber_0 4 rfl)) rfl rfl ?_
  refine EJ_getI cf8 9 (by decide) 8 tw_94 (fun _ _ _ => rfl) (dk_180 (bt bc_Scribe_takeNumber_0 5 rfl) (bt bc_Scribe_takeNumber_0 6 rfl) (bt bc_Scribe_takeNumber_0 7 rfl) (n := 40) rfl) rfl (of_decide_eq_true h1) ?_
  refine EJ_icmp_ge 38 11 (dk_162 (bt bc_Scribe_takeNumber_0 8 rfl) (bt bc_Scribe_takeNumber_0 9 rfl) (bt bc_Scribe_takeNumber_0 10 rfl) (n := 30) rfl) (by decide) rfl (fun _ => ?_) (fun _ => ?_)
  · refine EJ_iconst 39 (dk_2 (bt bc_Scribe_takeNumber_1 6 rfl)) rfl (v := (-1)) kI_m1 ?_
    exact EJ_iret rfl (dk_172 (bt bc_Scribe_takeNumber_1 7 rfl))
  · refine EJ_aload_n 12 0 (dk_42 (bt bc_Scribe_takeNumber_0 11 rfl)) rfl rfl ?_
    refine EJ_getR cf8 6 (by decide) 15 tw_91 (fun _ _ _ => rfl) (dk_180 (bt bc_Scribe_takeNumber_0 12 rfl) (bt bc_Scribe_takeNumber_0 13 rfl) (bt bc_Scribe_takeNumber_0 14 rfl) (n := 24) rfl) rfl (of_decide_eq_true h1) (fun b2 => ?_)
    refine EJ_aload_n 16 0 (dk_42 (bt bc_Scribe_takeNumber_0 15 rfl)) rfl rfl ?_
    refine EJ_getI cf8 10 (by decide) 19 tw_95 (fun _ _ _ => rfl) (dk_180 (bt bc_Scribe_takeNumber_0 16 rfl) (bt bc_Scribe_takeNumber_0 17 rfl) (bt bc_Scribe_takeNumber_0 18 rfl) (n := 43) rfl) rfl (of_decide_eq_true h1) ?_
    refine EJ_ck (fun h3 => ?_)
    refine EJ_iald 20 h3 (dk_46 (bt bc_Scribe_takeNumber_0 19 rfl)) rfl ?_
    refine EJ_bipush 22 (dk_16 (bt bc_Scribe_takeNumber_0 20 rfl) (bt bc_Scribe_takeNumber_0 21 rfl) (n := 30) rfl) rfl (v := 30) kB_30 ?_
    refine EJ_icmp_ne 38 25 (dk_160 (bt bc_Scribe_takeNumber_0 22 rfl) (bt bc_Scribe_takeNumber_0 23 rfl) (bt bc_Scribe_takeNumber_0 24 rfl) (n := 16) rfl) (by decide) rfl (fun _ => ?_) (fun _ => ?_)
    · refine EJ_iconst 39 (dk_2 (bt bc_Scribe_takeNumber_1 6 rfl)) rfl (v := (-1)) kI_m1 ?_
      exact EJ_iret rfl (dk_172 (bt bc_Scribe_takeNumber_1 7 rfl))
    · refine EJ_aload_n 26 0 (dk_42 (bt bc_Scribe_takeNumber_0 25 rfl)) rfl rfl ?_
      refine EJ_getR cf8 8 (by decide) 29 tw_93 (fun _ _ _ => rfl) (dk_180 (bt bc_Scribe_takeNumber_0 26 rfl) (bt bc_Scribe_takeNumber_0 27 rfl) (bt bc_Scribe_takeNumber_0 28 rfl) (n := 30) rfl) rfl (of_decide_eq_true h1) (fun b4 => ?_)
      refine EJ_aload_n 30 0 (dk_42 (bt bc_Scribe_takeNumber_0 29 rfl)) rfl rfl ?_
      refine EJ_getI cf8 10 (by decide) 33 tw_95 (fun _ _ _ => rfl) (dk_180 (bt bc_Scribe_takeNumber_0 30 rfl) (bt bc_Scribe_takeNumber_0 31 rfl) (bt bc_Scribe_takeNumber_1 0 rfl) (n := 43) rfl) rfl (of_decide_eq_true h1) ?_
      refine EJ_ck (fun h5 => ?_)
      refine EJ_iald 34 h5 (dk_46 (bt bc_Scribe_takeNumber_1 1 rfl)) rfl ?_
      refine EJ_iload_n 35 1 (dk_27 (bt bc_Scribe_takeNumber_1 2 rfl)) rfl rfl ?_
      refine EJ_icmp_ge 40 38 (dk_162 (bt bc_Scribe_takeNumber_1 3 rfl) (bt bc_Scribe_takeNumber_1 4 rfl) (bt bc_Scribe_takeNumber_1 5 rfl) (n := 5) rfl) (by decide) rfl (fun _ => ?_) (fun _ => ?_)
      · refine EJ_aload_n 41 0 (dk_42 (bt bc_Scribe_takeNumber_1 8 rfl)) rfl rfl ?_
        refine EJ_dup 42 (dk_89 (bt bc_Scribe_takeNumber_1 9 rfl)) rfl rfl ?_
        refine EJ_getI cf8 10 (by decide) 45 tw_95 (fun _ _ _ => rfl) (dk_180 (bt bc_Scribe_takeNumber_1 10 rfl) (bt bc_Scribe_takeNumber_1 11 rfl) (bt bc_Scribe_takeNumber_1 12 rfl) (n := 43) rfl) rfl (of_decide_eq_true h1) ?_
        refine EJ_iconst 46 (dk_4 (bt bc_Scribe_takeNumber_1 13 rfl)) rfl (v := 1) kI_1 ?_
        refine EJ_iadd 47 (dk_96 (bt bc_Scribe_takeNumber_1 14 rfl)) rfl ?_
        refine EJ_putI cf8 10 (by decide) 50 tw_95 rfl (Or.inl rfl) (dk_181 (bt bc_Scribe_takeNumber_1 15 rfl) (bt bc_Scribe_takeNumber_1 16 rfl) (bt bc_Scribe_takeNumber_1 17 rfl) (n := 43) rfl) rfl (of_decide_eq_true h1) ?_
        refine EJ_aload_n 51 0 (dk_42 (bt bc_Scribe_takeNumber_1 18 rfl)) rfl rfl ?_
        refine EJ_getR cf8 8 (by decide) 54 tw_93 (fun _ _ _ => rfl) (dk_180 (bt bc_Scribe_takeNumber_1 19 rfl) (bt bc_Scribe_takeNumber_1 20 rfl) (bt bc_Scribe_takeNumber_1 21 rfl) (n := 30) rfl) rfl (kp_I (of_decide_eq_true h1)) (fun b7 => ?_)
        refine EJ_aload_n 55 0 (dk_42 (bt bc_Scribe_takeNumber_1 22 rfl)) rfl rfl ?_
        refine EJ_getI cf8 10 (by decide) 58 tw_95 (fun _ _ _ => rfl) (dk_180 (bt bc_Scribe_takeNumber_1 23 rfl) (bt bc_Scribe_takeNumber_1 24 rfl) (bt bc_Scribe_takeNumber_1 25 rfl) (n := 43) rfl) rfl (kp_I (of_decide_eq_true h1)) ?_
        refine EJ_iconst 59 (dk_4 (bt bc_Scribe_takeNumber_1 26 rfl)) rfl (v := 1) kI_1 ?_
        refine EJ_isub 60 (dk_100 (bt bc_Scribe_takeNumber_1 27 rfl)) rfl ?_
        refine EJ_ck (fun h8 => ?_)
        refine EJ_iald 61 h8 (dk_46 (bt bc_Scribe_takeNumber_1 28 rfl)) rfl ?_
        exact EJ_iret rfl (dk_172 (bt bc_Scribe_takeNumber_1 29 rfl))
      · refine EJ_iconst 39 (dk_2 (bt bc_Scribe_takeNumber_1 6 rfl)) rfl (v := (-1)) kI_m1 ?_
        exact EJ_iret rfl (dk_172 (bt bc_Scribe_takeNumber_1 7 rfl))
abbrev Y_Scribe_readComparison : Ym := (⟨"RiceHall$Scribe", "readComparison", "()Z"⟩, prog_10_method_20_code, 4, (some FieldType.boolean))
theorem bc_Scribe_readComparison_0 : bts prog_10_method_20_code 0 [42, 16, 11, 16, 17, 182, 0, 100, 60, 27, 2, 160, 0, 5, 3, 172, 42, 16, 24, 16, 26, 182, 0, 100, 61, 28, 2, 160, 0, 5, 3, 172] := bts_of (by decide +kernel)
theorem bc_Scribe_readComparison_1 : bts prog_10_method_20_code 32 [42, 3, 182, 0, 107, 62, 29, 2, 159, 0, 24, 42, 27, 6, 104, 28, 96, 18, 123, 104, 29, 96, 182, 0, 113, 153, 0, 7, 4, 167, 0, 4] := bts_of (by decide +kernel)
theorem bc_Scribe_readComparison_2 : bts prog_10_method_20_code 64 [3, 172] := bts_of (by decide +kernel)
theorem hd_Scribe_readComparison : Y_Scribe_readComparison.1.cls = RX8 ∧ Y_Scribe_readComparison.1.cls ≠ "java/lang/invoke/MethodHandle" ∧ Y_Scribe_readComparison.1.cls ≠ "java/lang/invoke/VarHandle" ∧ (parseMethodDescriptor Y_Scribe_readComparison.1.desc).map (fun d => d.parameters.length) = some 0 := by decide +kernel
def Scribe_readComparison (M : Mm) (a0 : Nat) : Option (Int32 × Mm) :=
  ck (kO M a0 8 11) (
  bd (Scribe_takeOf M a0 11 17) (fun r2 M3 =>
  if r2 = (-1) then (
    some (0, M3))
  else (
    ck (kO M3 a0 8 11) (
    bd (Scribe_takeOf M3 a0 24 26) (fun r5 M6 =>
    if r5 = (-1) then (
      some (0, M6))
    else (
      ck (kO M6 a0 8 11) (
      bd (Scribe_takeNumber M6 a0 0) (fun r8 M9 =>
      if r8 = (-1) then (
        some (0, M9))
      else (
        ck (kO M9 a0 8 11) (
        bd (Scribe_put M9 a0 ((((r2 * 3) + r5) * 100000) + r8)) (fun r11 M12 =>
        if r11 = 0 then (
          some (0, M12))
        else (
          some (1, M12)))))))))))))
set_option maxRecDepth 100000 in
set_option maxHeartbeats 4000000 in
theorem s_Scribe_readComparison (G : Gx) (M : Mm) (a0 : Nat) : FnS G Y_Scribe_readComparison cvI 2 [.ref a0] M (Scribe_readComparison M a0) := by
  refine FnS.ofE (by decide) (Nat.le_of_ble_eq_true rfl) ?_
  show EJ G Y_Scribe_readComparison cvI 2 0 [(0, .ref a0)] [] M _
  unfold Scribe_readComparison
  refine EJ_aload_n 1 0 (dk_42 (bt bc_Scribe_readComparison_0 0 rfl)) rfl rfl ?_
  refine EJ_bipush 3 (dk_16 (bt bc_Scribe_readComparison_0 1 rfl) (bt bc_Scribe_readComparison_0 2 rfl) (n := 11) rfl) rfl (v := 11) kB_11 ?_
  refine EJ_bipush 5 (dk_16 (bt bc_Scribe_readComparison_0 3 rfl) (bt bc_Scribe_readComparison_0 4 rfl) (n := 17) rfl) rfl (v := 17) kB_17 ?_
  refine EJ_ck (fun h1 => ?_)
  refine EJ_callVi (Y2 := Y_Scribe_takeOf) 8 cf8 (s_Scribe_takeOf G _ _ _ _) (of_decide_eq_true h1) rfl (dk_182 (bt bc_Scribe_readComparison_0 5 rfl) (bt bc_Scribe_readComparison_0 6 rfl) (bt bc_Scribe_readComparison_0 7 rfl) (n := 100) rfl) rfl tw_736 tw_738 ts_21 tw_739 hd_Scribe_takeOf rfl (by decide) (Nat.le_of_ble_eq_true rfl) (fun r2 M3 => ?_)
  refine EJ_istore_n 9 (lv2 := [(1, .int _), (0, .ref _)]) (dk_60 (bt bc_Scribe_readComparison_0 8 rfl)) rfl (by decide) rfl ?_
  refine EJ_iload_n 10 0 (dk_27 (bt bc_Scribe_readComparison_0 9 rfl)) rfl rfl ?_
  refine EJ_iconst 11 (dk_2 (bt bc_Scribe_readComparison_0 10 rfl)) rfl (v := (-1)) kI_m1 ?_
  refine EJ_icmp_ne 16 14 (dk_160 (bt bc_Scribe_readComparison_0 11 rfl) (bt bc_Scribe_readComparison_0 12 rfl) (bt bc_Scribe_readComparison_0 13 rfl) (n := 5) rfl) (by decide) rfl (fun _ => ?_) (fun _ => ?_)
  · refine EJ_aload_n 17 1 (dk_42 (bt bc_Scribe_readComparison_0 16 rfl)) rfl rfl ?_
    refine EJ_bipush 19 (dk_16 (bt bc_Scribe_readComparison_0 17 rfl) (bt bc_Scribe_readComparison_0 18 rfl) (n := 24) rfl) rfl (v := 24) kB_24 ?_
    refine EJ_bipush 21 (dk_16 (bt bc_Scribe_readComparison_0 19 rfl) (bt bc_Scribe_readComparison_0 20 rfl) (n := 26) rfl) rfl (v := 26) kB_26 ?_
    refine EJ_ck (fun h4 => ?_)
    refine EJ_callVi (Y2 := Y_Scribe_takeOf) 24 cf8 (s_Scribe_takeOf G _ _ _ _) (of_decide_eq_true h4) rfl (dk_182 (bt bc_Scribe_readComparison_0 21 rfl) (bt bc_Scribe_readComparison_0 22 rfl) (bt bc_Scribe_readComparison_0 23 rfl) (n := 100) rfl) rfl tw_736 tw_738 ts_21 tw_739 hd_Scribe_takeOf rfl (by decide) (Nat.le_of_ble_eq_true rfl) (fun r5 M6 => ?_)
    refine EJ_istore_n 25 (lv2 := [(2, .int _), (1, .int _), (0, .ref _)]) (dk_61 (bt bc_Scribe_readComparison_0 24 rfl)) rfl (by decide) rfl ?_
    refine EJ_iload_n 26 0 (dk_28 (bt bc_Scribe_readComparison_0 25 rfl)) rfl rfl ?_
    refine EJ_iconst 27 (dk_2 (bt bc_Scribe_readComparison_0 26 rfl)) rfl (v := (-1)) kI_m1 ?_
    refine EJ_icmp_ne 32 30 (dk_160 (bt bc_Scribe_readComparison_0 27 rfl) (bt bc_Scribe_readComparison_0 28 rfl) (bt bc_Scribe_readComparison_0 29 rfl) (n := 5) rfl) (by decide) rfl (fun _ => ?_) (fun _ => ?_)
    · refine EJ_aload_n 33 2 (dk_42 (bt bc_Scribe_readComparison_1 0 rfl)) rfl rfl ?_
      refine EJ_iconst 34 (dk_3 (bt bc_Scribe_readComparison_1 1 rfl)) rfl (v := 0) kI_0 ?_
      refine EJ_ck (fun h7 => ?_)
      refine EJ_callVi (Y2 := Y_Scribe_takeNumber) 37 cf8 (s_Scribe_takeNumber G _ _ _) (of_decide_eq_true h7) rfl (dk_182 (bt bc_Scribe_readComparison_1 2 rfl) (bt bc_Scribe_readComparison_1 3 rfl) (bt bc_Scribe_readComparison_1 4 rfl) (n := 107) rfl) rfl tw_740 tw_742 ts_22 tw_743 hd_Scribe_takeNumber rfl (by decide) (Nat.le_of_ble_eq_true rfl) (fun r8 M9 => ?_)
      refine EJ_istore_n 38 (lv2 := [(3, .int _), (2, .int _), (1, .int _), (0, .ref _)]) (dk_62 (bt bc_Scribe_readComparison_1 5 rfl)) rfl (by decide) rfl ?_
      refine EJ_iload_n 39 0 (dk_29 (bt bc_Scribe_readComparison_1 6 rfl)) rfl rfl ?_
      refine EJ_iconst 40 (dk_2 (bt bc_Scribe_readComparison_1 7 rfl)) rfl (v := (-1)) kI_m1 ?_
      refine EJ_icmp_eq 64 43 (dk_159 (bt bc_Scribe_readComparison_1 8 rfl) (bt bc_Scribe_readComparison_1 9 rfl) (bt bc_Scribe_readComparison_1 10 rfl) (n := 24) rfl) (by decide) rfl (fun _ => ?_) (fun _ => ?_)
      · refine EJ_iconst 65 (dk_3 (bt bc_Scribe_readComparison_2 0 rfl)) rfl (v := 0) kI_0 ?_
        exact EJ_zret rfl (by decide) (dk_172 (bt bc_Scribe_readComparison_2 1 rfl))
      · refine EJ_aload_n 44 3 (dk_42 (bt bc_Scribe_readComparison_1 11 rfl)) rfl rfl ?_
        refine EJ_iload_n 45 2 (dk_27 (bt bc_Scribe_readComparison_1 12 rfl)) rfl rfl ?_
        refine EJ_iconst 46 (dk_6 (bt bc_Scribe_readComparison_1 13 rfl)) rfl (v := 3) kI_3 ?_
        refine EJ_imul 47 (dk_104 (bt bc_Scribe_readComparison_1 14 rfl)) rfl ?_
        refine EJ_iload_n 48 1 (dk_28 (bt bc_Scribe_readComparison_1 15 rfl)) rfl rfl ?_
        refine EJ_iadd 49 (dk_96 (bt bc_Scribe_readComparison_1 16 rfl)) rfl ?_
        refine EJ_ldc 51 (dk_18 (bt bc_Scribe_readComparison_1 17 rfl) (bt bc_Scribe_readComparison_1 18 rfl)) rfl tw_744 ?_
        refine EJ_imul 52 (dk_104 (bt bc_Scribe_readComparison_1 19 rfl)) rfl ?_
        refine EJ_iload_n 53 0 (dk_29 (bt bc_Scribe_readComparison_1 20 rfl)) rfl rfl ?_
        refine EJ_iadd 54 (dk_96 (bt bc_Scribe_readComparison_1 21 rfl)) rfl ?_
        refine EJ_ck (fun h10 => ?_)
        refine EJ_callVi (Y2 := Y_Scribe_put) 57 cf8 (s_Scribe_put G _ _ _) (of_decide_eq_true h10) rfl (dk_182 (bt bc_Scribe_readComparison_1 22 rfl) (bt bc_Scribe_readComparison_1 23 rfl) (bt bc_Scribe_readComparison_1 24 rfl) (n := 113) rfl) rfl tw_728 tw_730 ts_19 tw_731 hd_Scribe_put rfl (by decide) (Nat.le_of_ble_eq_true rfl) (fun r11 M12 => ?_)
        refine EJ_if_eq 64 60 (dk_153 (bt bc_Scribe_readComparison_1 25 rfl) (bt bc_Scribe_readComparison_1 26 rfl) (bt bc_Scribe_readComparison_1 27 rfl) (n := 7) rfl) (by decide) rfl (fun _ => ?_) (fun _ => ?_)
        · refine EJ_iconst 65 (dk_3 (bt bc_Scribe_readComparison_2 0 rfl)) rfl (v := 0) kI_0 ?_
          exact EJ_zret rfl (by decide) (dk_172 (bt bc_Scribe_readComparison_2 1 rfl))
        · refine EJ_iconst 61 (dk_4 (bt bc_Scribe_readComparison_1 28 rfl)) rfl (v := 1) kI_1 ?_
          refine EJ_goto 65 (dk_167 (bt bc_Scribe_readComparison_1 29 rfl) (bt bc_Scribe_readComparison_1 30 rfl) (bt bc_Scribe_readComparison_1 31 rfl) (n := 4) rfl) (by decide) ?_
          exact EJ_zret rfl (by decide) (dk_172 (bt bc_Scribe_readComparison_2 1 rfl))
    · refine EJ_iconst 31 (dk_3 (bt bc_Scribe_readComparison_0 30 rfl)) rfl (v := 0) kI_0 ?_
      exact EJ_zret rfl (by decide) (dk_172 (bt bc_Scribe_readComparison_0 31 rfl))
  · refine EJ_iconst 15 (dk_3 (bt bc_Scribe_readComparison_0 14 rfl)) rfl (v := 0) kI_0 ?_
    exact EJ_zret rfl (by decide) (dk_172 (bt bc_Scribe_readComparison_0 15 rfl))
abbrev Y_Scribe_readFact : Ym := (⟨"RiceHall$Scribe", "readFact", "(I)Z"⟩, prog_10_method_19_code, 2, (some FieldType.boolean))
theorem bc_Scribe_readFact_0 : bts prog_10_method_19_code 0 [27, 16, 8, 162, 0, 37, 42, 16, 23, 182, 0, 93, 153, 0, 28, 42, 27, 4, 96, 182, 0, 116, 153, 0, 16, 42, 16, 253, 182, 0, 113, 153] := bts_of (by decide +kernel)
theorem bc_Scribe_readFact_1 : bts prog_10_method_19_code 32 [0, 7, 4, 167, 0, 4, 3, 172, 27, 16, 8, 162, 0, 37, 42, 16, 28, 182, 0, 93, 153, 0, 28, 42, 27, 4, 96, 182, 0, 97, 153, 0] := bts_of (by decide +kernel)
theorem bc_Scribe_readFact_2 : bts prog_10_method_19_code 64 [16, 42, 16, 29, 182, 0, 93, 153, 0, 7, 4, 167, 0, 4, 3, 172, 42, 182, 0, 119, 172] := bts_of (by decide +kernel)
theorem hd_Scribe_readFact : Y_Scribe_readFact.1.cls = RX8 ∧ Y_Scribe_readFact.1.cls ≠ "java/lang/invoke/MethodHandle" ∧ Y_Scribe_readFact.1.cls ≠ "java/lang/invoke/VarHandle" ∧ (parseMethodDescriptor Y_Scribe_readFact.1.desc).map (fun d => d.parameters.length) = some 1 := by decide +kernel
abbrev Y_Scribe_readAll : Ym := (⟨"RiceHall$Scribe", "readAll", "(I)Z"⟩, prog_10_method_18_code, 3, (some FieldType.boolean))
theorem bc_Scribe_readAll_0 : bts prog_10_method_18_code 0 [42, 27, 182, 0, 116, 154, 0, 5, 3, 172, 3, 61, 28, 42, 180, 0, 40, 162, 0, 34, 42, 16, 22, 182, 0, 93, 153, 0, 25, 42, 27, 182] := bts_of (by decide +kernel)
theorem bc_Scribe_readAll_1 : bts prog_10_method_18_code 32 [0, 116, 154, 0, 5, 3, 172, 42, 2, 182, 0, 113, 87, 132, 2, 1, 167, 255, 220, 4, 172] := bts_of (by decide +kernel)
theorem hd_Scribe_readAll : Y_Scribe_readAll.1.cls = RX8 ∧ Y_Scribe_readAll.1.cls ≠ "java/lang/invoke/MethodHandle" ∧ Y_Scribe_readAll.1.cls ≠ "java/lang/invoke/VarHandle" ∧ (parseMethodDescriptor Y_Scribe_readAll.1.desc).map (fun d => d.parameters.length) = some 1 := by decide +kernel
abbrev Y_Scribe_readCondition : Ym := (⟨"RiceHall$Scribe", "readCondition", "(I)Z"⟩, prog_10_method_17_code, 3, (some FieldType.boolean))
theorem bc_Scribe_readCondition_0 : bts prog_10_method_17_code 0 [42, 27, 182, 0, 110, 154, 0, 5, 3, 172, 3, 61, 28, 42, 180, 0, 40, 162, 0, 35, 42, 16, 21, 182, 0, 93, 153, 0, 26, 42, 27, 182] := bts_of (by decide +kernel)
theorem bc_Scribe_readCondition_1 : bts prog_10_method_17_code 32 [0, 110, 154, 0, 5, 3, 172, 42, 16, 254, 182, 0, 113, 87, 132, 2, 1, 167, 255, 219, 4, 172] := bts_of (by decide +kernel)
theorem hd_Scribe_readCondition : Y_Scribe_readCondition.1.cls = RX8 ∧ Y_Scribe_readCondition.1.cls ≠ "java/lang/invoke/MethodHandle" ∧ Y_Scribe_readCondition.1.cls ≠ "java/lang/invoke/VarHandle" ∧ (parseMethodDescriptor Y_Scribe_readCondition.1.desc).map (fun d => d.parameters.length) = some 1 := by decide +kernel
def Scribe_readFact_J80 (rC : Mm → Nat → Int32 → Option (Int32 × Mm)) (rF : Mm → Nat → Int32 → Option (Int32 × Mm)) (x0 : Nat) (M : Mm) : Option (Int32 × Mm) :=
  ck (kO M x0 8 11) (
  bd (Scribe_readComparison M x0) (fun r2 M3 =>
  ck (kZ r2) (
  some (r2, M3))))
set_option maxRecDepth 100000 in
set_option maxHeartbeats 4000000 in
theorem e_Scribe_readFact_J80 {G : Gx} {dd drC drF : Nat} (hdd : drC + 1 ≤ dd ∧ drF + 1 ≤ dd ∧ 8 ≤ dd) (rC : Mm → Nat → Int32 → Option (Int32 × Mm)) (rF : Mm → Nat → Int32 → Option (Int32 × Mm)) (hrC : ∀ (M : Mm) (y0 : Nat) (y1 : Int32), FnS G Y_Scribe_readCondition cvI drC [.ref y0, .int y1] M (rC M y0 y1)) (hrF : ∀ (M : Mm) (y0 : Nat) (y1 : Int32), FnS G Y_Scribe_readFact cvI drF [.ref y0, .int y1] M (rF M y0 y1)) (x0 : Nat) (M : Mm) : EJ G Y_Scribe_readFact cvI dd 80 [(0, .ref x0)] [] M (Scribe_readFact_J80 rC rF x0 M) := by
  unfold Scribe_readFact_J80
  refine EJ_aload_n 81 0 (dk_42 (bt bc_Scribe_readFact_2 16 rfl)) rfl rfl ?_
  refine EJ_ck (fun h1 => ?_)
  refine EJ_callVi (Y2 := Y_Scribe_readComparison) 84 cf8 (s_Scribe_readComparison G _ _) (of_decide_eq_true h1) rfl (dk_182 (bt bc_Scribe_readFact_2 17 rfl) (bt bc_Scribe_readFact_2 18 rfl) (bt bc_Scribe_readFact_2 19 rfl) (n := 119) rfl) rfl tw_732 tw_734 ts_20 tw_735 hd_Scribe_readComparison rfl ⟨by omega, by decide⟩ (Nat.le_of_ble_eq_true rfl) (fun r2 M3 => ?_)
  refine EJ_ck (fun h4 => ?_)
  exact EJ_zret rfl h4 (dk_172 (bt bc_Scribe_readFact_2 20 rfl))
def Scribe_readFact_J40 (rC : Mm → Nat → Int32 → Option (Int32 × Mm)) (rF : Mm → Nat → Int32 → Option (Int32 × Mm)) (x0 : Nat) (x1 : Int32) (M : Mm) : Option (Int32 × Mm) :=
  if 8 ≤ x1 then (
    Scribe_readFact_J80 rC rF x0 M)
  else (
    ck (kO M x0 8 11) (
    bd (Scribe_take M x0 28) (fun r6 M7 =>
    if r6 = 0 then (
      Scribe_readFact_J80 rC rF x0 M7)
    else (
      ck (kO M7 x0 8 11) (
      bd (rC M7 x0 (x1 + 1)) (fun r9 M10 =>
      if r9 = 0 then (
        some (0, M10))
      else (
        ck (kO M10 x0 8 11) (
        bd (Scribe_take M10 x0 29) (fun r12 M13 =>
        if r12 = 0 then (
          some (0, M13))
        else (
          some (1, M13)))))))))))
set_option maxRecDepth 100000 in
set_option maxHeartbeats 4000000 in
theorem e_Scribe_readFact_J40 {G : Gx} {dd drC drF : Nat} (hdd : drC + 1 ≤ dd ∧ drF + 1 ≤ dd ∧ 8 ≤ dd) (rC : Mm → Nat → Int32 → Option (Int32 × Mm)) (rF : Mm → Nat → Int32 → Option (Int32 × Mm)) (hrC : ∀ (M : Mm) (y0 : Nat) (y1 : Int32), FnS G Y_Scribe_readCondition cvI drC [.ref y0, .int y1] M (rC M y0 y1)) (hrF : ∀ (M : Mm) (y0 : Nat) (y1 : Int32), FnS G Y_Scribe_readFact cvI drF [.ref y0, .int y1] M (rF M y0 y1)) (x0 : Nat) (x1 : Int32) (M : Mm) : EJ G Y_Scribe_readFact cvI dd 40 [(0, .ref x0), (1, .int x1)] [] M (Scribe_readFact_J40 rC rF x0 x1 M) := by
  unfold Scribe_readFact_J40
  refine EJ_iload_n 41 1 (dk_27 (bt bc_Scribe_readFact_1 8 rfl)) rfl rfl ?_
  refine EJ_bipush 43 (dk_16 (bt bc_Scribe_readFact_1 9 rfl) (bt bc_Scribe_readFact_1 10 rfl) (n := 8) rfl) rfl (v := 8) kB_8 ?_
  refine EJ_icmp_ge 80 46 (dk_162 (bt bc_Scribe_readFact_1 11 rfl) (bt bc_Scribe_readFact_1 12 rfl) (bt bc_Scribe_readFact_1 13 rfl) (n := 37) rfl) (by decide) rfl (fun _ => ?_) (fun _ => ?_)
  · exact EJ_pick (lv2 := [(0, .ref _)]) [0] rfl (e_Scribe_readFact_J80 hdd rC rF hrC hrF _ _)
  · refine EJ_aload_n 47 0 (dk_42 (bt bc_Scribe_readFact_1 14 rfl)) rfl rfl ?_
    refine EJ_bipush 49 (dk_16 (bt bc_Scribe_readFact_1 15 rfl) (bt bc_Scribe_readFact_1 16 rfl) (n := 28) rfl) rfl (v := 28) kB_28 ?_
    refine EJ_ck (fun h5 => ?_)
    refine EJ_callVi (Y2 := Y_Scribe_take) 52 cf8 (s_Scribe_take G _ _ _) (of_decide_eq_true h5) rfl (dk_182 (bt bc_Scribe_readFact_1 17 rfl) (bt bc_Scribe_readFact_1 18 rfl) (bt bc_Scribe_readFact_1 19 rfl) (n := 93) rfl) rfl tw_712 tw_714 ts_15 tw_715 hd_Scribe_take rfl ⟨by omega, by decide⟩ (Nat.le_of_ble_eq_true rfl) (fun r6 M7 => ?_)
    refine EJ_if_eq 80 55 (dk_153 (bt bc_Scribe_readFact_1 20 rfl) (bt bc_Scribe_readFact_1 21 rfl) (bt bc_Scribe_readFact_1 22 rfl) (n := 28) rfl) (by decide) rfl (fun _ => ?_) (fun _ => ?_)
    · exact EJ_pick (lv2 := [(0, .ref _)]) [0] rfl (e_Scribe_readFact_J80 hdd rC rF hrC hrF _ _)
    · refine EJ_aload_n 56 0 (dk_42 (bt bc_Scribe_readFact_1 23 rfl)) rfl rfl ?_
      refine EJ_iload_n 57 1 (dk_27 (bt bc_Scribe_readFact_1 24 rfl)) rfl rfl ?_
      refine EJ_iconst 58 (dk_4 (bt bc_Scribe_readFact_1 25 rfl)) rfl (v := 1) kI_1 ?_
      refine EJ_iadd 59 (dk_96 (bt bc_Scribe_readFact_1 26 rfl)) rfl ?_
      refine EJ_ck (fun h8 => ?_)
      refine EJ_callVi (Y2 := Y_Scribe_readCondition) 62 cf8 (hrC _ _ _) (of_decide_eq_true h8) rfl (dk_182 (bt bc_Scribe_readFact_1 27 rfl) (bt bc_Scribe_readFact_1 28 rfl) (bt bc_Scribe_readFact_1 29 rfl) (n := 97) rfl) rfl tw_716 tw_718 ts_16 tw_719 hd_Scribe_readCondition rfl ⟨by omega, by decide⟩ (Nat.le_of_ble_eq_true rfl) (fun r9 M10 => ?_)
      refine EJ_if_eq 78 65 (dk_153 (bt bc_Scribe_readFact_1 30 rfl) (bt bc_Scribe_readFact_1 31 rfl) (bt bc_Scribe_readFact_2 0 rfl) (n := 16) rfl) (by decide) rfl (fun _ => ?_) (fun _ => ?_)
      · refine EJ_iconst 79 (dk_3 (bt bc_Scribe_readFact_2 14 rfl)) rfl (v := 0) kI_0 ?_
        exact EJ_zret rfl (by decide) (dk_172 (bt bc_Scribe_readFact_2 15 rfl))
      · refine EJ_aload_n 66 0 (dk_42 (bt bc_Scribe_readFact_2 1 rfl)) rfl rfl ?_
        refine EJ_bipush 68 (dk_16 (bt bc_Scribe_readFact_2 2 rfl) (bt bc_Scribe_readFact_2 3 rfl) (n := 29) rfl) rfl (v := 29) kB_29 ?_
        refine EJ_ck (fun h11 => ?_)
        refine EJ_callVi (Y2 := Y_Scribe_take) 71 cf8 (s_Scribe_take G _ _ _) (of_decide_eq_true h11) rfl (dk_182 (bt bc_Scribe_readFact_2 4 rfl) (bt bc_Scribe_readFact_2 5 rfl) (bt bc_Scribe_readFact_2 6 rfl) (n := 93) rfl) rfl tw_712 tw_714 ts_15 tw_715 hd_Scribe_take rfl ⟨by omega, by decide⟩ (Nat.le_of_ble_eq_true rfl) (fun r12 M13 => ?_)
        refine EJ_if_eq 78 74 (dk_153 (bt bc_Scribe_readFact_2 7 rfl) (bt bc_Scribe_readFact_2 8 rfl) (bt bc_Scribe_readFact_2 9 rfl) (n := 7) rfl) (by decide) rfl (fun _ => ?_) (fun _ => ?_)
        · refine EJ_iconst 79 (dk_3 (bt bc_Scribe_readFact_2 14 rfl)) rfl (v := 0) kI_0 ?_
          exact EJ_zret rfl (by decide) (dk_172 (bt bc_Scribe_readFact_2 15 rfl))
        · refine EJ_iconst 75 (dk_4 (bt bc_Scribe_readFact_2 10 rfl)) rfl (v := 1) kI_1 ?_
          refine EJ_goto 79 (dk_167 (bt bc_Scribe_readFact_2 11 rfl) (bt bc_Scribe_readFact_2 12 rfl) (bt bc_Scribe_readFact_2 13 rfl) (n := 4) rfl) (by decide) ?_
          exact EJ_zret rfl (by decide) (dk_172 (bt bc_Scribe_readFact_2 15 rfl))
def Scribe_readFact (rC : Mm → Nat → Int32 → Option (Int32 × Mm)) (rF : Mm → Nat → Int32 → Option (Int32 × Mm)) (M : Mm) (a0 : Nat) (a1 : Int32) : Option (Int32 × Mm) :=
  if 8 ≤ a1 then (
    Scribe_readFact_J40 rC rF a0 a1 M)
  else (
    ck (kO M a0 8 11) (
    bd (Scribe_take M a0 23) (fun r15 M16 =>
    if r15 = 0 then (
      Scribe_readFact_J40 rC rF a0 a1 M16)
    else (
      ck (kO M16 a0 8 11) (
      bd (rF M16 a0 (a1 + 1)) (fun r18 M19 =>
      if r18 = 0 then (
        some (0, M19))
      else (
        ck (kO M19 a0 8 11) (
        bd (Scribe_put M19 a0 (-3)) (fun r21 M22 =>
        if r21 = 0 then (
          some (0, M22))
        else (
          some (1, M22)))))))))))
set_option maxRecDepth 100000 in
set_option maxHeartbeats 4000000 in
theorem s_Scribe_readFact (G : Gx) {dd drC drF : Nat} (hdd : drC + 1 ≤ dd ∧ drF + 1 ≤ dd ∧ 8 ≤ dd) (rC : Mm → Nat → Int32 → Option (Int32 × Mm)) (rF : Mm → Nat → Int32 → Option (Int32 × Mm)) (hrC : ∀ (M : Mm) (y0 : Nat) (y1 : Int32), FnS G Y_Scribe_readCondition cvI drC [.ref y0, .int y1] M (rC M y0 y1)) (hrF : ∀ (M : Mm) (y0 : Nat) (y1 : Int32), FnS G Y_Scribe_readFact cvI drF [.ref y0, .int y1] M (rF M y0 y1)) (M : Mm) (a0 : Nat) (a1 : Int32) : FnS G Y_Scribe_readFact cvI dd [.ref a0, .int a1] M (Scribe_readFact rC rF M a0 a1) := by
  refine FnS.ofE (by decide) (Nat.le_of_ble_eq_true rfl) ?_
  show EJ G Y_Scribe_readFact cvI dd 0 [(0, .ref a0), (1, .int a1)] [] M _
  unfold Scribe_readFact
  refine EJ_iload_n 1 1 (dk_27 (bt bc_Scribe_readFact_0 0 rfl)) rfl rfl ?_
  refine EJ_bipush 3 (dk_16 (bt bc_Scribe_readFact_0 1 rfl) (bt bc_Scribe_readFact_0 2 rfl) (n := 8) rfl) rfl (v := 8) kB_8 ?_
  refine EJ_icmp_ge 40 6 (dk_162 (bt bc_Scribe_readFact_0 3 rfl) (bt bc_Scribe_readFact_0 4 rfl) (bt bc_Scribe_readFact_0 5 rfl) (n := 37) rfl) (by decide) rfl (fun _ => ?_) (fun _ => ?_)
  · exact EJ_pick (lv2 := [(0, .ref _), (1, .int _)]) [0, 1] rfl (e_Scribe_readFact_J40 hdd rC rF hrC hrF _ _ _)
  · refine EJ_aload_n 7 0 (dk_42 (bt bc_Scribe_readFact_0 6 rfl)) rfl rfl ?_
    refine EJ_bipush 9 (dk_16 (bt bc_Scribe_readFact_0 7 rfl) (bt bc_Scribe_readFact_0 8 rfl) (n := 23) rfl) rfl (v := 23) kB_23 ?_
    refine EJ_ck (fun h14 => ?_)
    refine EJ_callVi (Y2 := Y_Scribe_take) 12 cf8 (s_Scribe_take G _ _ _) (of_decide_eq_true h14) rfl (dk_182 (bt bc_Scribe_readFact_0 9 rfl) (bt bc_Scribe_readFact_0 10 rfl) (bt bc_Scribe_readFact_0 11 rfl) (n := 93) rfl) rfl tw_712 tw_714 ts_15 tw_715 hd_Scribe_take rfl ⟨by omega, by decide⟩ (Nat.le_of_ble_eq_true rfl) (fun r15 M16 => ?_)
    refine EJ_if_eq 40 15 (dk_153 (bt bc_Scribe_readFact_0 12 rfl) (bt bc_Scribe_readFact_0 13 rfl) (bt bc_Scribe_readFact_0 14 rfl) (n := 28) rfl) (by decide) rfl (fun _ => ?_) (fun _ => ?_)
    · exact EJ_pick (lv2 := [(0, .ref _), (1, .int _)]) [0, 1] rfl (e_Scribe_readFact_J40 hdd rC rF hrC hrF _ _ _)
    · refine EJ_aload_n 16 0 (dk_42 (bt bc_Scribe_readFact_0 15 rfl)) rfl rfl ?_
      refine EJ_iload_n 17 1 (dk_27 (bt bc_Scribe_readFact_0 16 rfl)) rfl rfl ?_
      refine EJ_iconst 18 (dk_4 (bt bc_Scribe_readFact_0 17 rfl)) rfl (v := 1) kI_1 ?_
      refine EJ_iadd 19 (dk_96 (bt bc_Scribe_readFact_0 18 rfl)) rfl ?_
      refine EJ_ck (fun h17 => ?_)
      refine EJ_callVi (Y2 := Y_Scribe_readFact) 22 cf8 (hrF _ _ _) (of_decide_eq_true h17) rfl (dk_182 (bt bc_Scribe_readFact_0 19 rfl) (bt bc_Scribe_readFact_0 20 rfl) (bt bc_Scribe_readFact_0 21 rfl) (n := 116) rfl) rfl tw_724 tw_726 ts_18 tw_727 hd_Scribe_readFact rfl ⟨by omega, by decide⟩ (Nat.le_of_ble_eq_true rfl) (fun r18 M19 => ?_)
      refine EJ_if_eq 38 25 (dk_153 (bt bc_Scribe_readFact_0 22 rfl) (bt bc_Scribe_readFact_0 23 rfl) (bt bc_Scribe_readFact_0 24 rfl) (n := 16) rfl) (by decide) rfl (fun _ => ?_) (fun _ => ?_)
      · refine EJ_iconst 39 (dk_3 (bt bc_Scribe_readFact_1 6 rfl)) rfl (v := 0) kI_0 ?_
        exact EJ_zret rfl (by decide) (dk_172 (bt bc_Scribe_readFact_1 7 rfl))
      · refine EJ_aload_n 26 0 (dk_42 (bt bc_Scribe_readFact_0 25 rfl)) rfl rfl ?_
        refine EJ_bipush 28 (dk_16 (bt bc_Scribe_readFact_0 26 rfl) (bt bc_Scribe_readFact_0 27 rfl) (n := -3) rfl) rfl (v := (-3)) kB_m3 ?_
        refine EJ_ck (fun h20 => ?_)
        refine EJ_callVi (Y2 := Y_Scribe_put) 31 cf8 (s_Scribe_put G _ _ _) (of_decide_eq_true h20) rfl (dk_182 (bt bc_Scribe_readFact_0 28 rfl) (bt bc_Scribe_readFact_0 29 rfl) (bt bc_Scribe_readFact_0 30 rfl) (n := 113) rfl) rfl tw_728 tw_730 ts_19 tw_731 hd_Scribe_put rfl ⟨by omega, by decide⟩ (Nat.le_of_ble_eq_true rfl) (fun r21 M22 => ?_)
        refine EJ_if_eq 38 34 (dk_153 (bt bc_Scribe_readFact_0 31 rfl) (bt bc_Scribe_readFact_1 0 rfl) (bt bc_Scribe_readFact_1 1 rfl) (n := 7) rfl) (by decide) rfl (fun _ => ?_) (fun _ => ?_)
        · refine EJ_iconst 39 (dk_3 (bt bc_Scribe_readFact_1 6 rfl)) rfl (v := 0) kI_0 ?_
          exact EJ_zret rfl (by decide) (dk_172 (bt bc_Scribe_readFact_1 7 rfl))
        · refine EJ_iconst 35 (dk_4 (bt bc_Scribe_readFact_1 2 rfl)) rfl (v := 1) kI_1 ?_
          refine EJ_goto 39 (dk_167 (bt bc_Scribe_readFact_1 3 rfl) (bt bc_Scribe_readFact_1 4 rfl) (bt bc_Scribe_readFact_1 5 rfl) (n := 4) rfl) (by decide) ?_
          exact EJ_zret rfl (by decide) (dk_172 (bt bc_Scribe_readFact_1 7 rfl))
def Scribe_readAll_B12 (rF : Mm → Nat → Int32 → Option (Int32 × Mm)) (k12 : Nat → Int32 → Int32 → Mm → Option (Int32 × Mm)) (x0 : Nat) (x1 : Int32) (x2 : Int32) (M : Mm) : Option (Int32 × Mm) :=
  ck (kO M x0 8 11) (
  if (mI M x0 9) ≤ x2 then (
    some (1, M))
  else (
    bd (Scribe_take M x0 22) (fun r5 M6 =>
    if r5 = 0 then (
      some (1, M6))
    else (
      ck (kO M6 x0 8 11) (
      bd (rF M6 x0 x1) (fun r8 M9 =>
      if r8 = 0 then (
        some (0, M9))
      else (
        ck (kO M9 x0 8 11) (
        bd (Scribe_put M9 x0 (-1)) (fun r11 M12 =>
        let v13 : Int32 := x2 + 1
        k12 x0 x1 v13 M12)))))))))
set_option maxRecDepth 100000 in
set_option maxHeartbeats 4000000 in
theorem e_Scribe_readAll_B12 {G : Gx} {dd drF : Nat} (hdd : drF + 1 ≤ dd ∧ 8 ≤ dd) (rF : Mm → Nat → Int32 → Option (Int32 × Mm)) (hrF : ∀ (M : Mm) (y0 : Nat) (y1 : Int32), FnS G Y_Scribe_readFact cvI drF [.ref y0, .int y1] M (rF M y0 y1)) (k12 : Nat → Int32 → Int32 → Mm → Option (Int32 × Mm)) (hk12 : ∀ (x0 : Nat) (x1 : Int32) (x2 : Int32) (M : Mm), EJ G Y_Scribe_readAll cvI dd 12 [(0, .ref x0), (1, .int x1), (2, .int x2)] [] M (k12 x0 x1 x2 M)) (x0 : Nat) (x1 : Int32) (x2 : Int32) (M : Mm) : EJ G Y_Scribe_readAll cvI dd 12 [(0, .ref x0), (1, .int x1), (2, .int x2)] [] M (Scribe_readAll_B12 rF k12 x0 x1 x2 M) := by
  unfold Scribe_readAll_B12
  refine EJ_iload_n 13 2 (dk_28 (bt bc_Scribe_readAll_0 12 rfl)) rfl rfl ?_
  refine EJ_aload_n 14 0 (dk_42 (bt bc_Scribe_readAll_0 13 rfl)) rfl rfl ?_
  refine EJ_ck (fun h4 => ?_)
  refine EJ_getI cf8 9 (by decide) 17 tw_94 (fun _ _ _ => rfl) (dk_180 (bt bc_Scribe_readAll_0 14 rfl) (bt bc_Scribe_readAll_0 15 rfl) (bt bc_Scribe_readAll_0 16 rfl) (n := 40) rfl) rfl (of_decide_eq_true h4) ?_
  refine EJ_icmp_ge 51 20 (dk_162 (bt bc_Scribe_readAll_0 17 rfl) (bt bc_Scribe_readAll_0 18 rfl) (bt bc_Scribe_readAll_0 19 rfl) (n := 34) rfl) (by decide) rfl (fun _ => ?_) (fun _ => ?_)
  · refine EJ_iconst 52 (dk_4 (bt bc_Scribe_readAll_1 19 rfl)) rfl (v := 1) kI_1 ?_
    exact EJ_zret rfl (by decide) (dk_172 (bt bc_Scribe_readAll_1 20 rfl))
  · refine EJ_aload_n 21 0 (dk_42 (bt bc_Scribe_readAll_0 20 rfl)) rfl rfl ?_
    refine EJ_bipush 23 (dk_16 (bt bc_Scribe_readAll_0 21 rfl) (bt bc_Scribe_readAll_0 22 rfl) (n := 22) rfl) rfl (v := 22) kB_22 ?_
    refine EJ_callVi (Y2 := Y_Scribe_take) 26 cf8 (s_Scribe_take G _ _ _) (of_decide_eq_true h4) rfl (dk_182 (bt bc_Scribe_readAll_0 23 rfl) (bt bc_Scribe_readAll_0 24 rfl) (bt bc_Scribe_readAll_0 25 rfl) (n := 93) rfl) rfl tw_712 tw_714 ts_15 tw_715 hd_Scribe_take rfl ⟨by omega, by decide⟩ (Nat.le_of_ble_eq_true rfl) (fun r5 M6 => ?_)
    refine EJ_if_eq 51 29 (dk_153 (bt bc_Scribe_readAll_0 26 rfl) (bt bc_Scribe_readAll_0 27 rfl) (bt bc_Scribe_readAll_0 28 rfl) (n := 25) rfl) (by decide) rfl (fun _ => ?_) (fun _ => ?_)
    · refine EJ_iconst 52 (dk_4 (bt bc_Scribe_readAll_1 19 rfl)) rfl (v := 1) kI_1 ?_
      exact EJ_zret rfl (by decide) (dk_172 (bt bc_Scribe_readAll_1 20 rfl))
    · refine EJ_aload_n 30 0 (dk_42 (bt bc_Scribe_readAll_0 29 rfl)) rfl rfl ?_
      refine EJ_iload_n 31 1 (dk_27 (bt bc_Scribe_readAll_0 30 rfl)) rfl rfl ?_
      refine EJ_ck (fun h7 => ?_)
      refine EJ_callVi (Y2 := Y_Scribe_readFact) 34 cf8 (hrF _ _ _) (of_decide_eq_true h7) rfl (dk_182 (bt bc_Scribe_readAll_0 31 rfl) (bt bc_Scribe_readAll_1 0 rfl) (bt bc_Scribe_readAll_1 1 rfl) (n := 116) rfl) rfl tw_724 tw_726 ts_18 tw_727 hd_Scribe_readFact rfl ⟨by omega, by decide⟩ (Nat.le_of_ble_eq_true rfl) (fun r8 M9 => ?_)
      refine EJ_if_ne 39 37 (dk_154 (bt bc_Scribe_readAll_1 2 rfl) (bt bc_Scribe_readAll_1 3 rfl) (bt bc_Scribe_readAll_1 4 rfl) (n := 5) rfl) (by decide) rfl (fun _ => ?_) (fun _ => ?_)
      · refine EJ_aload_n 40 0 (dk_42 (bt bc_Scribe_readAll_1 7 rfl)) rfl rfl ?_
        refine EJ_iconst 41 (dk_2 (bt bc_Scribe_readAll_1 8 rfl)) rfl (v := (-1)) kI_m1 ?_
        refine EJ_ck (fun h10 => ?_)
        refine EJ_callVi (Y2 := Y_Scribe_put) 44 cf8 (s_Scribe_put G _ _ _) (of_decide_eq_true h10) rfl (dk_182 (bt bc_Scribe_readAll_1 9 rfl) (bt bc_Scribe_readAll_1 10 rfl) (bt bc_Scribe_readAll_1 11 rfl) (n := 113) rfl) rfl tw_728 tw_730 ts_19 tw_731 hd_Scribe_put rfl ⟨by omega, by decide⟩ (Nat.le_of_ble_eq_true rfl) (fun r11 M12 => ?_)
        refine EJ_pop 45 (dk_87 (bt bc_Scribe_readAll_1 12 rfl)) rfl rfl ?_
        refine EJ_iinc 48 2 (lv2 := [(2, .int _), (0, .ref _), (1, .int _)]) (dk_132 (bt bc_Scribe_readAll_1 13 rfl) (bt bc_Scribe_readAll_1 14 rfl) (bt bc_Scribe_readAll_1 15 rfl) (n := 1) rfl) rfl (by decide) rfl (v := 1) kI_1 rfl ?_
        refine EJ_goto 12 (dk_167 (bt bc_Scribe_readAll_1 16 rfl) (bt bc_Scribe_readAll_1 17 rfl) (bt bc_Scribe_readAll_1 18 rfl) (n := -36) rfl) (by decide) ?_
        exact EJ_pick (lv2 := [(0, .ref _), (1, .int _), (2, .int _)]) [1, 2, 0] rfl (hk12 _ _ _ _)
      · refine EJ_iconst 38 (dk_3 (bt bc_Scribe_readAll_1 5 rfl)) rfl (v := 0) kI_0 ?_
        exact EJ_zret rfl (by decide) (dk_172 (bt bc_Scribe_readAll_1 6 rfl))
def Scribe_readAll_L12 (rF : Mm → Nat → Int32 → Option (Int32 × Mm)) (n : Nat) : Nat → Int32 → Int32 → Mm → Option (Int32 × Mm) :=
  match n with
  | 0 => fun _ _ _ _ => none
  | n + 1 => Scribe_readAll_B12 rF (Scribe_readAll_L12 rF n)
theorem e_Scribe_readAll_L12 {G : Gx} {dd drF : Nat} (hdd : drF + 1 ≤ dd ∧ 8 ≤ dd) (rF : Mm → Nat → Int32 → Option (Int32 × Mm)) (hrF : ∀ (M : Mm) (y0 : Nat) (y1 : Int32), FnS G Y_Scribe_readFact cvI drF [.ref y0, .int y1] M (rF M y0 y1)) : ∀ (n : Nat) (x0 : Nat) (x1 : Int32) (x2 : Int32) (M : Mm), EJ G Y_Scribe_readAll cvI dd 12 [(0, .ref x0), (1, .int x1), (2, .int x2)] [] M (Scribe_readAll_L12 rF n x0 x1 x2 M) := by
  intro n
  induction n with
  | zero => intros; exact EJ_none
  | succ n ih => intro x0 x1 x2 M; exact e_Scribe_readAll_B12 hdd rF hrF _ ih x0 x1 x2 M
def Scribe_readAll (rF : Mm → Nat → Int32 → Option (Int32 × Mm)) (M : Mm) (a0 : Nat) (a1 : Int32) : Option (Int32 × Mm) :=
  ck (kO M a0 8 11) (
  bd (rF M a0 a1) (fun r2 M3 =>
  if r2 = 0 then (
    some (0, M3))
  else (
    Scribe_readAll_L12 rF fu a0 a1 0 M3)))
set_option maxRecDepth 100000 in
set_option maxHeartbeats 4000000 in
theorem s_Scribe_readAll (G : Gx) {dd drF : Nat} (hdd : drF + 1 ≤ dd ∧ 8 ≤ dd) (rF : Mm → Nat → Int32 → Option (Int32 × Mm)) (hrF : ∀ (M : Mm) (y0 : Nat) (y1 : Int32), FnS G Y_Scribe_readFact cvI drF [.ref y0, .int y1] M (rF M y0 y1)) (M : Mm) (a0 : Nat) (a1 : Int32) : FnS G Y_Scribe_readAll cvI dd [.ref a0, .int a1] M (Scribe_readAll rF M a0 a1) := by
  refine FnS.ofE (by decide) (Nat.le_of_ble_eq_true rfl) ?_
  show EJ G Y_Scribe_readAll cvI dd 0 [(0, .ref a0), (1, .int a1)] [] M _
  unfold Scribe_readAll
  refine EJ_aload_n 1 0 (dk_42 (bt bc_Scribe_readAll_0 0 rfl)) rfl rfl ?_
  refine EJ_iload_n 2 1 (dk_27 (bt bc_Scribe_readAll_0 1 rfl)) rfl rfl ?_
  refine EJ_ck (fun h1 => ?_)
  refine EJ_callVi (Y2 := Y_Scribe_readFact) 5 cf8 (hrF _ _ _) (of_decide_eq_true h1) rfl (dk_182 (bt bc_Scribe_readAll_0 2 rfl) (bt bc_Scribe_readAll_0 3 rfl) (bt bc_Scribe_readAll_0 4 rfl) (n := 116) rfl) rfl tw_724 tw_726 ts_18 tw_727 hd_Scribe_readFact rfl ⟨by omega, by decide⟩ (Nat.le_of_ble_eq_true rfl) (fun r2 M3 => ?_)
  refine EJ_if_ne 10 8 (dk_154 (bt bc_Scribe_readAll_0 5 rfl) (bt bc_Scribe_readAll_0 6 rfl) (bt bc_Scribe_readAll_0 7 rfl) (n := 5) rfl) (by decide) rfl (fun _ => ?_) (fun _ => ?_)
  · refine EJ_iconst 11 (dk_3 (bt bc_Scribe_readAll_0 10 rfl)) rfl (v := 0) kI_0 ?_
    refine EJ_istore_n 12 (lv2 := [(2, .int _), (0, .ref _), (1, .int _)]) (dk_61 (bt bc_Scribe_readAll_0 11 rfl)) rfl (by decide) rfl ?_
    exact EJ_pick (lv2 := [(0, .ref _), (1, .int _), (2, .int _)]) [1, 2, 0] rfl (e_Scribe_readAll_L12 hdd rF hrF fu _ _ _ _)
  · refine EJ_iconst 9 (dk_3 (bt bc_Scribe_readAll_0 8 rfl)) rfl (v := 0) kI_0 ?_
    exact EJ_zret rfl (by decide) (dk_172 (bt bc_Scribe_readAll_0 9 rfl))
def Scribe_readCondition_B12 (rA : Mm → Nat → Int32 → Option (Int32 × Mm)) (k12 : Nat → Int32 → Int32 → Mm → Option (Int32 × Mm)) (x0 : Nat) (x1 : Int32) (x2 : Int32) (M : Mm) : Option (Int32 × Mm) :=
  ck (kO M x0 8 11) (
  if (mI M x0 9) ≤ x2 then (
    some (1, M))
  else (
    bd (Scribe_take M x0 21) (fun r5 M6 =>
    if r5 = 0 then (
      some (1, M6))
    else (
      ck (kO M6 x0 8 11) (
      bd (rA M6 x0 x1) (fun r8 M9 =>
      if r8 = 0 then (
        some (0, M9))
      else (
        ck (kO M9 x0 8 11) (
        bd (Scribe_put M9 x0 (-2)) (fun r11 M12 =>
        let v13 : Int32 := x2 + 1
        k12 x0 x1 v13 M12)))))))))
set_option maxRecDepth 100000 in
set_option maxHeartbeats 4000000 in
theorem e_Scribe_readCondition_B12 {G : Gx} {dd drA : Nat} (hdd : drA + 1 ≤ dd ∧ 8 ≤ dd) (rA : Mm → Nat → Int32 → Option (Int32 × Mm)) (hrA : ∀ (M : Mm) (y0 : Nat) (y1 : Int32), FnS G Y_Scribe_readAll cvI drA [.ref y0, .int y1] M (rA M y0 y1)) (k12 : Nat → Int32 → Int32 → Mm → Option (Int32 × Mm)) (hk12 : ∀ (x0 : Nat) (x1 : Int32) (x2 : Int32) (M : Mm), EJ G Y_Scribe_readCondition cvI dd 12 [(0, .ref x0), (1, .int x1), (2, .int x2)] [] M (k12 x0 x1 x2 M)) (x0 : Nat) (x1 : Int32) (x2 : Int32) (M : Mm) : EJ G Y_Scribe_readCondition cvI dd 12 [(0, .ref x0), (1, .int x1), (2, .int x2)] [] M (Scribe_readCondition_B12 rA k12 x0 x1 x2 M) := by
  unfold Scribe_readCondition_B12
  refine EJ_iload_n 13 2 (dk_28 (bt bc_Scribe_readCondition_0 12 rfl)) rfl rfl ?_
  refine EJ_aload_n 14 0 (dk_42 (bt bc_Scribe_readCondition_0 13 rfl)) rfl rfl ?_
  refine EJ_ck (fun h4 => ?_)
  refine EJ_getI cf8 9 (by decide) 17 tw_94 (fun _ _ _ => rfl) (dk_180 (bt bc_Scribe_readCondition_0 14 rfl) (bt bc_Scribe_readCondition_0 15 rfl) (bt bc_Scribe_readCondition_0 16 rfl) (n := 40) rfl) rfl (of_decide_eq_true h4) ?_
  refine EJ_icmp_ge 52 20 (dk_162 (bt bc_Scribe_readCondition_0 17 rfl) (bt bc_Scribe_readCondition_0 18 rfl) (bt bc_Scribe_readCondition_0 19 rfl) (n := 35) rfl) (by decide) rfl (fun _ => ?_) (fun _ => ?_)
  · refine EJ_iconst 53 (dk_4 (bt bc_Scribe_readCondition_1 20 rfl)) rfl (v := 1) kI_1 ?_
    exact EJ_zret rfl (by decide) (dk_172 (bt bc_Scribe_readCondition_1 21 rfl))
  · refine EJ_aload_n 21 0 (dk_42 (bt bc_Scribe_readCondition_0 20 rfl)) rfl rfl ?_
    refine EJ_bipush 23 (dk_16 (bt bc_Scribe_readCondition_0 21 rfl) (bt bc_Scribe_readCondition_0 22 rfl) (n := 21) rfl) rfl (v := 21) kB_21 ?_
    refine EJ_callVi (Y2 := Y_Scribe_take) 26 cf8 (s_Scribe_take G _ _ _) (of_decide_eq_true h4) rfl (dk_182 (bt bc_Scribe_readCondition_0 23 rfl) (bt bc_Scribe_readCondition_0 24 rfl) (bt bc_Scribe_readCondition_0 25 rfl) (n := 93) rfl) rfl tw_712 tw_714 ts_15 tw_715 hd_Scribe_take rfl ⟨by omega, by decide⟩ (Nat.le_of_ble_eq_true rfl) (fun r5 M6 => ?_)
    refine EJ_if_eq 52 29 (dk_153 (bt bc_Scribe_readCondition_0 26 rfl) (bt bc_Scribe_readCondition_0 27 rfl) (bt bc_Scribe_readCondition_0 28 rfl) (n := 26) rfl) (by decide) rfl (fun _ => ?_) (fun _ => ?_)
    · refine EJ_iconst 53 (dk_4 (bt bc_Scribe_readCondition_1 20 rfl)) rfl (v := 1) kI_1 ?_
      exact EJ_zret rfl (by decide) (dk_172 (bt bc_Scribe_readCondition_1 21 rfl))
    · refine EJ_aload_n 30 0 (dk_42 (bt bc_Scribe_readCondition_0 29 rfl)) rfl rfl ?_
      refine EJ_iload_n 31 1 (dk_27 (bt bc_Scribe_readCondition_0 30 rfl)) rfl rfl ?_
      refine EJ_ck (fun h7 => ?_)
      refine EJ_callVi (Y2 := Y_Scribe_readAll) 34 cf8 (hrA _ _ _) (of_decide_eq_true h7) rfl (dk_182 (bt bc_Scribe_readCondition_0 31 rfl) (bt bc_Scribe_readCondition_1 0 rfl) (bt bc_Scribe_readCondition_1 1 rfl) (n := 110) rfl) rfl tw_720 tw_722 ts_17 tw_723 hd_Scribe_readAll rfl ⟨by omega, by decide⟩ (Nat.le_of_ble_eq_true rfl) (fun r8 M9 => ?_)
      refine EJ_if_ne 39 37 (dk_154 (bt bc_Scribe_readCondition_1 2 rfl) (bt bc_Scribe_readCondition_1 3 rfl) (bt bc_Scribe_readCondition_1 4 rfl) (n := 5) rfl) (by decide) rfl (fun _ => ?_) (fun _ => ?_)
      · refine EJ_aload_n 40 0 (dk_42 (bt bc_Scribe_readCondition_1 7 rfl)) rfl rfl ?_
        refine EJ_bipush 42 (dk_16 (bt bc_Scribe_readCondition_1 8 rfl) (bt bc_Scribe_readCondition_1 9 rfl) (n := -2) rfl) rfl (v := (-2)) kB_m2 ?_
        refine EJ_ck (fun h10 => ?_)
        refine EJ_callVi (Y2 := Y_Scribe_put) 45 cf8 (s_Scribe_put G _ _ _) (of_decide_eq_true h10) rfl (dk_182 (bt bc_Scribe_readCondition_1 10 rfl) (bt bc_Scribe_readCondition_1 11 rfl) (bt bc_Scribe_readCondition_1 12 rfl) (n := 113) rfl) rfl tw_728 tw_730 ts_19 tw_731 hd_Scribe_put rfl ⟨by omega, by decide⟩ (Nat.le_of_ble_eq_true rfl) (fun r11 M12 => ?_)
        refine EJ_pop 46 (dk_87 (bt bc_Scribe_readCondition_1 13 rfl)) rfl rfl ?_
        refine EJ_iinc 49 2 (lv2 := [(2, .int _), (0, .ref _), (1, .int _)]) (dk_132 (bt bc_Scribe_readCondition_1 14 rfl) (bt bc_Scribe_readCondition_1 15 rfl) (bt bc_Scribe_readCondition_1 16 rfl) (n := 1) rfl) rfl (by decide) rfl (v := 1) kI_1 rfl ?_
        refine EJ_goto 12 (dk_167 (bt bc_Scribe_readCondition_1 17 rfl) (bt bc_Scribe_readCondition_1 18 rfl) (bt bc_Scribe_readCondition_1 19 rfl) (n := -37) rfl) (by decide) ?_
        exact EJ_pick (lv2 := [(0, .ref _), (1, .int _), (2, .int _)]) [1, 2, 0] rfl (hk12 _ _ _ _)
      · refine EJ_iconst 38 (dk_3 (bt bc_Scribe_readCondition_1 5 rfl)) rfl (v := 0) kI_0 ?_
        exact EJ_zret rfl (by decide) (dk_172 (bt bc_Scribe_readCondition_1 6 rfl))
def Scribe_readCondition_L12 (rA : Mm → Nat → Int32 → Option (Int32 × Mm)) (n : Nat) : Nat → Int32 → Int32 → Mm → Option (Int32 × Mm) :=
  match n with
  | 0 => fun _ _ _ _ => none
  | n + 1 => Scribe_readCondition_B12 rA (Scribe_readCondition_L12 rA n)
theorem e_Scribe_readCondition_L12 {G : Gx} {dd drA : Nat} (hdd : drA + 1 ≤ dd ∧ 8 ≤ dd) (rA : Mm → Nat → Int32 → Option (Int32 × Mm)) (hrA : ∀ (M : Mm) (y0 : Nat) (y1 : Int32), FnS G Y_Scribe_readAll cvI drA [.ref y0, .int y1] M (rA M y0 y1)) : ∀ (n : Nat) (x0 : Nat) (x1 : Int32) (x2 : Int32) (M : Mm), EJ G Y_Scribe_readCondition cvI dd 12 [(0, .ref x0), (1, .int x1), (2, .int x2)] [] M (Scribe_readCondition_L12 rA n x0 x1 x2 M) := by
  intro n
  induction n with
  | zero => intros; exact EJ_none
  | succ n ih => intro x0 x1 x2 M; exact e_Scribe_readCondition_B12 hdd rA hrA _ ih x0 x1 x2 M
def Scribe_readCondition (rA : Mm → Nat → Int32 → Option (Int32 × Mm)) (M : Mm) (a0 : Nat) (a1 : Int32) : Option (Int32 × Mm) :=
  ck (kO M a0 8 11) (
  bd (rA M a0 a1) (fun r2 M3 =>
  if r2 = 0 then (
    some (0, M3))
  else (
    Scribe_readCondition_L12 rA fu a0 a1 0 M3)))
set_option maxRecDepth 100000 in
set_option maxHeartbeats 4000000 in
theorem s_Scribe_readCondition (G : Gx) {dd drA : Nat} (hdd : drA + 1 ≤ dd ∧ 8 ≤ dd) (rA : Mm → Nat → Int32 → Option (Int32 × Mm)) (hrA : ∀ (M : Mm) (y0 : Nat) (y1 : Int32), FnS G Y_Scribe_readAll cvI drA [.ref y0, .int y1] M (rA M y0 y1)) (M : Mm) (a0 : Nat) (a1 : Int32) : FnS G Y_Scribe_readCondition cvI dd [.ref a0, .int a1] M (Scribe_readCondition rA M a0 a1) := by
  refine FnS.ofE (by decide) (Nat.le_of_ble_eq_true rfl) ?_
  show EJ G Y_Scribe_readCondition cvI dd 0 [(0, .ref a0), (1, .int a1)] [] M _
  unfold Scribe_readCondition
  refine EJ_aload_n 1 0 (dk_42 (bt bc_Scribe_readCondition_0 0 rfl)) rfl rfl ?_
  refine EJ_iload_n 2 1 (dk_27 (bt bc_Scribe_readCondition_0 1 rfl)) rfl rfl ?_
  refine EJ_ck (fun h1 => ?_)
  refine EJ_callVi (Y2 := Y_Scribe_readAll) 5 cf8 (hrA _ _ _) (of_decide_eq_true h1) rfl (dk_182 (bt bc_Scribe_readCondition_0 2 rfl) (bt bc_Scribe_readCondition_0 3 rfl) (bt bc_Scribe_readCondition_0 4 rfl) (n := 110) rfl) rfl tw_720 tw_722 ts_17 tw_723 hd_Scribe_readAll rfl ⟨by omega, by decide⟩ (Nat.le_of_ble_eq_true rfl) (fun r2 M3 => ?_)
  refine EJ_if_ne 10 8 (dk_154 (bt bc_Scribe_readCondition_0 5 rfl) (bt bc_Scribe_readCondition_0 6 rfl) (bt bc_Scribe_readCondition_0 7 rfl) (n := 5) rfl) (by decide) rfl (fun _ => ?_) (fun _ => ?_)
  · refine EJ_iconst 11 (dk_3 (bt bc_Scribe_readCondition_0 10 rfl)) rfl (v := 0) kI_0 ?_
    refine EJ_istore_n 12 (lv2 := [(2, .int _), (0, .ref _), (1, .int _)]) (dk_61 (bt bc_Scribe_readCondition_0 11 rfl)) rfl (by decide) rfl ?_
    exact EJ_pick (lv2 := [(0, .ref _), (1, .int _), (2, .int _)]) [1, 2, 0] rfl (e_Scribe_readCondition_L12 hdd rA hrA fu _ _ _ _)
  · refine EJ_iconst 9 (dk_3 (bt bc_Scribe_readCondition_0 8 rfl)) rfl (v := 0) kI_0 ?_
    exact EJ_zret rfl (by decide) (dk_172 (bt bc_Scribe_readCondition_0 9 rfl))
def Scribe_tF (n : Nat) : Mm → Nat → Int32 → Option (Int32 × Mm) :=
  match n with
  | 0 => fun _ _ _ => none
  | n + 1 => Scribe_readFact (Scribe_readCondition (Scribe_readAll (Scribe_tF n))) (Scribe_tF n)
theorem s_Scribe_tF (G : Gx) : ∀ (n : Nat) (M : Mm) (a0 : Nat) (a1 : Int32), FnS G Y_Scribe_readFact cvI (8 + 3 * n) [.ref a0, .int a1] M (Scribe_tF n M a0 a1) := by
  intro n
  induction n with
  | zero => intro M a0 a1 r M' h; cases h
  | succ n ih =>
    intro M a0 a1
    have hA : ∀ (M : Mm) (y0 : Nat) (y1 : Int32), FnS G Y_Scribe_readAll cvI (9 + 3 * n) [.ref y0, .int y1] M (Scribe_readAll (Scribe_tF n) M y0 y1) := fun M y0 y1 => s_Scribe_readAll G (dd := 9 + 3 * n) (drF := 8 + 3 * n) (by omega) _ ih M y0 y1
    have hC : ∀ (M : Mm) (y0 : Nat) (y1 : Int32), FnS G Y_Scribe_readCondition cvI (10 + 3 * n) [.ref y0, .int y1] M (Scribe_readCondition (Scribe_readAll (Scribe_tF n)) M y0 y1) := fun M y0 y1 => s_Scribe_readCondition G (dd := 10 + 3 * n) (drA := 9 + 3 * n) (by omega) _ hA M y0 y1
    exact s_Scribe_readFact G (dd := 8 + 3 * (n + 1)) (drC := 10 + 3 * n) (drF := 8 + 3 * n) (by omega) _ _ hC ih M a0 a1
def Scribe_tC : Mm → Nat → Int32 → Option (Int32 × Mm) := Scribe_readCondition (Scribe_readAll (Scribe_tF 12))
theorem s_Scribe_tC (G : Gx) (M : Mm) (a0 : Nat) (a1 : Int32) : FnS G Y_Scribe_readCondition cvI 46 [.ref a0, .int a1] M (Scribe_tC M a0 a1) :=
  s_Scribe_readCondition G (dd := 46) (drA := 45) (by omega) _ (fun M y0 y1 => s_Scribe_readAll G (dd := 45) (drF := 44) (by omega) _ (fun M y0 y1 => s_Scribe_tF G 12 M y0 y1) M y0 y1) M a0 a1

abbrev Y_Scribe_new : Ym := (⟨"RiceHall$Scribe", "<init>", "()V"⟩, prog_10_method_1_code, 1, none)
theorem bc_Scribe_new_0 : bts prog_10_method_1_code 0 [42, 183, 0, 3, 42, 16, 24, 188, 10, 181, 0, 9, 42, 16, 24, 188, 10, 181, 0, 15, 42, 16, 24, 188, 10, 181, 0, 18, 42, 17, 1, 244] := bts_of (by decide +kernel)
theorem bc_Scribe_new_1 : bts prog_10_method_1_code 32 [188, 10, 181, 0, 21, 42, 17, 1, 245, 188, 10, 181, 0, 24, 42, 17, 1, 245, 188, 10, 181, 0, 27, 42, 17, 1, 245, 188, 10, 181, 0, 30] := bts_of (by decide +kernel)
theorem bc_Scribe_new_2 : bts prog_10_method_1_code 64 [177] := bts_of (by decide +kernel)
theorem hd_Scribe_new : Y_Scribe_new.1.cls ≠ "java/lang/invoke/MethodHandle" ∧ Y_Scribe_new.1.cls ≠ "java/lang/invoke/VarHandle" ∧ (parseMethodDescriptor Y_Scribe_new.1.desc).map (fun d => d.parameters.length) = some 0 := by decide +kernel
def Scribe_new (M : Mm) (a0 : Nat) : Option (Unit × Mm) :=
  let M1 := nw M 20 24
  ck (kO M1 a0 8 11) (
  let M3 := sR M1 a0 0 (some (mZ M))
  let M4 := nw M3 20 24
  ck (kO M4 a0 8 11) (
  let M6 := sR M4 a0 1 (some (mZ M3))
  let M7 := nw M6 20 24
  ck (kO M7 a0 8 11) (
  let M9 := sR M7 a0 2 (some (mZ M6))
  let M10 := nw M9 20 500
  ck (kO M10 a0 8 11) (
  let M12 := sR M10 a0 3 (some (mZ M9))
  let M13 := nw M12 20 501
  ck (kO M13 a0 8 11) (
  let M15 := sR M13 a0 6 (some (mZ M12))
  let M16 := nw M15 20 501
  ck (kO M16 a0 8 11) (
  let M18 := sR M16 a0 7 (some (mZ M15))
  let M19 := nw M18 20 501
  ck (kO M19 a0 8 11) (
  let M21 := sR M19 a0 8 (some (mZ M18))
  some ((), M21))))))))
set_option maxRecDepth 100000 in
set_option maxHeartbeats 4000000 in
theorem s_Scribe_new (G : Gx) (M : Mm) (a0 : Nat) : FnS G Y_Scribe_new cvV 1 [.ref a0] M (Scribe_new M a0) := by
  refine FnS.ofE (by decide) (Nat.le_of_ble_eq_true rfl) ?_
  show EJ G Y_Scribe_new cvV 1 0 [(0, .ref a0)] [] M _
  unfold Scribe_new
  refine EJ_aload_n 1 0 (dk_42 (bt bc_Scribe_new_0 0 rfl)) rfl rfl ?_
  refine EJ_obj 4 (dk_183 (bt bc_Scribe_new_0 1 rfl) (bt bc_Scribe_new_0 2 rfl) (bt bc_Scribe_new_0 3 rfl) (n := 3) rfl) rfl tw_78 tw_27 tw_28 (by decide) (Nat.le_of_ble_eq_true rfl) ?_
  refine EJ_aload_n 5 0 (dk_42 (bt bc_Scribe_new_0 4 rfl)) rfl rfl ?_
  refine EJ_bipush 7 (dk_16 (bt bc_Scribe_new_0 5 rfl) (bt bc_Scribe_new_0 6 rfl) (n := 24) rfl) rfl (v := 24) kB_24 ?_
  refine EJ_newa' 0 9 (c := 20) (N := 24) (by decide) rfl tw_61 rfl (by decide) (by decide) (dk_188_10 (bt bc_Scribe_new_0 7 rfl) (bt bc_Scribe_new_0 8 rfl)) rfl ?_
  refine EJ_ck (fun h2 => ?_)
  refine EJ_putR cf8 0 (by decide) 12 tw_79 (fun _ _ _ => rfl) (fun _ => rfl) (fun _ => rfl) (Or.inr ⟨rfl, rfl⟩) (dk_181 (bt bc_Scribe_new_0 9 rfl) (bt bc_Scribe_new_0 10 rfl) (bt bc_Scribe_new_0 11 rfl) (n := 9) rfl) rfl (of_decide_eq_true h2) ?_
  refine EJ_aload_n 13 0 (dk_42 (bt bc_Scribe_new_0 12 rfl)) rfl rfl ?_
  refine EJ_bipush 15 (dk_16 (bt bc_Scribe_new_0 13 rfl) (bt bc_Scribe_new_0 14 rfl) (n := 24) rfl) rfl (v := 24) kB_24 ?_
  refine EJ_newa' 0 17 (c := 20) (N := 24) (by decide) rfl tw_61 rfl (by decide) (by decide) (dk_188_10 (bt bc_Scribe_new_0 15 rfl) (bt bc_Scribe_new_0 16 rfl)) rfl ?_
  refine EJ_ck (fun h5 => ?_)
  refine EJ_putR cf8 1 (by decide) 20 tw_81 (fun _ _ _ => rfl) (fun _ => rfl) (fun _ => rfl) (Or.inr ⟨rfl, rfl⟩) (dk_181 (bt bc_Scribe_new_0 17 rfl) (bt bc_Scribe_new_0 18 rfl) (bt bc_Scribe_new_0 19 rfl) (n := 15) rfl) rfl (of_decide_eq_true h5) ?_
  refine EJ_aload_n 21 0 (dk_42 (bt bc_Scribe_new_0 20 rfl)) rfl rfl ?_
  refine EJ_bipush 23 (dk_16 (bt bc_Scribe_new_0 21 rfl) (bt bc_Scribe_new_0 22 rfl) (n := 24) rfl) rfl (v := 24) kB_24 ?_
  refine EJ_newa' 0 25 (c := 20) (N := 24) (by decide) rfl tw_61 rfl (by decide) (by decide) (dk_188_10 (bt bc_Scribe_new_0 23 rfl) (bt bc_Scribe_new_0 24 rfl)) rfl ?_
  refine EJ_ck (fun h8 => ?_)
  refine EJ_putR cf8 2 (by decide) 28 tw_83 (fun _ _ _ => rfl) (fun _ => rfl) (fun _ => rfl) (Or.inr ⟨rfl, rfl⟩) (dk_181 (bt bc_Scribe_new_0 25 rfl) (bt bc_Scribe_new_0 26 rfl) (bt bc_Scribe_new_0 27 rfl) (n := 18) rfl) rfl (of_decide_eq_true h8) ?_
  refine EJ_aload_n 29 0 (dk_42 (bt bc_Scribe_new_0 28 rfl)) rfl rfl ?_
  refine EJ_sipush 32 (dk_17 (bt bc_Scribe_new_0 29 rfl) (bt bc_Scribe_new_0 30 rfl) (bt bc_Scribe_new_0 31 rfl) (n := 500) rfl) rfl (v := 500) kS_500 ?_
  refine EJ_newa' 0 34 (c := 20) (N := 500) (by decide) rfl tw_61 rfl (by decide) (by decide) (dk_188_10 (bt bc_Scribe_new_1 0 rfl) (bt bc_Scribe_new_1 1 rfl)) rfl ?_
  refine EJ_ck (fun h11 => ?_)
  refine EJ_putR cf8 3 (by decide) 37 tw_85 (fun _ _ _ => rfl) (fun _ => rfl) (fun _ => rfl) (Or.inr ⟨rfl, rfl⟩) (dk_181 (bt bc_Scribe_new_1 2 rfl) (bt bc_Scribe_new_1 3 rfl) (bt bc_Scribe_new_1 4 rfl) (n := 21) rfl) rfl (of_decide_eq_true h11) ?_
  refine EJ_aload_n 38 0 (dk_42 (bt bc_Scribe_new_1 5 rfl)) rfl rfl ?_
  refine EJ_sipush 41 (dk_17 (bt bc_Scribe_new_1 6 rfl) (bt bc_Scribe_new_1 7 rfl) (bt bc_Scribe_new_1 8 rfl) (n := 501) rfl) rfl (v := 501) kS_501 ?_
  refine EJ_newa' 0 43 (c := 20) (N := 501) (by decide) rfl tw_61 rfl (by decide) (by decide) (dk_188_10 (bt bc_Scribe_new_1 9 rfl) (bt bc_Scribe_new_1 10 rfl)) rfl ?_
  refine EJ_ck (fun h14 => ?_)
  refine EJ_putR cf8 6 (by decide) 46 tw_91 (fun _ _ _ => rfl) (fun _ => rfl) (fun _ => rfl) (Or.inr ⟨rfl, rfl⟩) (dk_181 (bt bc_Scribe_new_1 11 rfl) (bt bc_Scribe_new_1 12 rfl) (bt bc_Scribe_new_1 13 rfl) (n := 24) rfl) rfl (of_decide_eq_true h14) ?_
  refine EJ_aload_n 47 0 (dk_42 (bt bc_Scribe_new_1 14 rfl)) rfl rfl ?_
  refine EJ_sipush 50 (dk_17 (bt bc_Scribe_new_1 15 rfl) (bt bc_Scribe_new_1 16 rfl) (bt bc_Scribe_new_1 17 rfl) (n := 501) rfl) rfl (v := 501) kS_501 ?_
  refine EJ_newa' 0 52 (c := 20) (N := 501) (by decide) rfl tw_61 rfl (by decide) (by decide) (dk_188_10 (bt bc_Scribe_new_1 18 rfl) (bt bc_Scribe_new_1 19 rfl)) rfl ?_
  refine EJ_ck (fun h17 => ?_)
  refine EJ_putR cf8 7 (by decide) 55 tw_92 (fun _ _ _ => rfl) (fun _ => rfl) (fun _ => rfl) (Or.inr ⟨rfl, rfl⟩) (dk_181 (bt bc_Scribe_new_1 20 rfl) (bt bc_Scribe_new_1 21 rfl) (bt bc_Scribe_new_1 22 rfl) (n := 27) rfl) rfl (of_decide_eq_true h17) ?_
  refine EJ_aload_n 56 0 (dk_42 (bt bc_Scribe_new_1 23 rfl)) rfl rfl ?_
  refine EJ_sipush 59 (dk_17 (bt bc_Scribe_new_1 24 rfl) (bt bc_Scribe_new_1 25 rfl) (bt bc_Scribe_new_1 26 rfl) (n := 501) rfl) rfl (v := 501) kS_501 ?_
  refine EJ_newa' 0 61 (c := 20) (N := 501) (by decide) rfl tw_61 rfl (by decide) (by decide) (dk_188_10 (bt bc_Scribe_new_1 27 rfl) (bt bc_Scribe_new_1 28 rfl)) rfl ?_
  refine EJ_ck (fun h20 => ?_)
  refine EJ_putR cf8 8 (by decide) 64 tw_93 (fun _ _ _ => rfl) (fun _ => rfl) (fun _ => rfl) (Or.inr ⟨rfl, rfl⟩) (dk_181 (bt bc_Scribe_new_1 29 rfl) (bt bc_Scribe_new_1 30 rfl) (bt bc_Scribe_new_1 31 rfl) (n := 30) rfl) rfl (of_decide_eq_true h20) ?_
  exact EJ_vret rfl (dk_177 (bt bc_Scribe_new_2 0 rfl))
abbrev Y_Scribe_isLetter : Ym := (⟨"RiceHall$Scribe", "isLetter", "(B)Z"⟩, prog_10_method_5_code, 1, (some FieldType.boolean))
theorem bc_Scribe_isLetter_0 : bts prog_10_method_5_code 0 [26, 16, 97, 161, 0, 13, 26, 16, 122, 163, 0, 7, 4, 167, 0, 4, 3, 172] := bts_of (by decide +kernel)
theorem hd_Scribe_isLetter : Y_Scribe_isLetter.1.cls ≠ "java/lang/invoke/MethodHandle" ∧ Y_Scribe_isLetter.1.cls ≠ "java/lang/invoke/VarHandle" ∧ (parseMethodDescriptor Y_Scribe_isLetter.1.desc).map (fun d => d.parameters.length) = some 1 := by decide +kernel
def Scribe_isLetter (M : Mm) (a0 : Int32) : Option (Int32 × Mm) :=
  if a0 < 97 then (
    some (0, M))
  else (
    if 122 < a0 then (
      some (0, M))
    else (
      some (1, M)))
set_option maxRecDepth 100000 in
set_option maxHeartbeats 4000000 in
theorem s_Scribe_isLetter (G : Gx) (M : Mm) (a0 : Int32) : FnS G Y_Scribe_isLetter cvI 1 [.int a0] M (Scribe_isLetter M a0) := by
  refine FnS.ofE (by decide) (Nat.le_of_ble_eq_true rfl) ?_
  show EJ G Y_Scribe_isLetter cvI 1 0 [(0, .int a0)] [] M _
  unfold Scribe_isLetter
  refine EJ_iload_n 1 0 (dk_26 (bt bc_Scribe_isLetter_0 0 rfl)) rfl rfl ?_
  refine EJ_bipush 3 (dk_16 (bt bc_Scribe_isLetter_0 1 rfl) (bt bc_Scribe_isLetter_0 2 rfl) (n := 97) rfl) rfl (v := 97) kB_97 ?_
  refine EJ_icmp_lt 16 6 (dk_161 (bt bc_Scribe_isLetter_0 3 rfl) (bt bc_Scribe_isLetter_0 4 rfl) (bt bc_Scribe_isLetter_0 5 rfl) (n := 13) rfl) (by decide) rfl (fun _ => ?_) (fun _ => ?_)
  · refine EJ_iconst 17 (dk_3 (bt bc_Scribe_isLetter_0 16 rfl)) rfl (v := 0) kI_0 ?_
    exact EJ_zret rfl (by decide) (dk_172 (bt bc_Scribe_isLetter_0 17 rfl))
  · refine EJ_iload_n 7 0 (dk_26 (bt bc_Scribe_isLetter_0 6 rfl)) rfl rfl ?_
    refine EJ_bipush 9 (dk_16 (bt bc_Scribe_isLetter_0 7 rfl) (bt bc_Scribe_isLetter_0 8 rfl) (n := 122) rfl) rfl (v := 122) kB_122 ?_
    refine EJ_icmp_gt 16 12 (dk_163 (bt bc_Scribe_isLetter_0 9 rfl) (bt bc_Scribe_isLetter_0 10 rfl) (bt bc_Scribe_isLetter_0 11 rfl) (n := 7) rfl) (by decide) rfl (fun _ => ?_) (fun _ => ?_)
    · refine EJ_iconst 17 (dk_3 (bt bc_Scribe_isLetter_0 16 rfl)) rfl (v := 0) kI_0 ?_
      exact EJ_zret rfl (by decide) (dk_172 (bt bc_Scribe_isLetter_0 17 rfl))
    · refine EJ_iconst 13 (dk_4 (bt bc_Scribe_isLetter_0 12 rfl)) rfl (v := 1) kI_1 ?_
      refine EJ_goto 17 (dk_167 (bt bc_Scribe_isLetter_0 13 rfl) (bt bc_Scribe_isLetter_0 14 rfl) (bt bc_Scribe_isLetter_0 15 rfl) (n := 4) rfl) (by decide) ?_
      exact EJ_zret rfl (by decide) (dk_172 (bt bc_Scribe_isLetter_0 17 rfl))
abbrev Y_Scribe_isDigit : Ym := (⟨"RiceHall$Scribe", "isDigit", "(B)Z"⟩, prog_10_method_6_code, 1, (some FieldType.boolean))
theorem bc_Scribe_isDigit_0 : bts prog_10_method_6_code 0 [26, 16, 48, 161, 0, 13, 26, 16, 57, 163, 0, 7, 4, 167, 0, 4, 3, 172] := bts_of (by decide +kernel)
theorem hd_Scribe_isDigit : Y_Scribe_isDigit.1.cls ≠ "java/lang/invoke/MethodHandle" ∧ Y_Scribe_isDigit.1.cls ≠ "java/lang/invoke/VarHandle" ∧ (parseMethodDescriptor Y_Scribe_isDigit.1.desc).map (fun d => d.parameters.length) = some 1 := by decide +kernel
def Scribe_isDigit (M : Mm) (a0 : Int32) : Option (Int32 × Mm) :=
  if a0 < 48 then (
    some (0, M))
  else (
    if 57 < a0 then (
      some (0, M))
    else (
      some (1, M)))
set_option maxRecDepth 100000 in
set_option maxHeartbeats 4000000 in
theorem s_Scribe_isDigit (G : Gx) (M : Mm) (a0 : Int32) : FnS G Y_Scribe_isDigit cvI 1 [.int a0] M (Scribe_isDigit M a0) := by
  refine FnS.ofE (by decide) (Nat.le_of_ble_eq_true rfl) ?_
  show EJ G Y_Scribe_isDigit cvI 1 0 [(0, .int a0)] [] M _
  unfold Scribe_isDigit
  refine EJ_iload_n 1 0 (dk_26 (bt bc_Scribe_isDigit_0 0 rfl)) rfl rfl ?_
  refine EJ_bipush 3 (dk_16 (bt bc_Scribe_isDigit_0 1 rfl) (bt bc_Scribe_isDigit_0 2 rfl) (n := 48) rfl) rfl (v := 48) kB_48 ?_
  refine EJ_icmp_lt 16 6 (dk_161 (bt bc_Scribe_isDigit_0 3 rfl) (bt bc_Scribe_isDigit_0 4 rfl) (bt bc_Scribe_isDigit_0 5 rfl) (n := 13) rfl) (by decide) rfl (fun _ => ?_) (fun _ => ?_)
  · refine EJ_iconst 17 (dk_3 (bt bc_Scribe_isDigit_0 16 rfl)) rfl (v := 0) kI_0 ?_
    exact EJ_zret rfl (by decide) (dk_172 (bt bc_Scribe_isDigit_0 17 rfl))
  · refine EJ_iload_n 7 0 (dk_26 (bt bc_Scribe_isDigit_0 6 rfl)) rfl rfl ?_
    refine EJ_bipush 9 (dk_16 (bt bc_Scribe_isDigit_0 7 rfl) (bt bc_Scribe_isDigit_0 8 rfl) (n := 57) rfl) rfl (v := 57) kB_57 ?_
    refine EJ_icmp_gt 16 12 (dk_163 (bt bc_Scribe_isDigit_0 9 rfl) (bt bc_Scribe_isDigit_0 10 rfl) (bt bc_Scribe_isDigit_0 11 rfl) (n := 7) rfl) (by decide) rfl (fun _ => ?_) (fun _ => ?_)
    · refine EJ_iconst 17 (dk_3 (bt bc_Scribe_isDigit_0 16 rfl)) rfl (v := 0) kI_0 ?_
      exact EJ_zret rfl (by decide) (dk_172 (bt bc_Scribe_isDigit_0 17 rfl))
    · refine EJ_iconst 13 (dk_4 (bt bc_Scribe_isDigit_0 12 rfl)) rfl (v := 1) kI_1 ?_
      refine EJ_goto 17 (dk_167 (bt bc_Scribe_isDigit_0 13 rfl) (bt bc_Scribe_isDigit_0 14 rfl) (bt bc_Scribe_isDigit_0 15 rfl) (n := 4) rfl) (by decide) ?_
      exact EJ_zret rfl (by decide) (dk_172 (bt bc_Scribe_isDigit_0 17 rfl))
abbrev Y_Scribe_tokenEnd : Ym := (⟨"RiceHall$Scribe", "tokenEnd", "([BII)I"⟩, prog_10_method_7_code, 4, (some FieldType.int))
theorem bc_Scribe_tokenEnd_0 : bts prog_10_method_7_code 0 [27, 4, 96, 62, 42, 27, 51, 184, 0, 65, 153, 0, 23, 29, 28, 162, 0, 47, 42, 29, 51, 184, 0, 65, 153, 0, 38, 132, 3, 1, 167, 255] := bts_of (by decide +kernel)
theorem bc_Scribe_tokenEnd_1 : bts prog_10_method_7_code 32 [239, 42, 27, 51, 184, 0, 69, 153, 0, 23, 29, 28, 162, 0, 18, 42, 29, 51, 184, 0, 69, 153, 0, 9, 132, 3, 1, 167, 255, 239, 29, 172] := bts_of (by decide +kernel)
theorem hd_Scribe_tokenEnd : Y_Scribe_tokenEnd.1.cls ≠ "java/lang/invoke/MethodHandle" ∧ Y_Scribe_tokenEnd.1.cls ≠ "java/lang/invoke/VarHandle" ∧ (parseMethodDescriptor Y_Scribe_tokenEnd.1.desc).map (fun d => d.parameters.length) = some 3 := by decide +kernel
def Scribe_tokenEnd_B42 (k42 : Nat → Int32 → Int32 → Mm → Option (Int32 × Mm)) (x0 : Nat) (x2 : Int32) (x3 : Int32) (M : Mm) : Option (Int32 × Mm) :=
  if x2 ≤ x3 then (
    some (x3, M))
  else (
    ck (kA M x0 21 x3) (
    bd (Scribe_isDigit M (mI M x0 (ix x3))) (fun r9 M10 =>
    if r9 = 0 then (
      some (x3, M10))
    else (
      let v11 : Int32 := x3 + 1
      k42 x0 x2 v11 M10))))
set_option maxRecDepth 100000 in
set_option maxHeartbeats 4000000 in
theorem e_Scribe_tokenEnd_B42 {G : Gx} (k42 : Nat → Int32 → Int32 → Mm → Option (Int32 × Mm)) (hk42 : ∀ (x0 : Nat) (x2 : Int32) (x3 : Int32) (M : Mm), EJ G Y_Scribe_tokenEnd cvI 2 42 [(0, .ref x0), (2, .int x2), (3, .int x3)] [] M (k42 x0 x2 x3 M)) (x0 : Nat) (x2 : Int32) (x3 : Int32) (M : Mm) : EJ G Y_Scribe_tokenEnd cvI 2 42 [(0, .ref x0), (2, .int x2), (3, .int x3)] [] M (Scribe_tokenEnd_B42 k42 x0 x2 x3 M) := by
  unfold Scribe_tokenEnd_B42
  refine EJ_iload_n 43 2 (dk_29 (bt bc_Scribe_tokenEnd_1 10 rfl)) rfl rfl ?_
  refine EJ_iload_n 44 1 (dk_28 (bt bc_Scribe_tokenEnd_1 11 rfl)) rfl rfl ?_
  refine EJ_icmp_ge 62 47 (dk_162 (bt bc_Scribe_tokenEnd_1 12 rfl) (bt bc_Scribe_tokenEnd_1 13 rfl) (bt bc_Scribe_tokenEnd_1 14 rfl) (n := 18) rfl) (by decide) rfl (fun _ => ?_) (fun _ => ?_)
  · refine EJ_iload_n 63 2 (dk_29 (bt bc_Scribe_tokenEnd_1 30 rfl)) rfl rfl ?_
    exact EJ_iret rfl (dk_172 (bt bc_Scribe_tokenEnd_1 31 rfl))
  · refine EJ_aload_n 48 0 (dk_42 (bt bc_Scribe_tokenEnd_1 15 rfl)) rfl rfl ?_
    refine EJ_iload_n 49 2 (dk_29 (bt bc_Scribe_tokenEnd_1 16 rfl)) rfl rfl ?_
    refine EJ_ck (fun h8 => ?_)
    refine EJ_bald 50 h8 (dk_51 (bt bc_Scribe_tokenEnd_1 17 rfl)) rfl ?_
    refine EJ_callSi (Y2 := Y_Scribe_isDigit) 53 (s_Scribe_isDigit G _ _) rfl (dk_184 (bt bc_Scribe_tokenEnd_1 18 rfl) (bt bc_Scribe_tokenEnd_1 19 rfl) (bt bc_Scribe_tokenEnd_1 20 rfl) (n := 69) rfl) rfl tw_638 tw_639 tw_5 tw_640 hd_Scribe_isDigit rfl (by decide) (Nat.le_of_ble_eq_true rfl) (fun r9 M10 => ?_)
    refine EJ_if_eq 62 56 (dk_153 (bt bc_Scribe_tokenEnd_1 21 rfl) (bt bc_Scribe_tokenEnd_1 22 rfl) (bt bc_Scribe_tokenEnd_1 23 rfl) (n := 9) rfl) (by decide) rfl (fun _ => ?_) (fun _ => ?_)
    · refine EJ_iload_n 63 2 (dk_29 (bt bc_Scribe_tokenEnd_1 30 rfl)) rfl rfl ?_
      exact EJ_iret rfl (dk_172 (bt bc_Scribe_tokenEnd_1 31 rfl))
    · refine EJ_iinc 59 2 (lv2 := [(3, .int _), (0, .ref _), (2, .int _)]) (dk_132 (bt bc_Scribe_tokenEnd_1 24 rfl) (bt bc_Scribe_tokenEnd_1 25 rfl) (bt bc_Scribe_tokenEnd_1 26 rfl) (n := 1) rfl) rfl (by decide) rfl (v := 1) kI_1 rfl ?_
      refine EJ_goto 42 (dk_167 (bt bc_Scribe_tokenEnd_1 27 rfl) (bt bc_Scribe_tokenEnd_1 28 rfl) (bt bc_Scribe_tokenEnd_1 29 rfl) (n := -17) rfl) (by decide) ?_
      exact EJ_pick (lv2 := [(0, .ref _), (2, .int _), (3, .int _)]) [1, 2, 0] rfl (hk42 _ _ _ _)
def Scribe_tokenEnd_L42 (n : Nat) : Nat → Int32 → Int32 → Mm → Option (Int32 × Mm) :=
  match n with
  | 0 => fun _ _ _ _ => none
  | n + 1 => Scribe_tokenEnd_B42 (Scribe_tokenEnd_L42 n)
theorem e_Scribe_tokenEnd_L42 {G : Gx} : ∀ (n : Nat) (x0 : Nat) (x2 : Int32) (x3 : Int32) (M : Mm), EJ G Y_Scribe_tokenEnd cvI 2 42 [(0, .ref x0), (2, .int x2), (3, .int x3)] [] M (Scribe_tokenEnd_L42 n x0 x2 x3 M) := by
  intro n
  induction n with
  | zero => intros; exact EJ_none
  | succ n ih => intro x0 x2 x3 M; exact e_Scribe_tokenEnd_B42 _ ih x0 x2 x3 M
def Scribe_tokenEnd_B13 (k13 : Nat → Int32 → Int32 → Mm → Option (Int32 × Mm)) (x0 : Nat) (x2 : Int32) (x3 : Int32) (M : Mm) : Option (Int32 × Mm) :=
  if x2 ≤ x3 then (
    some (x3, M))
  else (
    ck (kA M x0 21 x3) (
    bd (Scribe_isLetter M (mI M x0 (ix x3))) (fun r13 M14 =>
    if r13 = 0 then (
      some (x3, M14))
    else (
      let v15 : Int32 := x3 + 1
      k13 x0 x2 v15 M14))))
set_option maxRecDepth 100000 in
set_option maxHeartbeats 4000000 in
theorem e_Scribe_tokenEnd_B13 {G : Gx} (k13 : Nat → Int32 → Int32 → Mm → Option (Int32 × Mm)) (hk13 : ∀ (x0 : Nat) (x2 : Int32) (x3 : Int32) (M : Mm), EJ G Y_Scribe_tokenEnd cvI 2 13 [(0, .ref x0), (2, .int x2), (3, .int x3)] [] M (k13 x0 x2 x3 M)) (x0 : Nat) (x2 : Int32) (x3 : Int32) (M : Mm) : EJ G Y_Scribe_tokenEnd cvI 2 13 [(0, .ref x0), (2, .int x2), (3, .int x3)] [] M (Scribe_tokenEnd_B13 k13 x0 x2 x3 M) := by
  unfold Scribe_tokenEnd_B13
  refine EJ_iload_n 14 2 (dk_29 (bt bc_Scribe_tokenEnd_0 13 rfl)) rfl rfl ?_
  refine EJ_iload_n 15 1 (dk_28 (bt bc_Scribe_tokenEnd_0 14 rfl)) rfl rfl ?_
  refine EJ_icmp_ge 62 18 (dk_162 (bt bc_Scribe_tokenEnd_0 15 rfl) (bt bc_Scribe_tokenEnd_0 16 rfl) (bt bc_Scribe_tokenEnd_0 17 rfl) (n := 47) rfl) (by decide) rfl (fun _ => ?_) (fun _ => ?_)
  · refine EJ_iload_n 63 2 (dk_29 (bt bc_Scribe_tokenEnd_1 30 rfl)) rfl rfl ?_
    exact EJ_iret rfl (dk_172 (bt bc_Scribe_tokenEnd_1 31 rfl))
  · refine EJ_aload_n 19 0 (dk_42 (bt bc_Scribe_tokenEnd_0 18 rfl)) rfl rfl ?_
    refine EJ_iload_n 20 2 (dk_29 (bt bc_Scribe_tokenEnd_0 19 rfl)) rfl rfl ?_
    refine EJ_ck (fun h12 => ?_)
    refine EJ_bald 21 h12 (dk_51 (bt bc_Scribe_tokenEnd_0 20 rfl)) rfl ?_
    refine EJ_callSi (Y2 := Y_Scribe_isLetter) 24 (s_Scribe_isLetter G _ _) rfl (dk_184 (bt bc_Scribe_tokenEnd_0 21 rfl) (bt bc_Scribe_tokenEnd_0 22 rfl) (bt bc_Scribe_tokenEnd_0 23 rfl) (n := 65) rfl) rfl tw_635 tw_636 tw_5 tw_637 hd_Scribe_isLetter rfl (by decide) (Nat.le_of_ble_eq_true rfl) (fun r13 M14 => ?_)
    refine EJ_if_eq 62 27 (dk_153 (bt bc_Scribe_tokenEnd_0 24 rfl) (bt bc_Scribe_tokenEnd_0 25 rfl) (bt bc_Scribe_tokenEnd_0 26 rfl) (n := 38) rfl) (by decide) rfl (fun _ => ?_) (fun _ => ?_)
    · refine EJ_iload_n 63 2 (dk_29 (bt bc_Scribe_tokenEnd_1 30 rfl)) rfl rfl ?_
      exact EJ_iret rfl (dk_172 (bt bc_Scribe_tokenEnd_1 31 rfl))
    · refine EJ_iinc 30 2 (lv2 := [(3, .int _), (0, .ref _), (2, .int _)]) (dk_132 (bt bc_Scribe_tokenEnd_0 27 rfl) (bt bc_Scribe_tokenEnd_0 28 rfl) (bt bc_Scribe_tokenEnd_0 29 rfl) (n := 1) rfl) rfl (by decide) rfl (v := 1) kI_1 rfl ?_
      refine EJ_goto 13 (dk_167 (bt bc_Scribe_tokenEnd_0 30 rfl) (bt bc_Scribe_tokenEnd_0 31 rfl) (bt bc_Scribe_tokenEnd_1 0 rfl) (n := -17) rfl) (by decide) ?_
      exact EJ_pick (lv2 := [(0, .ref _), (2, .int _), (3, .int _)]) [1, 2, 0] rfl (hk13 _ _ _ _)
def Scribe_tokenEnd_L13 (n : Nat) : Nat → Int32 → Int32 → Mm → Option (Int32 × Mm) :=
  match n with
  | 0 => fun _ _ _ _ => none
  | n + 1 => Scribe_tokenEnd_B13 (Scribe_tokenEnd_L13 n)
theorem e_Scribe_tokenEnd_L13 {G : Gx} : ∀ (n : Nat) (x0 : Nat) (x2 : Int32) (x3 : Int32) (M : Mm), EJ G Y_Scribe_tokenEnd cvI 2 13 [(0, .ref x0), (2, .int x2), (3, .int x3)] [] M (Scribe_tokenEnd_L13 n x0 x2 x3 M) := by
  intro n
  induction n with
  | zero => intros; exact EJ_none
  | succ n ih => intro x0 x2 x3 M; exact e_Scribe_tokenEnd_B13 _ ih x0 x2 x3 M
def Scribe_tokenEnd (M : Mm) (a0 : Nat) (a1 : Int32) (a2 : Int32) : Option (Int32 × Mm) :=
  let v1 : Int32 := a1 + 1
  ck (kA M a0 21 a1) (
  bd (Scribe_isLetter M (mI M a0 (ix a1))) (fun r3 M4 =>
  if r3 = 0 then (
    ck (kA M4 a0 21 a1) (
    bd (Scribe_isDigit M4 (mI M4 a0 (ix a1))) (fun r6 M7 =>
    if r6 = 0 then (
      some (v1, M7))
    else (
      Scribe_tokenEnd_L42 fu a0 a2 v1 M7))))
  else (
    Scribe_tokenEnd_L13 fu a0 a2 v1 M4)))
set_option maxRecDepth 100000 in
set_option maxHeartbeats 4000000 in
theorem s_Scribe_tokenEnd (G : Gx) (M : Mm) (a0 : Nat) (a1 : Int32) (a2 : Int32) : FnS G Y_Scribe_tokenEnd cvI 2 [.ref a0, .int a1, .int a2] M (Scribe_tokenEnd M a0 a1 a2) := by
  refine FnS.ofE (by decide) (Nat.le_of_ble_eq_true rfl) ?_
  show EJ G Y_Scribe_tokenEnd cvI 2 0 [(0, .ref a0), (1, .int a1), (2, .int a2)] [] M _
  unfold Scribe_tokenEnd
  refine EJ_iload_n 1 1 (dk_27 (bt bc_Scribe_tokenEnd_0 0 rfl)) rfl rfl ?_
  refine EJ_iconst 2 (dk_4 (bt bc_Scribe_tokenEnd_0 1 rfl)) rfl (v := 1) kI_1 ?_
  refine EJ_iadd 3 (dk_96 (bt bc_Scribe_tokenEnd_0 2 rfl)) rfl ?_
  refine EJ_istore_n 4 (lv2 := [(3, .int _), (0, .ref _), (1, .int _), (2, .int _)]) (dk_62 (bt bc_Scribe_tokenEnd_0 3 rfl)) rfl (by decide) rfl ?_
  refine EJ_aload_n 5 1 (dk_42 (bt bc_Scribe_tokenEnd_0 4 rfl)) rfl rfl ?_
  refine EJ_iload_n 6 2 (dk_27 (bt bc_Scribe_tokenEnd_0 5 rfl)) rfl rfl ?_
  refine EJ_ck (fun h2 => ?_)
  refine EJ_bald 7 h2 (dk_51 (bt bc_Scribe_tokenEnd_0 6 rfl)) rfl ?_
  refine EJ_callSi (Y2 := Y_Scribe_isLetter) 10 (s_Scribe_isLetter G _ _) rfl (dk_184 (bt bc_Scribe_tokenEnd_0 7 rfl) (bt bc_Scribe_tokenEnd_0 8 rfl) (bt bc_Scribe_tokenEnd_0 9 rfl) (n := 65) rfl) rfl tw_635 tw_636 tw_5 tw_637 hd_Scribe_isLetter rfl (by decide) (Nat.le_of_ble_eq_true rfl) (fun r3 M4 => ?_)
  refine EJ_if_eq 33 13 (dk_153 (bt bc_Scribe_tokenEnd_0 10 rfl) (bt bc_Scribe_tokenEnd_0 11 rfl) (bt bc_Scribe_tokenEnd_0 12 rfl) (n := 23) rfl) (by decide) rfl (fun _ => ?_) (fun _ => ?_)
  · refine EJ_aload_n 34 1 (dk_42 (bt bc_Scribe_tokenEnd_1 1 rfl)) rfl rfl ?_
    refine EJ_iload_n 35 2 (dk_27 (bt bc_Scribe_tokenEnd_1 2 rfl)) rfl rfl ?_
    refine EJ_ck (fun h5 => ?_)
    refine EJ_bald 36 h5 (dk_51 (bt bc_Scribe_tokenEnd_1 3 rfl)) rfl ?_
    refine EJ_callSi (Y2 := Y_Scribe_isDigit) 39 (s_Scribe_isDigit G _ _) rfl (dk_184 (bt bc_Scribe_tokenEnd_1 4 rfl) (bt bc_Scribe_tokenEnd_1 5 rfl) (bt bc_Scribe_tokenEnd_1 6 rfl) (n := 69) rfl) rfl tw_638 tw_639 tw_5 tw_640 hd_Scribe_isDigit rfl (by decide) (Nat.le_of_ble_eq_true rfl) (fun r6 M7 => ?_)
    refine EJ_if_eq 62 42 (dk_153 (bt bc_Scribe_tokenEnd_1 7 rfl) (bt bc_Scribe_tokenEnd_1 8 rfl) (bt bc_Scribe_tokenEnd_1 9 rfl) (n := 23) rfl) (by decide) rfl (fun _ => ?_) (fun _ => ?_)
    · refine EJ_iload_n 63 0 (dk_29 (bt bc_Scribe_tokenEnd_1 30 rfl)) rfl rfl ?_
      exact EJ_iret rfl (dk_172 (bt bc_Scribe_tokenEnd_1 31 rfl))
    · exact EJ_pick (lv2 := [(0, .ref _), (2, .int _), (3, .int _)]) [1, 3, 0] rfl (e_Scribe_tokenEnd_L42 fu _ _ _ _)
  · exact EJ_pick (lv2 := [(0, .ref _), (2, .int _), (3, .int _)]) [1, 3, 0] rfl (e_Scribe_tokenEnd_L13 fu _ _ _ _)
abbrev Y_Scribe_isSame : Ym := (⟨"RiceHall$Scribe", "isSame", "([BIII)Z"⟩, prog_10_method_10_code, 5, (some FieldType.boolean))
theorem bc_Scribe_isSame_0 : bts prog_10_method_10_code 0 [27, 54, 4, 21, 4, 28, 162, 0, 29, 18, 87, 29, 21, 4, 96, 27, 100, 182, 0, 83, 42, 21, 4, 51, 159, 0, 5, 3, 172, 132, 4, 1] := bts_of (by decide +kernel)
theorem bc_Scribe_isSame_1 : bts prog_10_method_10_code 32 [167, 255, 227, 4, 172] := bts_of (by decide +kernel)
theorem hd_Scribe_isSame : Y_Scribe_isSame.1.cls ≠ "java/lang/invoke/MethodHandle" ∧ Y_Scribe_isSame.1.cls ≠ "java/lang/invoke/VarHandle" ∧ (parseMethodDescriptor Y_Scribe_isSame.1.desc).map (fun d => d.parameters.length) = some 4 := by decide +kernel
def Scribe_isSame_B3 (k3 : Nat → Int32 → Int32 → Int32 → Int32 → Mm → Option (Int32 × Mm)) (x0 : Nat) (x1 : Int32) (x2 : Int32) (x3 : Int32) (x4 : Int32) (M : Mm) : Option (Int32 × Mm) :=
  if x2 ≤ x4 then (
    some (1, M))
  else (
    bd (Str_chr 0 M ((x3 + x4) - x1)) (fun r1 M2 =>
    ck (kA M2 x0 21 x4) (
    if r1 = (mI M2 x0 (ix x4)) then (
      let v4 : Int32 := x4 + 1
      k3 x0 x1 x2 x3 v4 M2)
    else (
      some (0, M2)))))
set_option maxRecDepth 100000 in
set_option maxHeartbeats 4000000 in
theorem e_Scribe_isSame_B3 {G : Gx} (k3 : Nat → Int32 → Int32 → Int32 → Int32 → Mm → Option (Int32 × Mm)) (hk3 : ∀ (x0 : Nat) (x1 : Int32) (x2 : Int32) (x3 : Int32) (x4 : Int32) (M : Mm), EJ G Y_Scribe_isSame cvI 8 3 [(0, .ref x0), (1, .int x1), (2, .int x2), (3, .int x3), (4, .int x4)] [] M (k3 x0 x1 x2 x3 x4 M)) (x0 : Nat) (x1 : Int32) (x2 : Int32) (x3 : Int32) (x4 : Int32) (M : Mm) : EJ G Y_Scribe_isSame cvI 8 3 [(0, .ref x0), (1, .int x1), (2, .int x2), (3, .int x3), (4, .int x4)] [] M (Scribe_isSame_B3 k3 x0 x1 x2 x3 x4 M) := by
  unfold Scribe_isSame_B3
  refine EJ_iload 5 4 (dk_21 (bt bc_Scribe_isSame_0 3 rfl) (bt bc_Scribe_isSame_0 4 rfl)) rfl rfl ?_
  refine EJ_iload_n 6 2 (dk_28 (bt bc_Scribe_isSame_0 5 rfl)) rfl rfl ?_
  refine EJ_icmp_ge 35 9 (dk_162 (bt bc_Scribe_isSame_0 6 rfl) (bt bc_Scribe_isSame_0 7 rfl) (bt bc_Scribe_isSame_0 8 rfl) (n := 29) rfl) (by decide) rfl (fun _ => ?_) (fun _ => ?_)
  · refine EJ_iconst 36 (dk_4 (bt bc_Scribe_isSame_1 3 rfl)) rfl (v := 1) kI_1 ?_
    exact EJ_zret rfl (by decide) (dk_172 (bt bc_Scribe_isSame_1 4 rfl))
  · refine EJ_ldcS1 11 (dk_18 (bt bc_Scribe_isSame_0 9 rfl) (bt bc_Scribe_isSame_0 10 rfl)) rfl rfl ?_
    refine EJ_iload_n 12 3 (dk_29 (bt bc_Scribe_isSame_0 11 rfl)) rfl rfl ?_
    refine EJ_iload 14 4 (dk_21 (bt bc_Scribe_isSame_0 12 rfl) (bt bc_Scribe_isSame_0 13 rfl)) rfl rfl ?_
    refine EJ_iadd 15 (dk_96 (bt bc_Scribe_isSame_0 14 rfl)) rfl ?_
    refine EJ_iload_n 16 1 (dk_27 (bt bc_Scribe_isSame_0 15 rfl)) rfl rfl ?_
    refine EJ_isub 17 (dk_100 (bt bc_Scribe_isSame_0 16 rfl)) rfl ?_
    refine EJ_callT (Y2 := Y_Str_charAt) 20 (b := 0) (by decide) (s_Str_chr G _ 0 (by decide) _) rfl (dk_182 (bt bc_Scribe_isSame_0 17 rfl) (bt bc_Scribe_isSame_0 18 rfl) (bt bc_Scribe_isSame_0 19 rfl) (n := 83) rfl) rfl tw_658 tw_659 tw_660 tw_661 hd_Str_charAt rfl (by decide) (Nat.le_of_ble_eq_true rfl) (fun r1 M2 => ?_)
    refine EJ_aload_n 21 0 (dk_42 (bt bc_Scribe_isSame_0 20 rfl)) rfl rfl ?_
    refine EJ_iload 23 4 (dk_21 (bt bc_Scribe_isSame_0 21 rfl) (bt bc_Scribe_isSame_0 22 rfl)) rfl rfl ?_
    refine EJ_ck (fun h3 => ?_)
    refine EJ_bald 24 h3 (dk_51 (bt bc_Scribe_isSame_0 23 rfl)) rfl ?_
    refine EJ_icmp_eq 29 27 (dk_159 (bt bc_Scribe_isSame_0 24 rfl) (bt bc_Scribe_isSame_0 25 rfl) (bt bc_Scribe_isSame_0 26 rfl) (n := 5) rfl) (by decide) rfl (fun _ => ?_) (fun _ => ?_)
    · refine EJ_iinc 32 4 (lv2 := [(4, .int _), (0, .ref _), (1, .int _), (2, .int _), (3, .int _)]) (dk_132 (bt bc_Scribe_isSame_0 29 rfl) (bt bc_Scribe_isSame_0 30 rfl) (bt bc_Scribe_isSame_0 31 rfl) (n := 1) rfl) rfl (by decide) rfl (v := 1) kI_1 rfl ?_
      refine EJ_goto 3 (dk_167 (bt bc_Scribe_isSame_1 0 rfl) (bt bc_Scribe_isSame_1 1 rfl) (bt bc_Scribe_isSame_1 2 rfl) (n := -29) rfl) (by decide) ?_
      exact EJ_pick (lv2 := [(0, .ref _), (1, .int _), (2, .int _), (3, .int _), (4, .int _)]) [1, 2, 3, 4, 0] rfl (hk3 _ _ _ _ _ _)
    · refine EJ_iconst 28 (dk_3 (bt bc_Scribe_isSame_0 27 rfl)) rfl (v := 0) kI_0 ?_
      exact EJ_zret rfl (by decide) (dk_172 (bt bc_Scribe_isSame_0 28 rfl))
def Scribe_isSame_L3 (n : Nat) : Nat → Int32 → Int32 → Int32 → Int32 → Mm → Option (Int32 × Mm) :=
  match n with
  | 0 => fun _ _ _ _ _ _ => none
  | n + 1 => Scribe_isSame_B3 (Scribe_isSame_L3 n)
theorem e_Scribe_isSame_L3 {G : Gx} : ∀ (n : Nat) (x0 : Nat) (x1 : Int32) (x2 : Int32) (x3 : Int32) (x4 : Int32) (M : Mm), EJ G Y_Scribe_isSame cvI 8 3 [(0, .ref x0), (1, .int x1), (2, .int x2), (3, .int x3), (4, .int x4)] [] M (Scribe_isSame_L3 n x0 x1 x2 x3 x4 M) := by
  intro n
  induction n with
  | zero => intros; exact EJ_none
  | succ n ih => intro x0 x1 x2 x3 x4 M; exact e_Scribe_isSame_B3 _ ih x0 x1 x2 x3 x4 M
def Scribe_isSame (M : Mm) (a0 : Nat) (a1 : Int32) (a2 : Int32) (a3 : Int32) : Option (Int32 × Mm) :=
  Scribe_isSame_L3 fu a0 a1 a2 a3 a1 M
set_option maxRecDepth 100000 in
set_option maxHeartbeats 4000000 in
theorem s_Scribe_isSame (G : Gx) (M : Mm) (a0 : Nat) (a1 : Int32) (a2 : Int32) (a3 : Int32) : FnS G Y_Scribe_isSame cvI 8 [.ref a0, .int a1, .int a2, .int a3] M (Scribe_isSame M a0 a1 a2 a3) := by
  refine FnS.ofE (by decide) (Nat.le_of_ble_eq_true rfl) ?_
  show EJ G Y_Scribe_isSame cvI 8 0 [(0, .ref a0), (1, .int a1), (2, .int a2), (3, .int a3)] [] M _
  unfold Scribe_isSame
  refine EJ_iload_n 1 1 (dk_27 (bt bc_Scribe_isSame_0 0 rfl)) rfl rfl ?_
  refine EJ_istore 3 (lv2 := [(4, .int _), (0, .ref _), (1, .int _), (2, .int _), (3, .int _)]) (dk_54 (bt bc_Scribe_isSame_0 1 rfl) (bt bc_Scribe_isSame_0 2 rfl)) rfl (by decide) rfl ?_
  exact EJ_pick (lv2 := [(0, .ref _), (1, .int _), (2, .int _), (3, .int _), (4, .int _)]) [1, 2, 3, 4, 0] rfl (e_Scribe_isSame_L3 fu _ _ _ _ _ _)
abbrev Y_Scribe_wordOf : Ym := (⟨"RiceHall$Scribe", "wordOf", "([BII)I"⟩, prog_10_method_9_code, 6, (some FieldType.int))
theorem bc_Scribe_wordOf_0 : bts prog_10_method_9_code 0 [3, 62, 3, 54, 4, 3, 54, 5, 21, 5, 18, 87, 182, 0, 77, 163, 0, 64, 21, 5, 18, 87, 182, 0, 77, 159, 0, 15, 18, 87, 21, 5] := bts_of (by decide +kernel)
theorem bc_Scribe_wordOf_1 : bts prog_10_method_9_code 32 [182, 0, 83, 16, 32, 160, 0, 36, 21, 5, 21, 4, 100, 28, 27, 100, 160, 0, 16, 42, 27, 28, 21, 4, 184, 0, 89, 153, 0, 5, 29, 172] := bts_of (by decide +kernel)
theorem bc_Scribe_wordOf_2 : bts prog_10_method_9_code 64 [132, 3, 1, 21, 5, 4, 96, 54, 4, 132, 5, 1, 167, 255, 188, 2, 172] := bts_of (by decide +kernel)
theorem hd_Scribe_wordOf : Y_Scribe_wordOf.1.cls ≠ "java/lang/invoke/MethodHandle" ∧ Y_Scribe_wordOf.1.cls ≠ "java/lang/invoke/VarHandle" ∧ (parseMethodDescriptor Y_Scribe_wordOf.1.desc).map (fun d => d.parameters.length) = some 3 := by decide +kernel
def Scribe_wordOf_J73 (k8 : Nat → Int32 → Int32 → Int32 → Int32 → Int32 → Mm → Option (Int32 × Mm)) (x0 : Nat) (x1 : Int32) (x2 : Int32) (x3 : Int32) (x4 : Int32) (x5 : Int32) (M : Mm) : Option (Int32 × Mm) :=
  let v7 : Int32 := x5 + 1
  k8 x0 x1 x2 x3 x4 v7 M
set_option maxRecDepth 100000 in
set_option maxHeartbeats 4000000 in
theorem e_Scribe_wordOf_J73 {G : Gx} (k8 : Nat → Int32 → Int32 → Int32 → Int32 → Int32 → Mm → Option (Int32 × Mm)) (hk8 : ∀ (x0 : Nat) (x1 : Int32) (x2 : Int32) (x3 : Int32) (x4 : Int32) (x5 : Int32) (M : Mm), EJ G Y_Scribe_wordOf cvI 9 8 [(0, .ref x0), (1, .int x1), (2, .int x2), (3, .int x3), (4, .int x4), (5, .int x5)] [] M (k8 x0 x1 x2 x3 x4 x5 M)) (x0 : Nat) (x1 : Int32) (x2 : Int32) (x3 : Int32) (x4 : Int32) (x5 : Int32) (M : Mm) : EJ G Y_Scribe_wordOf cvI 9 73 [(0, .ref x0), (1, .int x1), (2, .int x2), (3, .int x3), (4, .int x4), (5, .int x5)] [] M (Scribe_wordOf_J73 k8 x0 x1 x2 x3 x4 x5 M) := by
  unfold Scribe_wordOf_J73
  refine EJ_iinc 76 5 (lv2 := [(5, .int _), (0, .ref _), (1, .int _), (2, .int _), (3, .int _), (4, .int _)]) (dk_132 (bt bc_Scribe_wordOf_2 9 rfl) (bt bc_Scribe_wordOf_2 10 rfl) (bt bc_Scribe_wordOf_2 11 rfl) (n := 1) rfl) rfl (by decide) rfl (v := 1) kI_1 rfl ?_
  refine EJ_goto 8 (dk_167 (bt bc_Scribe_wordOf_2 12 rfl) (bt bc_Scribe_wordOf_2 13 rfl) (bt bc_Scribe_wordOf_2 14 rfl) (n := -68) rfl) (by decide) ?_
  exact EJ_pick (lv2 := [(0, .ref _), (1, .int _), (2, .int _), (3, .int _), (4, .int _), (5, .int _)]) [1, 2, 3, 4, 5, 0] rfl (hk8 _ _ _ _ _ _ _)
def Scribe_wordOf_J64 (k8 : Nat → Int32 → Int32 → Int32 → Int32 → Int32 → Mm → Option (Int32 × Mm)) (x0 : Nat) (x1 : Int32) (x2 : Int32) (x3 : Int32) (x5 : Int32) (M : Mm) : Option (Int32 × Mm) :=
  let v5 : Int32 := x3 + 1
  let v6 : Int32 := x5 + 1
  Scribe_wordOf_J73 k8 x0 x1 x2 v5 v6 x5 M
set_option maxRecDepth 100000 in
set_option maxHeartbeats 4000000 in
theorem e_Scribe_wordOf_J64 {G : Gx} (k8 : Nat → Int32 → Int32 → Int32 → Int32 → Int32 → Mm → Option (Int32 × Mm)) (hk8 : ∀ (x0 : Nat) (x1 : Int32) (x2 : Int32) (x3 : Int32) (x4 : Int32) (x5 : Int32) (M : Mm), EJ G Y_Scribe_wordOf cvI 9 8 [(0, .ref x0), (1, .int x1), (2, .int x2), (3, .int x3), (4, .int x4), (5, .int x5)] [] M (k8 x0 x1 x2 x3 x4 x5 M)) (x0 : Nat) (x1 : Int32) (x2 : Int32) (x3 : Int32) (x5 : Int32) (M : Mm) : EJ G Y_Scribe_wordOf cvI 9 64 [(0, .ref x0), (1, .int x1), (2, .int x2), (3, .int x3), (5, .int x5)] [] M (Scribe_wordOf_J64 k8 x0 x1 x2 x3 x5 M) := by
  unfold Scribe_wordOf_J64
  refine EJ_iinc 67 3 (lv2 := [(3, .int _), (0, .ref _), (1, .int _), (2, .int _), (5, .int _)]) (dk_132 (bt bc_Scribe_wordOf_2 0 rfl) (bt bc_Scribe_wordOf_2 1 rfl) (bt bc_Scribe_wordOf_2 2 rfl) (n := 1) rfl) rfl (by decide) rfl (v := 1) kI_1 rfl ?_
  refine EJ_iload 69 4 (dk_21 (bt bc_Scribe_wordOf_2 3 rfl) (bt bc_Scribe_wordOf_2 4 rfl)) rfl rfl ?_
  refine EJ_iconst 70 (dk_4 (bt bc_Scribe_wordOf_2 5 rfl)) rfl (v := 1) kI_1 ?_
  refine EJ_iadd 71 (dk_96 (bt bc_Scribe_wordOf_2 6 rfl)) rfl ?_
  refine EJ_istore 73 (lv2 := [(4, .int _), (3, .int _), (0, .ref _), (1, .int _), (2, .int _), (5, .int _)]) (dk_54 (bt bc_Scribe_wordOf_2 7 rfl) (bt bc_Scribe_wordOf_2 8 rfl)) rfl (by decide) rfl ?_
  exact EJ_pick (lv2 := [(0, .ref _), (1, .int _), (2, .int _), (3, .int _), (4, .int _), (5, .int _)]) [2, 3, 4, 1, 0, 5] rfl (e_Scribe_wordOf_J73 k8 hk8 _ _ _ _ _ _ _)
def Scribe_wordOf_J40 (k8 : Nat → Int32 → Int32 → Int32 → Int32 → Int32 → Mm → Option (Int32 × Mm)) (x0 : Nat) (x1 : Int32) (x2 : Int32) (x3 : Int32) (x4 : Int32) (x5 : Int32) (M : Mm) : Option (Int32 × Mm) :=
  if (x5 - x4) = (x2 - x1) then (
    bd (Scribe_isSame M x0 x1 x2 x4) (fun r8 M9 =>
    if r8 = 0 then (
      Scribe_wordOf_J64 k8 x0 x1 x2 x3 x5 M9)
    else (
      some (x3, M9))))
  else (
    Scribe_wordOf_J64 k8 x0 x1 x2 x3 x5 M)
set_option maxRecDepth 100000 in
set_option maxHeartbeats 4000000 in
theorem e_Scribe_wordOf_J40 {G : Gx} (k8 : Nat → Int32 → Int32 → Int32 → Int32 → Int32 → Mm → Option (Int32 × Mm)) (hk8 : ∀ (x0 : Nat) (x1 : Int32) (x2 : Int32) (x3 : Int32) (x4 : Int32) (x5 : Int32) (M : Mm), EJ G Y_Scribe_wordOf cvI 9 8 [(0, .ref x0), (1, .int x1), (2, .int x2), (3, .int x3), (4, .int x4), (5, .int x5)] [] M (k8 x0 x1 x2 x3 x4 x5 M)) (x0 : Nat) (x1 : Int32) (x2 : Int32) (x3 : Int32) (x4 : Int32) (x5 : Int32) (M : Mm) : EJ G Y_Scribe_wordOf cvI 9 40 [(0, .ref x0), (1, .int x1), (2, .int x2), (3, .int x3), (4, .int x4), (5, .int x5)] [] M (Scribe_wordOf_J40 k8 x0 x1 x2 x3 x4 x5 M) := by
  unfold Scribe_wordOf_J40
  refine EJ_iload 42 5 (dk_21 (bt bc_Scribe_wordOf_1 8 rfl) (bt bc_Scribe_wordOf_1 9 rfl)) rfl rfl ?_
  refine EJ_iload 44 4 (dk_21 (bt bc_Scribe_wordOf_1 10 rfl) (bt bc_Scribe_wordOf_1 11 rfl)) rfl rfl ?_
  refine EJ_isub 45 (dk_100 (bt bc_Scribe_wordOf_1 12 rfl)) rfl ?_
  refine EJ_iload_n 46 2 (dk_28 (bt bc_Scribe_wordOf_1 13 rfl)) rfl rfl ?_
  refine EJ_iload_n 47 1 (dk_27 (bt bc_Scribe_wordOf_1 14 rfl)) rfl rfl ?_
  refine EJ_isub 48 (dk_100 (bt bc_Scribe_wordOf_1 15 rfl)) rfl ?_
  refine EJ_icmp_ne 64 51 (dk_160 (bt bc_Scribe_wordOf_1 16 rfl) (bt bc_Scribe_wordOf_1 17 rfl) (bt bc_Scribe_wordOf_1 18 rfl) (n := 16) rfl) (by decide) rfl (fun _ => ?_) (fun _ => ?_)
  · exact EJ_pick (lv2 := [(0, .ref _), (1, .int _), (2, .int _), (3, .int _), (5, .int _)]) [0, 1, 2, 3, 5] rfl (e_Scribe_wordOf_J64 k8 hk8 _ _ _ _ _ _)
  · refine EJ_aload_n 52 0 (dk_42 (bt bc_Scribe_wordOf_1 19 rfl)) rfl rfl ?_
    refine EJ_iload_n 53 1 (dk_27 (bt bc_Scribe_wordOf_1 20 rfl)) rfl rfl ?_
    refine EJ_iload_n 54 2 (dk_28 (bt bc_Scribe_wordOf_1 21 rfl)) rfl rfl ?_
    refine EJ_iload 56 4 (dk_21 (bt bc_Scribe_wordOf_1 22 rfl) (bt bc_Scribe_wordOf_1 23 rfl)) rfl rfl ?_
    refine EJ_callSi (Y2 := Y_Scribe_isSame) 59 (s_Scribe_isSame G _ _ _ _ _) rfl (dk_184 (bt bc_Scribe_wordOf_1 24 rfl) (bt bc_Scribe_wordOf_1 25 rfl) (bt bc_Scribe_wordOf_1 26 rfl) (n := 89) rfl) rfl tw_696 tw_697 tw_5 tw_698 hd_Scribe_isSame rfl (by decide) (Nat.le_of_ble_eq_true rfl) (fun r8 M9 => ?_)
    refine EJ_if_eq 64 62 (dk_153 (bt bc_Scribe_wordOf_1 27 rfl) (bt bc_Scribe_wordOf_1 28 rfl) (bt bc_Scribe_wordOf_1 29 rfl) (n := 5) rfl) (by decide) rfl (fun _ => ?_) (fun _ => ?_)
    · exact EJ_pick (lv2 := [(0, .ref _), (1, .int _), (2, .int _), (3, .int _), (5, .int _)]) [0, 1, 2, 3, 5] rfl (e_Scribe_wordOf_J64 k8 hk8 _ _ _ _ _ _)
    · refine EJ_iload_n 63 3 (dk_29 (bt bc_Scribe_wordOf_1 30 rfl)) rfl rfl ?_
      exact EJ_iret rfl (dk_172 (bt bc_Scribe_wordOf_1 31 rfl))
def Scribe_wordOf_B8 (k8 : Nat → Int32 → Int32 → Int32 → Int32 → Int32 → Mm → Option (Int32 × Mm)) (x0 : Nat) (x1 : Int32) (x2 : Int32) (x3 : Int32) (x4 : Int32) (x5 : Int32) (M : Mm) : Option (Int32 × Mm) :=
  bd (Str_len 0 M) (fun r1 M2 =>
  if r1 < x5 then (
    some ((-1), M2))
  else (
    bd (Str_len 0 M2) (fun r3 M4 =>
    if x5 = r3 then (
      Scribe_wordOf_J40 k8 x0 x1 x2 x3 x4 x5 M4)
    else (
      bd (Str_chr 0 M4 x5) (fun r10 M11 =>
      if r10 = 32 then (
        Scribe_wordOf_J40 k8 x0 x1 x2 x3 x4 x5 M11)
      else (
        Scribe_wordOf_J73 k8 x0 x1 x2 x3 x4 x5 M11))))))
set_option maxRecDepth 100000 in
set_option maxHeartbeats 4000000 in
theorem e_Scribe_wordOf_B8 {G : Gx} (k8 : Nat → Int32 → Int32 → Int32 → Int32 → Int32 → Mm → Option (Int32 × Mm)) (hk8 : ∀ (x0 : Nat) (x1 : Int32) (x2 : Int32) (x3 : Int32) (x4 : Int32) (x5 : Int32) (M : Mm), EJ G Y_Scribe_wordOf cvI 9 8 [(0, .ref x0), (1, .int x1), (2, .int x2), (3, .int x3), (4, .int x4), (5, .int x5)] [] M (k8 x0 x1 x2 x3 x4 x5 M)) (x0 : Nat) (x1 : Int32) (x2 : Int32) (x3 : Int32) (x4 : Int32) (x5 : Int32) (M : Mm) : EJ G Y_Scribe_wordOf cvI 9 8 [(0, .ref x0), (1, .int x1), (2, .int x2), (3, .int x3), (4, .int x4), (5, .int x5)] [] M (Scribe_wordOf_B8 k8 x0 x1 x2 x3 x4 x5 M) := by
  unfold Scribe_wordOf_B8
  refine EJ_iload 10 5 (dk_21 (bt bc_Scribe_wordOf_0 8 rfl) (bt bc_Scribe_wordOf_0 9 rfl)) rfl rfl ?_
  refine EJ_ldcS1 12 (dk_18 (bt bc_Scribe_wordOf_0 10 rfl) (bt bc_Scribe_wordOf_0 11 rfl)) rfl rfl ?_
  refine EJ_callT (Y2 := Y_Str_length) 15 (b := 0) (by decide) (s_Str_len G _ 0 (by decide)) rfl (dk_182 (bt bc_Scribe_wordOf_0 12 rfl) (bt bc_Scribe_wordOf_0 13 rfl) (bt bc_Scribe_wordOf_0 14 rfl) (n := 77) rfl) rfl tw_648 tw_649 tw_650 tw_651 hd_Str_length rfl (by decide) (Nat.le_of_ble_eq_true rfl) (fun r1 M2 => ?_)
  refine EJ_icmp_gt 79 18 (dk_163 (bt bc_Scribe_wordOf_0 15 rfl) (bt bc_Scribe_wordOf_0 16 rfl) (bt bc_Scribe_wordOf_0 17 rfl) (n := 64) rfl) (by decide) rfl (fun _ => ?_) (fun _ => ?_)
  · refine EJ_iconst 80 (dk_2 (bt bc_Scribe_wordOf_2 15 rfl)) rfl (v := (-1)) kI_m1 ?_
    exact EJ_iret rfl (dk_172 (bt bc_Scribe_wordOf_2 16 rfl))
  · refine EJ_iload 20 5 (dk_21 (bt bc_Scribe_wordOf_0 18 rfl) (bt bc_Scribe_wordOf_0 19 rfl)) rfl rfl ?_
    refine EJ_ldcS1 22 (dk_18 (bt bc_Scribe_wordOf_0 20 rfl) (bt bc_Scribe_wordOf_0 21 rfl)) rfl rfl ?_
    refine EJ_callT (Y2 := Y_Str_length) 25 (b := 0) (by decide) (s_Str_len G _ 0 (by decide)) rfl (dk_182 (bt bc_Scribe_wordOf_0 22 rfl) (bt bc_Scribe_wordOf_0 23 rfl) (bt bc_Scribe_wordOf_0 24 rfl) (n := 77) rfl) rfl tw_648 tw_649 tw_650 tw_651 hd_Str_length rfl (by decide) (Nat.le_of_ble_eq_true rfl) (fun r3 M4 => ?_)
    refine EJ_icmp_eq 40 28 (dk_159 (bt bc_Scribe_wordOf_0 25 rfl) (bt bc_Scribe_wordOf_0 26 rfl) (bt bc_Scribe_wordOf_0 27 rfl) (n := 15) rfl) (by decide) rfl (fun _ => ?_) (fun _ => ?_)
    · exact EJ_pick (lv2 := [(0, .ref _), (1, .int _), (2, .int _), (3, .int _), (4, .int _), (5, .int _)]) [0, 1, 2, 3, 4, 5] rfl (e_Scribe_wordOf_J40 k8 hk8 _ _ _ _ _ _ _)
    · refine EJ_ldcS1 30 (dk_18 (bt bc_Scribe_wordOf_0 28 rfl) (bt bc_Scribe_wordOf_0 29 rfl)) rfl rfl ?_
      refine EJ_iload 32 5 (dk_21 (bt bc_Scribe_wordOf_0 30 rfl) (bt bc_Scribe_wordOf_0 31 rfl)) rfl rfl ?_
      refine EJ_callT (Y2 := Y_Str_charAt) 35 (b := 0) (by decide) (s_Str_chr G _ 0 (by decide) _) rfl (dk_182 (bt bc_Scribe_wordOf_1 0 rfl) (bt bc_Scribe_wordOf_1 1 rfl) (bt bc_Scribe_wordOf_1 2 rfl) (n := 83) rfl) rfl tw_658 tw_659 tw_660 tw_661 hd_Str_charAt rfl (by decide) (Nat.le_of_ble_eq_true rfl) (fun r10 M11 => ?_)
      refine EJ_bipush 37 (dk_16 (bt bc_Scribe_wordOf_1 3 rfl) (bt bc_Scribe_wordOf_1 4 rfl) (n := 32) rfl) rfl (v := 32) kB_32 ?_
      refine EJ_icmp_ne 73 40 (dk_160 (bt bc_Scribe_wordOf_1 5 rfl) (bt bc_Scribe_wordOf_1 6 rfl) (bt bc_Scribe_wordOf_1 7 rfl) (n := 36) rfl) (by decide) rfl (fun _ => ?_) (fun _ => ?_)
      · exact EJ_pick (lv2 := [(0, .ref _), (1, .int _), (2, .int _), (3, .int _), (4, .int _), (5, .int _)]) [0, 1, 2, 3, 4, 5] rfl (e_Scribe_wordOf_J73 k8 hk8 _ _ _ _ _ _ _)
      · exact EJ_pick (lv2 := [(0, .ref _), (1, .int _), (2, .int _), (3, .int _), (4, .int _), (5, .int _)]) [0, 1, 2, 3, 4, 5] rfl (e_Scribe_wordOf_J40 k8 hk8 _ _ _ _ _ _ _)
def Scribe_wordOf_L8 (n : Nat) : Nat → Int32 → Int32 → Int32 → Int32 → Int32 → Mm → Option (Int32 × Mm) :=
  match n with
  | 0 => fun _ _ _ _ _ _ _ => none
  | n + 1 => Scribe_wordOf_B8 (Scribe_wordOf_L8 n)
theorem e_Scribe_wordOf_L8 {G : Gx} : ∀ (n : Nat) (x0 : Nat) (x1 : Int32) (x2 : Int32) (x3 : Int32) (x4 : Int32) (x5 : Int32) (M : Mm), EJ G Y_Scribe_wordOf cvI 9 8 [(0, .ref x0), (1, .int x1), (2, .int x2), (3, .int x3), (4, .int x4), (5, .int x5)] [] M (Scribe_wordOf_L8 n x0 x1 x2 x3 x4 x5 M) := by
  intro n
  induction n with
  | zero => intros; exact EJ_none
  | succ n ih => intro x0 x1 x2 x3 x4 x5 M; exact e_Scribe_wordOf_B8 _ ih x0 x1 x2 x3 x4 x5 M
def Scribe_wordOf (M : Mm) (a0 : Nat) (a1 : Int32) (a2 : Int32) : Option (Int32 × Mm) :=
  Scribe_wordOf_L8 fu a0 a1 a2 0 0 0 M
set_option maxRecDepth 100000 in
set_option maxHeartbeats 4000000 in
theorem s_Scribe_wordOf (G : Gx) (M : Mm) (a0 : Nat) (a1 : Int32) (a2 : Int32) : FnS G Y_Scribe_wordOf cvI 9 [.ref a0, .int a1, .int a2] M (Scribe_wordOf M a0 a1 a2) := by
  refine FnS.ofE (by decide) (Nat.le_of_ble_eq_true rfl) ?_
  show EJ G Y_Scribe_wordOf cvI 9 0 [(0, .ref a0), (1, .int a1), (2, .int a2)] [] M _
  unfold Scribe_wordOf
  refine EJ_iconst 1 (dk_3 (bt bc_Scribe_wordOf_0 0 rfl)) rfl (v := 0) kI_0 ?_
  refine EJ_istore_n 2 (lv2 := [(3, .int _), (0, .ref _), (1, .int _), (2, .int _)]) (dk_62 (bt bc_Scribe_wordOf_0 1 rfl)) rfl (by decide) rfl ?_
  refine EJ_iconst 3 (dk_3 (bt bc_Scribe_wordOf_0 2 rfl)) rfl (v := 0) kI_0 ?_
  refine EJ_istore 5 (lv2 := [(4, .int _), (3, .int _), (0, .ref _), (1, .int _), (2, .int _)]) (dk_54 (bt bc_Scribe_wordOf_0 3 rfl) (bt bc_Scribe_wordOf_0 4 rfl)) rfl (by decide) rfl ?_
  refine EJ_iconst 6 (dk_3 (bt bc_Scribe_wordOf_0 5 rfl)) rfl (v := 0) kI_0 ?_
  refine EJ_istore 8 (lv2 := [(5, .int _), (4, .int _), (3, .int _), (0, .ref _), (1, .int _), (2, .int _)]) (dk_54 (bt bc_Scribe_wordOf_0 6 rfl) (bt bc_Scribe_wordOf_0 7 rfl)) rfl (by decide) rfl ?_
  exact EJ_pick (lv2 := [(0, .ref _), (1, .int _), (2, .int _), (3, .int _), (4, .int _), (5, .int _)]) [3, 4, 5, 2, 1, 0] rfl (e_Scribe_wordOf_L8 fu _ _ _ _ _ _ _)
abbrev Y_Scribe_kindOf : Ym := (⟨"RiceHall$Scribe", "kindOf", "([BII)I"⟩, prog_10_method_8_code, 4, (some FieldType.int))
theorem bc_Scribe_kindOf_0 : bts prog_10_method_8_code 0 [42, 27, 51, 184, 0, 65, 153, 0, 10, 42, 27, 28, 184, 0, 72, 172, 42, 27, 51, 184, 0, 69, 153, 0, 17, 28, 27, 100, 8, 163, 0, 8] := bts_of (by decide +kernel)
theorem bc_Scribe_kindOf_1 : bts prog_10_method_8_code 32 [16, 30, 167, 0, 4, 2, 172, 3, 62, 29, 18, 75, 182, 0, 77, 162, 0, 26, 18, 75, 29, 182, 0, 83, 42, 27, 51, 160, 0, 8, 16, 24] := bts_of (by decide +kernel)
theorem bc_Scribe_kindOf_2 : bts prog_10_method_8_code 64 [29, 96, 172, 132, 3, 1, 167, 255, 227, 2, 172] := bts_of (by decide +kernel)
theorem hd_Scribe_kindOf : Y_Scribe_kindOf.1.cls ≠ "java/lang/invoke/MethodHandle" ∧ Y_Scribe_kindOf.1.cls ≠ "java/lang/invoke/VarHandle" ∧ (parseMethodDescriptor Y_Scribe_kindOf.1.desc).map (fun d => d.parameters.length) = some 3 := by decide +kernel
def Scribe_kindOf_B41 (k41 : Nat → Int32 → Int32 → Mm → Option (Int32 × Mm)) (x0 : Nat) (x1 : Int32) (x3 : Int32) (M : Mm) : Option (Int32 × Mm) :=
  bd (Str_len 1 M) (fun r7 M8 =>
  if r7 ≤ x3 then (
    some ((-1), M8))
  else (
    bd (Str_chr 1 M8 x3) (fun r9 M10 =>
    ck (kA M10 x0 21 x1) (
    if r9 = (mI M10 x0 (ix x1)) then (
      some (24 + x3, M10))
    else (
      let v12 : Int32 := x3 + 1
      k41 x0 x1 v12 M10)))))
set_option maxRecDepth 100000 in
set_option maxHeartbeats 4000000 in
theorem e_Scribe_kindOf_B41 {G : Gx} (k41 : Nat → Int32 → Int32 → Mm → Option (Int32 × Mm)) (hk41 : ∀ (x0 : Nat) (x1 : Int32) (x3 : Int32) (M : Mm), EJ G Y_Scribe_kindOf cvI 10 41 [(0, .ref x0), (1, .int x1), (3, .int x3)] [] M (k41 x0 x1 x3 M)) (x0 : Nat) (x1 : Int32) (x3 : Int32) (M : Mm) : EJ G Y_Scribe_kindOf cvI 10 41 [(0, .ref x0), (1, .int x1), (3, .int x3)] [] M (Scribe_kindOf_B41 k41 x0 x1 x3 M) := by
  unfold Scribe_kindOf_B41
  refine EJ_iload_n 42 2 (dk_29 (bt bc_Scribe_kindOf_1 9 rfl)) rfl rfl ?_
  refine EJ_ldcS2 44 (dk_18 (bt bc_Scribe_kindOf_1 10 rfl) (bt bc_Scribe_kindOf_1 11 rfl)) rfl rfl ?_
  refine EJ_callT (Y2 := Y_Str_length) 47 (b := 1) (by decide) (s_Str_len G _ 1 (by decide)) rfl (dk_182 (bt bc_Scribe_kindOf_1 12 rfl) (bt bc_Scribe_kindOf_1 13 rfl) (bt bc_Scribe_kindOf_1 14 rfl) (n := 77) rfl) rfl tw_648 tw_649 tw_650 tw_651 hd_Str_length rfl (by decide) (Nat.le_of_ble_eq_true rfl) (fun r7 M8 => ?_)
  refine EJ_icmp_ge 73 50 (dk_162 (bt bc_Scribe_kindOf_1 15 rfl) (bt bc_Scribe_kindOf_1 16 rfl) (bt bc_Scribe_kindOf_1 17 rfl) (n := 26) rfl) (by decide) rfl (fun _ => ?_) (fun _ => ?_)
  · refine EJ_iconst 74 (dk_2 (bt bc_Scribe_kindOf_2 9 rfl)) rfl (v := (-1)) kI_m1 ?_
    exact EJ_iret rfl (dk_172 (bt bc_Scribe_kindOf_2 10 rfl))
  · refine EJ_ldcS2 52 (dk_18 (bt bc_Scribe_kindOf_1 18 rfl) (bt bc_Scribe_kindOf_1 19 rfl)) rfl rfl ?_
    refine EJ_iload_n 53 2 (dk_29 (bt bc_Scribe_kindOf_1 20 rfl)) rfl rfl ?_
    refine EJ_callT (Y2 := Y_Str_charAt) 56 (b := 1) (by decide) (s_Str_chr G _ 1 (by decide) _) rfl (dk_182 (bt bc_Scribe_kindOf_1 21 rfl) (bt bc_Scribe_kindOf_1 22 rfl) (bt bc_Scribe_kindOf_1 23 rfl) (n := 83) rfl) rfl tw_658 tw_659 tw_660 tw_661 hd_Str_charAt rfl (by decide) (Nat.le_of_ble_eq_true rfl) (fun r9 M10 => ?_)
    refine EJ_aload_n 57 0 (dk_42 (bt bc_Scribe_kindOf_1 24 rfl)) rfl rfl ?_
    refine EJ_iload_n 58 1 (dk_27 (bt bc_Scribe_kindOf_1 25 rfl)) rfl rfl ?_
    refine EJ_ck (fun h11 => ?_)
    refine EJ_bald 59 h11 (dk_51 (bt bc_Scribe_kindOf_1 26 rfl)) rfl ?_
    refine EJ_icmp_ne 67 62 (dk_160 (bt bc_Scribe_kindOf_1 27 rfl) (bt bc_Scribe_kindOf_1 28 rfl) (bt bc_Scribe_kindOf_1 29 rfl) (n := 8) rfl) (by decide) rfl (fun _ => ?_) (fun _ => ?_)
    · refine EJ_iinc 70 2 (lv2 := [(3, .int _), (0, .ref _), (1, .int _)]) (dk_132 (bt bc_Scribe_kindOf_2 3 rfl) (bt bc_Scribe_kindOf_2 4 rfl) (bt bc_Scribe_kindOf_2 5 rfl) (n := 1) rfl) rfl (by decide) rfl (v := 1) kI_1 rfl ?_
      refine EJ_goto 41 (dk_167 (bt bc_Scribe_kindOf_2 6 rfl) (bt bc_Scribe_kindOf_2 7 rfl) (bt bc_Scribe_kindOf_2 8 rfl) (n := -29) rfl) (by decide) ?_
      exact EJ_pick (lv2 := [(0, .ref _), (1, .int _), (3, .int _)]) [1, 2, 0] rfl (hk41 _ _ _ _)
    · refine EJ_bipush 64 (dk_16 (bt bc_Scribe_kindOf_1 30 rfl) (bt bc_Scribe_kindOf_1 31 rfl) (n := 24) rfl) rfl (v := 24) kB_24 ?_
      refine EJ_iload_n 65 2 (dk_29 (bt bc_Scribe_kindOf_2 0 rfl)) rfl rfl ?_
      refine EJ_iadd 66 (dk_96 (bt bc_Scribe_kindOf_2 1 rfl)) rfl ?_
      exact EJ_iret rfl (dk_172 (bt bc_Scribe_kindOf_2 2 rfl))
def Scribe_kindOf_L41 (n : Nat) : Nat → Int32 → Int32 → Mm → Option (Int32 × Mm) :=
  match n with
  | 0 => fun _ _ _ _ => none
  | n + 1 => Scribe_kindOf_B41 (Scribe_kindOf_L41 n)
theorem e_Scribe_kindOf_L41 {G : Gx} : ∀ (n : Nat) (x0 : Nat) (x1 : Int32) (x3 : Int32) (M : Mm), EJ G Y_Scribe_kindOf cvI 10 41 [(0, .ref x0), (1, .int x1), (3, .int x3)] [] M (Scribe_kindOf_L41 n x0 x1 x3 M) := by
  intro n
  induction n with
  | zero => intros; exact EJ_none
  | succ n ih => intro x0 x1 x3 M; exact e_Scribe_kindOf_B41 _ ih x0 x1 x3 M
def Scribe_kindOf (M : Mm) (a0 : Nat) (a1 : Int32) (a2 : Int32) : Option (Int32 × Mm) :=
  ck (kA M a0 21 a1) (
  bd (Scribe_isLetter M (mI M a0 (ix a1))) (fun r2 M3 =>
  if r2 = 0 then (
    ck (kA M3 a0 21 a1) (
    bd (Scribe_isDigit M3 (mI M3 a0 (ix a1))) (fun r5 M6 =>
    if r5 = 0 then (
      Scribe_kindOf_L41 fu a0 a1 0 M6)
    else (
      if 5 < (a2 - a1) then (
        some ((-1), M6))
      else (
        some (30, M6))))))
  else (
    bd (Scribe_wordOf M3 a0 a1 a2) (fun r13 M14 =>
    some (r13, M14)))))
set_option maxRecDepth 100000 in
set_option maxHeartbeats 4000000 in
theorem s_Scribe_kindOf (G : Gx) (M : Mm) (a0 : Nat) (a1 : Int32) (a2 : Int32) : FnS G Y_Scribe_kindOf cvI 10 [.ref a0, .int a1, .int a2] M (Scribe_kindOf M a0 a1 a2) := by
  refine FnS.ofE (by decide) (Nat.le_of_ble_eq_true rfl) ?_
  show EJ G Y_Scribe_kindOf cvI 10 0 [(0, .ref a0), (1, .int a1), (2, .int a2)] [] M _
  unfold Scribe_kindOf
  refine EJ_aload_n 1 0 (dk_42 (bt bc_Scribe_kindOf_0 0 rfl)) rfl rfl ?_
  refine EJ_iload_n 2 1 (dk_27 (bt bc_Scribe_kindOf_0 1 rfl)) rfl rfl ?_
  refine EJ_ck (fun h1 => ?_)
  refine EJ_bald 3 h1 (dk_51 (bt bc_Scribe_kindOf_0 2 rfl)) rfl ?_
  refine EJ_callSi (Y2 := Y_Scribe_isLetter) 6 (s_Scribe_isLetter G _ _) rfl (dk_184 (bt bc_Scribe_kindOf_0 3 rfl) (bt bc_Scribe_kindOf_0 4 rfl) (bt bc_Scribe_kindOf_0 5 rfl) (n := 65) rfl) rfl tw_635 tw_636 tw_5 tw_637 hd_Scribe_isLetter rfl (by decide) (Nat.le_of_ble_eq_true rfl) (fun r2 M3 => ?_)
  refine EJ_if_eq 16 9 (dk_153 (bt bc_Scribe_kindOf_0 6 rfl) (bt bc_Scribe_kindOf_0 7 rfl) (bt bc_Scribe_kindOf_0 8 rfl) (n := 10) rfl) (by decide) rfl (fun _ => ?_) (fun _ => ?_)
  · refine EJ_aload_n 17 0 (dk_42 (bt bc_Scribe_kindOf_0 16 rfl)) rfl rfl ?_
    refine EJ_iload_n 18 1 (dk_27 (bt bc_Scribe_kindOf_0 17 rfl)) rfl rfl ?_
    refine EJ_ck (fun h4 => ?_)
    refine EJ_bald 19 h4 (dk_51 (bt bc_Scribe_kindOf_0 18 rfl)) rfl ?_
    refine EJ_callSi (Y2 := Y_Scribe_isDigit) 22 (s_Scribe_isDigit G _ _) rfl (dk_184 (bt bc_Scribe_kindOf_0 19 rfl) (bt bc_Scribe_kindOf_0 20 rfl) (bt bc_Scribe_kindOf_0 21 rfl) (n := 69) rfl) rfl tw_638 tw_639 tw_5 tw_640 hd_Scribe_isDigit rfl (by decide) (Nat.le_of_ble_eq_true rfl) (fun r5 M6 => ?_)
    refine EJ_if_eq 39 25 (dk_153 (bt bc_Scribe_kindOf_0 22 rfl) (bt bc_Scribe_kindOf_0 23 rfl) (bt bc_Scribe_kindOf_0 24 rfl) (n := 17) rfl) (by decide) rfl (fun _ => ?_) (fun _ => ?_)
    · refine EJ_iconst 40 (dk_3 (bt bc_Scribe_kindOf_1 7 rfl)) rfl (v := 0) kI_0 ?_
      refine EJ_istore_n 41 (lv2 := [(3, .int _), (0, .ref _), (1, .int _), (2, .int _)]) (dk_62 (bt bc_Scribe_kindOf_1 8 rfl)) rfl (by decide) rfl ?_
      exact EJ_pick (lv2 := [(0, .ref _), (1, .int _), (3, .int _)]) [1, 2, 0] rfl (e_Scribe_kindOf_L41 fu _ _ _ _)
    · refine EJ_iload_n 26 2 (dk_28 (bt bc_Scribe_kindOf_0 25 rfl)) rfl rfl ?_
      refine EJ_iload_n 27 1 (dk_27 (bt bc_Scribe_kindOf_0 26 rfl)) rfl rfl ?_
      refine EJ_isub 28 (dk_100 (bt bc_Scribe_kindOf_0 27 rfl)) rfl ?_
      refine EJ_iconst 29 (dk_8 (bt bc_Scribe_kindOf_0 28 rfl)) rfl (v := 5) kI_5 ?_
      refine EJ_icmp_gt 37 32 (dk_163 (bt bc_Scribe_kindOf_0 29 rfl) (bt bc_Scribe_kindOf_0 30 rfl) (bt bc_Scribe_kindOf_0 31 rfl) (n := 8) rfl) (by decide) rfl (fun _ => ?_) (fun _ => ?_)
      · refine EJ_iconst 38 (dk_2 (bt bc_Scribe_kindOf_1 5 rfl)) rfl (v := (-1)) kI_m1 ?_
        exact EJ_iret rfl (dk_172 (bt bc_Scribe_kindOf_1 6 rfl))
      · refine EJ_bipush 34 (dk_16 (bt bc_Scribe_kindOf_1 0 rfl) (bt bc_Scribe_kindOf_1 1 rfl) (n := 30) rfl) rfl (v := 30) kB_30 ?_
        refine EJ_goto 38 (dk_167 (bt bc_Scribe_kindOf_1 2 rfl) (bt bc_Scribe_kindOf_1 3 rfl) (bt bc_Scribe_kindOf_1 4 rfl) (n := 4) rfl) (by decide) ?_
        exact EJ_iret rfl (dk_172 (bt bc_Scribe_kindOf_1 6 rfl))
  · refine EJ_aload_n 10 0 (dk_42 (bt bc_Scribe_kindOf_0 9 rfl)) rfl rfl ?_
    refine EJ_iload_n 11 1 (dk_27 (bt bc_Scribe_kindOf_0 10 rfl)) rfl rfl ?_
    refine EJ_iload_n 12 2 (dk_28 (bt bc_Scribe_kindOf_0 11 rfl)) rfl rfl ?_
    refine EJ_callSi (Y2 := Y_Scribe_wordOf) 15 (s_Scribe_wordOf G _ _ _ _) rfl (dk_184 (bt bc_Scribe_kindOf_0 12 rfl) (bt bc_Scribe_kindOf_0 13 rfl) (bt bc_Scribe_kindOf_0 14 rfl) (n := 72) rfl) rfl tw_644 tw_645 tw_5 tw_646 hd_Scribe_wordOf rfl (by decide) (Nat.le_of_ble_eq_true rfl) (fun r13 M14 => ?_)
    exact EJ_iret rfl (dk_172 (bt bc_Scribe_kindOf_0 15 rfl))
abbrev Y_Scribe_numberOf : Ym := (⟨"RiceHall$Scribe", "numberOf", "([BII)I"⟩, prog_10_method_11_code, 5, (some FieldType.int))
theorem bc_Scribe_numberOf_0 : bts prog_10_method_11_code 0 [3, 62, 27, 54, 4, 21, 4, 28, 162, 0, 22, 29, 16, 10, 104, 42, 21, 4, 51, 96, 16, 48, 100, 62, 132, 4, 1, 167, 255, 234, 29, 172] := bts_of (by decide +kernel)
theorem hd_Scribe_numberOf : Y_Scribe_numberOf.1.cls ≠ "java/lang/invoke/MethodHandle" ∧ Y_Scribe_numberOf.1.cls ≠ "java/lang/invoke/VarHandle" ∧ (parseMethodDescriptor Y_Scribe_numberOf.1.desc).map (fun d => d.parameters.length) = some 3 := by decide +kernel
def Scribe_numberOf_B5 (k5 : Nat → Int32 → Int32 → Int32 → Mm → Option (Int32 × Mm)) (x0 : Nat) (x2 : Int32) (x3 : Int32) (x4 : Int32) (M : Mm) : Option (Int32 × Mm) :=
  if x2 ≤ x4 then (
    some (x3, M))
  else (
    ck (kA M x0 21 x4) (
    let v2 : Int32 := ((x3 * 10) + (mI M x0 (ix x4))) - 48
    let v3 : Int32 := x4 + 1
    k5 x0 x2 v2 v3 M))
set_option maxRecDepth 100000 in
set_option maxHeartbeats 4000000 in
theorem e_Scribe_numberOf_B5 {G : Gx} (k5 : Nat → Int32 → Int32 → Int32 → Mm → Option (Int32 × Mm)) (hk5 : ∀ (x0 : Nat) (x2 : Int32) (x3 : Int32) (x4 : Int32) (M : Mm), EJ G Y_Scribe_numberOf cvI 1 5 [(0, .ref x0), (2, .int x2), (3, .int x3), (4, .int x4)] [] M (k5 x0 x2 x3 x4 M)) (x0 : Nat) (x2 : Int32) (x3 : Int32) (x4 : Int32) (M : Mm) : EJ G Y_Scribe_numberOf cvI 1 5 [(0, .ref x0), (2, .int x2), (3, .int x3), (4, .int x4)] [] M (Scribe_numberOf_B5 k5 x0 x2 x3 x4 M) := by
  unfold Scribe_numberOf_B5
  refine EJ_iload 7 3 (dk_21 (bt bc_Scribe_numberOf_0 5 rfl) (bt bc_Scribe_numberOf_0 6 rfl)) rfl rfl ?_
  refine EJ_iload_n 8 1 (dk_28 (bt bc_Scribe_numberOf_0 7 rfl)) rfl rfl ?_
  refine EJ_icmp_ge 30 11 (dk_162 (bt bc_Scribe_numberOf_0 8 rfl) (bt bc_Scribe_numberOf_0 9 rfl) (bt bc_Scribe_numberOf_0 10 rfl) (n := 22) rfl) (by decide) rfl (fun _ => ?_) (fun _ => ?_)
  · refine EJ_iload_n 31 2 (dk_29 (bt bc_Scribe_numberOf_0 30 rfl)) rfl rfl ?_
    exact EJ_iret rfl (dk_172 (bt bc_Scribe_numberOf_0 31 rfl))
  · refine EJ_iload_n 12 2 (dk_29 (bt bc_Scribe_numberOf_0 11 rfl)) rfl rfl ?_
    refine EJ_bipush 14 (dk_16 (bt bc_Scribe_numberOf_0 12 rfl) (bt bc_Scribe_numberOf_0 13 rfl) (n := 10) rfl) rfl (v := 10) kB_10 ?_
    refine EJ_imul 15 (dk_104 (bt bc_Scribe_numberOf_0 14 rfl)) rfl ?_
    refine EJ_aload_n 16 0 (dk_42 (bt bc_Scribe_numberOf_0 15 rfl)) rfl rfl ?_
    refine EJ_iload 18 3 (dk_21 (bt bc_Scribe_numberOf_0 16 rfl) (bt bc_Scribe_numberOf_0 17 rfl)) rfl rfl ?_
    refine EJ_ck (fun h1 => ?_)
    refine EJ_bald 19 h1 (dk_51 (bt bc_Scribe_numberOf_0 18 rfl)) rfl ?_
    refine EJ_iadd 20 (dk_96 (bt bc_Scribe_numberOf_0 19 rfl)) rfl ?_
    refine EJ_bipush 22 (dk_16 (bt bc_Scribe_numberOf_0 20 rfl) (bt bc_Scribe_numberOf_0 21 rfl) (n := 48) rfl) rfl (v := 48) kB_48 ?_
    refine EJ_isub 23 (dk_100 (bt bc_Scribe_numberOf_0 22 rfl)) rfl ?_
    refine EJ_istore_n 24 (lv2 := [(3, .int _), (0, .ref _), (2, .int _), (4, .int _)]) (dk_62 (bt bc_Scribe_numberOf_0 23 rfl)) rfl (by decide) rfl ?_
    refine EJ_iinc 27 3 (lv2 := [(4, .int _), (3, .int _), (0, .ref _), (2, .int _)]) (dk_132 (bt bc_Scribe_numberOf_0 24 rfl) (bt bc_Scribe_numberOf_0 25 rfl) (bt bc_Scribe_numberOf_0 26 rfl) (n := 1) rfl) rfl (by decide) rfl (v := 1) kI_1 rfl ?_
    refine EJ_goto 5 (dk_167 (bt bc_Scribe_numberOf_0 27 rfl) (bt bc_Scribe_numberOf_0 28 rfl) (bt bc_Scribe_numberOf_0 29 rfl) (n := -22) rfl) (by decide) ?_
    exact EJ_pick (lv2 := [(0, .ref _), (2, .int _), (3, .int _), (4, .int _)]) [2, 3, 1, 0] rfl (hk5 _ _ _ _ _)
def Scribe_numberOf_L5 (n : Nat) : Nat → Int32 → Int32 → Int32 → Mm → Option (Int32 × Mm) :=
  match n with
  | 0 => fun _ _ _ _ _ => none
  | n + 1 => Scribe_numberOf_B5 (Scribe_numberOf_L5 n)
theorem e_Scribe_numberOf_L5 {G : Gx} : ∀ (n : Nat) (x0 : Nat) (x2 : Int32) (x3 : Int32) (x4 : Int32) (M : Mm), EJ G Y_Scribe_numberOf cvI 1 5 [(0, .ref x0), (2, .int x2), (3, .int x3), (4, .int x4)] [] M (Scribe_numberOf_L5 n x0 x2 x3 x4 M) := by
  intro n
  induction n with
  | zero => intros; exact EJ_none
  | succ n ih => intro x0 x2 x3 x4 M; exact e_Scribe_numberOf_B5 _ ih x0 x2 x3 x4 M
def Scribe_numberOf (M : Mm) (a0 : Nat) (a1 : Int32) (a2 : Int32) : Option (Int32 × Mm) :=
  Scribe_numberOf_L5 fu a0 a2 0 a1 M
set_option maxRecDepth 100000 in
set_option maxHeartbeats 4000000 in
theorem s_Scribe_numberOf (G : Gx) (M : Mm) (a0 : Nat) (a1 : Int32) (a2 : Int32) : FnS G Y_Scribe_numberOf cvI 1 [.ref a0, .int a1, .int a2] M (Scribe_numberOf M a0 a1 a2) := by
  refine FnS.ofE (by decide) (Nat.le_of_ble_eq_true rfl) ?_
  show EJ G Y_Scribe_numberOf cvI 1 0 [(0, .ref a0), (1, .int a1), (2, .int a2)] [] M _
  unfold Scribe_numberOf
  refine EJ_iconst 1 (dk_3 (bt bc_Scribe_numberOf_0 0 rfl)) rfl (v := 0) kI_0 ?_
  refine EJ_istore_n 2 (lv2 := [(3, .int _), (0, .ref _), (1, .int _), (2, .int _)]) (dk_62 (bt bc_Scribe_numberOf_0 1 rfl)) rfl (by decide) rfl ?_
  refine EJ_iload_n 3 2 (dk_27 (bt bc_Scribe_numberOf_0 2 rfl)) rfl rfl ?_
  refine EJ_istore 5 (lv2 := [(4, .int _), (3, .int _), (0, .ref _), (1, .int _), (2, .int _)]) (dk_54 (bt bc_Scribe_numberOf_0 3 rfl) (bt bc_Scribe_numberOf_0 4 rfl)) rfl (by decide) rfl ?_
  exact EJ_pick (lv2 := [(0, .ref _), (2, .int _), (3, .int _), (4, .int _)]) [2, 4, 1, 0] rfl (e_Scribe_numberOf_L5 fu _ _ _ _ _)
abbrev Y_Scribe_begin : Ym := (⟨"RiceHall$Scribe", "begin", "([BI)V"⟩, prog_10_method_2_code, 6, none)
theorem bc_Scribe_begin_0 : bts prog_10_method_2_code 0 [42, 3, 181, 0, 33, 42, 3, 181, 0, 37, 42, 3, 181, 0, 40, 42, 3, 181, 0, 43, 28, 43, 190, 17, 1, 244, 184, 0, 46, 184, 0, 46] := bts_of (by decide +kernel)
theorem bc_Scribe_begin_1 : bts prog_10_method_2_code 32 [62, 3, 54, 4, 21, 4, 29, 162, 0, 117, 43, 21, 4, 29, 184, 0, 52, 54, 5, 43, 21, 4, 51, 16, 32, 159, 0, 85, 43, 21, 4, 51] := bts_of (by decide +kernel)
theorem bc_Scribe_begin_2 : bts prog_10_method_2_code 64 [16, 10, 159, 0, 76, 42, 180, 0, 27, 42, 180, 0, 40, 21, 4, 79, 42, 180, 0, 24, 42, 180, 0, 40, 43, 21, 4, 21, 5, 184, 0, 56] := bts_of (by decide +kernel)
theorem bc_Scribe_begin_3 : bts prog_10_method_2_code 96 [79, 42, 180, 0, 30, 42, 180, 0, 40, 42, 180, 0, 24, 42, 180, 0, 40, 46, 16, 30, 160, 0, 14, 43, 21, 4, 21, 5, 184, 0, 59, 167] := bts_of (by decide +kernel)
theorem bc_Scribe_begin_4 : bts prog_10_method_2_code 128 [0, 4, 2, 79, 42, 89, 180, 0, 40, 4, 96, 181, 0, 40, 21, 4, 4, 96, 21, 5, 184, 0, 62, 54, 4, 167, 255, 139, 42, 180, 0, 27] := bts_of (by decide +kernel)
theorem bc_Scribe_begin_5 : bts prog_10_method_2_code 160 [42, 180, 0, 40, 29, 79, 42, 180, 0, 24, 42, 180, 0, 40, 16, 31, 79, 177] := bts_of (by decide +kernel)
theorem hd_Scribe_begin : Y_Scribe_begin.1.cls = RX8 ∧ Y_Scribe_begin.1.cls ≠ "java/lang/invoke/MethodHandle" ∧ Y_Scribe_begin.1.cls ≠ "java/lang/invoke/VarHandle" ∧ (parseMethodDescriptor Y_Scribe_begin.1.desc).map (fun d => d.parameters.length) = some 2 := by decide +kernel
def Scribe_begin_J142 (k36 : Nat → Nat → Int32 → Int32 → Mm → Option (Unit × Mm)) (x0 : Nat) (x1 : Nat) (x3 : Int32) (x4 : Int32) (x5 : Int32) (M : Mm) : Option (Unit × Mm) :=
  bd (Math_max_I M (x4 + 1) x5) (fun r21 M22 =>
  k36 x0 x1 x3 r21 M22)
set_option maxRecDepth 100000 in
set_option maxHeartbeats 4000000 in
theorem e_Scribe_begin_J142 {G : Gx} (k36 : Nat → Nat → Int32 → Int32 → Mm → Option (Unit × Mm)) (hk36 : ∀ (x0 : Nat) (x1 : Nat) (x3 : Int32) (x4 : Int32) (M : Mm), EJ G Y_Scribe_begin cvV 11 36 [(0, .ref x0), (1, .ref x1), (3, .int x3), (4, .int x4)] [] M (k36 x0 x1 x3 x4 M)) (x0 : Nat) (x1 : Nat) (x3 : Int32) (x4 : Int32) (x5 : Int32) (M : Mm) : EJ G Y_Scribe_begin cvV 11 142 [(0, .ref x0), (1, .ref x1), (3, .int x3), (4, .int x4), (5, .int x5)] [] M (Scribe_begin_J142 k36 x0 x1 x3 x4 x5 M) := by
  unfold Scribe_begin_J142
  refine EJ_iload 144 3 (dk_21 (bt bc_Scribe_begin_4 14 rfl) (bt bc_Scribe_begin_4 15 rfl)) rfl rfl ?_
  refine EJ_iconst 145 (dk_4 (bt bc_Scribe_begin_4 16 rfl)) rfl (v := 1) kI_1 ?_
  refine EJ_iadd 146 (dk_96 (bt bc_Scribe_begin_4 17 rfl)) rfl ?_
  refine EJ_iload 148 4 (dk_21 (bt bc_Scribe_begin_4 18 rfl) (bt bc_Scribe_begin_4 19 rfl)) rfl rfl ?_
  refine EJ_callSi (Y2 := Y_Math_max_I) 151 (s_Math_max_I G _ _ _) rfl (dk_184 (bt bc_Scribe_begin_4 20 rfl) (bt bc_Scribe_begin_4 21 rfl) (bt bc_Scribe_begin_4 22 rfl) (n := 62) rfl) rfl tw_703 tw_559 tw_9 tw_560 hd_Math_max_I rfl (by decide) (Nat.le_of_ble_eq_true rfl) (fun r21 M22 => ?_)
  refine EJ_istore 153 (lv2 := [(4, .int _), (0, .ref _), (1, .ref _), (3, .int _), (5, .int _)]) (dk_54 (bt bc_Scribe_begin_4 23 rfl) (bt bc_Scribe_begin_4 24 rfl)) rfl (by decide) rfl ?_
  refine EJ_goto 36 (dk_167 (bt bc_Scribe_begin_4 25 rfl) (bt bc_Scribe_begin_4 26 rfl) (bt bc_Scribe_begin_4 27 rfl) (n := -117) rfl) (by decide) ?_
  exact EJ_pick (lv2 := [(0, .ref _), (1, .ref _), (3, .int _), (4, .int _)]) [1, 2, 3, 0] rfl (hk36 _ _ _ _ _)
def Scribe_begin_J131 (k36 : Nat → Nat → Int32 → Int32 → Mm → Option (Unit × Mm)) (x0 : Nat) (x1 : Nat) (x3 : Int32) (x4 : Int32) (x5 : Int32) (s0 : Int32) (s1 : Int32) (s2 : Nat) (M : Mm) : Option (Unit × Mm) :=
  ck (kA M s2 20 s1) (
  let M37 := sI M s2 (ix s1) s0
  ck (kO M37 x0 8 11) (
  let M39 := sI M37 x0 9 ((mI M37 x0 9) + 1)
  Scribe_begin_J142 k36 x0 x1 x3 x4 x5 M39))
set_option maxRecDepth 100000 in
set_option maxHeartbeats 4000000 in
theorem e_Scribe_begin_J131 {G : Gx} (k36 : Nat → Nat → Int32 → Int32 → Mm → Option (Unit × Mm)) (hk36 : ∀ (x0 : Nat) (x1 : Nat) (x3 : Int32) (x4 : Int32) (M : Mm), EJ G Y_Scribe_begin cvV 11 36 [(0, .ref x0), (1, .ref x1), (3, .int x3), (4, .int x4)] [] M (k36 x0 x1 x3 x4 M)) (x0 : Nat) (x1 : Nat) (x3 : Int32) (x4 : Int32) (x5 : Int32) (s0 : Int32) (s1 : Int32) (s2 : Nat) (M : Mm) : EJ G Y_Scribe_begin cvV 11 131 [(0, .ref x0), (1, .ref x1), (3, .int x3), (4, .int x4), (5, .int x5)] [.int s0, .int s1, .ref s2] M (Scribe_begin_J131 k36 x0 x1 x3 x4 x5 s0 s1 s2 M) := by
  unfold Scribe_begin_J131
  refine EJ_ck (fun h36 => ?_)
  refine EJ_iast 132 h36 (dk_79 (bt bc_Scribe_begin_4 3 rfl)) rfl ?_
  refine EJ_aload_n 133 0 (dk_42 (bt bc_Scribe_begin_4 4 rfl)) rfl rfl ?_
  refine EJ_dup 134 (dk_89 (bt bc_Scribe_begin_4 5 rfl)) rfl rfl ?_
  refine EJ_ck (fun h38 => ?_)
  refine EJ_getI cf8 9 (by decide) 137 tw_94 (fun _ _ _ => rfl) (dk_180 (bt bc_Scribe_begin_4 6 rfl) (bt bc_Scribe_begin_4 7 rfl) (bt bc_Scribe_begin_4 8 rfl) (n := 40) rfl) rfl (of_decide_eq_true h38) ?_
  refine EJ_iconst 138 (dk_4 (bt bc_Scribe_begin_4 9 rfl)) rfl (v := 1) kI_1 ?_
  refine EJ_iadd 139 (dk_96 (bt bc_Scribe_begin_4 10 rfl)) rfl ?_
  refine EJ_putI cf8 9 (by decide) 142 tw_94 rfl (Or.inl rfl) (dk_181 (bt bc_Scribe_begin_4 11 rfl) (bt bc_Scribe_begin_4 12 rfl) (bt bc_Scribe_begin_4 13 rfl) (n := 40) rfl) rfl (of_decide_eq_true h38) ?_
  exact EJ_pick (lv2 := [(0, .ref _), (1, .ref _), (3, .int _), (4, .int _), (5, .int _)]) [0, 1, 2, 3, 4] rfl (e_Scribe_begin_J142 k36 hk36 _ _ _ _ _ _)
def Scribe_begin_B36 (k36 : Nat → Nat → Int32 → Int32 → Mm → Option (Unit × Mm)) (x0 : Nat) (x1 : Nat) (x3 : Int32) (x4 : Int32) (M : Mm) : Option (Unit × Mm) :=
  if x3 ≤ x4 then (
    ck (kO M x0 8 11) (
    nn (mR M x0 7) (fun b12 =>
    ck (kA M b12 20 (mI M x0 9)) (
    let M14 := sI M b12 (ix (mI M x0 9)) x3
    nn (mR M14 x0 6) (fun b15 =>
    ck (kA M14 b15 20 (mI M14 x0 9)) (
    let M17 := sI M14 b15 (ix (mI M14 x0 9)) 31
    some ((), M17)))))))
  else (
    bd (Scribe_tokenEnd M x1 x4 x3) (fun r18 M19 =>
    ck (kA M19 x1 21 x4) (
    if (mI M19 x1 (ix x4)) = 32 then (
      Scribe_begin_J142 k36 x0 x1 x3 x4 r18 M19)
    else (
      if (mI M19 x1 (ix x4)) = 10 then (
        Scribe_begin_J142 k36 x0 x1 x3 x4 r18 M19)
      else (
        ck (kO M19 x0 8 11) (
        nn (mR M19 x0 7) (fun b24 =>
        ck (kA M19 b24 20 (mI M19 x0 9)) (
        let M26 := sI M19 b24 (ix (mI M19 x0 9)) x4
        nn (mR M26 x0 6) (fun b27 =>
        bd (Scribe_kindOf M26 x1 x4 r18) (fun r28 M29 =>
        ck (kA M29 b27 20 (mI M26 x0 9)) (
        let M31 := sI M29 b27 (ix (mI M26 x0 9)) r28
        ck (kO M31 x0 8 11) (
        nn (mR M31 x0 8) (fun b33 =>
        nn (mR M31 x0 6) (fun b34 =>
        ck (kA M31 b34 20 (mI M31 x0 9)) (
        if (mI M31 b34 (ix (mI M31 x0 9))) = 30 then (
          bd (Scribe_numberOf M31 x1 x4 r18) (fun r40 M41 =>
          Scribe_begin_J131 k36 x0 x1 x3 x4 r18 r40 (mI M31 x0 9) b33 M41))
        else (
          Scribe_begin_J131 k36 x0 x1 x3 x4 r18 (-1) (mI M31 x0 9) b33 M31))))))))))))))))
set_option maxRecDepth 100000 in
set_option maxHeartbeats 4000000 in
theorem e_Scribe_begin_B36 {G : Gx} (k36 : Nat → Nat → Int32 → Int32 → Mm → Option (Unit × Mm)) (hk36 : ∀ (x0 : Nat) (x1 : Nat) (x3 : Int32) (x4 : Int32) (M : Mm), EJ G Y_Scribe_begin cvV 11 36 [(0, .ref x0), (1, .ref x1), (3, .int x3), (4, .int x4)] [] M (k36 x0 x1 x3 x4 M)) (x0 : Nat) (x1 : Nat) (x3 : Int32) (x4 : Int32) (M : Mm) : EJ G Y_Scribe_begin cvV 11 36 [(0, .ref x0), (1, .ref x1), (3, .int x3), (4, .int x4)] [] M (Scribe_begin_B36 k36 x0 x1 x3 x4 M) := by
  unfold Scribe_begin_B36
  refine EJ_iload 38 3 (dk_21 (bt bc_Scribe_begin_1 4 rfl) (bt bc_Scribe_begin_1 5 rfl)) rfl rfl ?_
  refine EJ_iload_n 39 2 (dk_29 (bt bc_Scribe_begin_1 6 rfl)) rfl rfl ?_
  refine EJ_icmp_ge 156 42 (dk_162 (bt bc_Scribe_begin_1 7 rfl) (bt bc_Scribe_begin_1 8 rfl) (bt bc_Scribe_begin_1 9 rfl) (n := 117) rfl) (by decide) rfl (fun _ => ?_) (fun _ => ?_)
  · refine EJ_aload_n 157 0 (dk_42 (bt bc_Scribe_begin_4 28 rfl)) rfl rfl ?_
    refine EJ_ck (fun h11 => ?_)
    refine EJ_getR cf8 7 (by decide) 160 tw_92 (fun _ _ _ => rfl) (dk_180 (bt bc_Scribe_begin_4 29 rfl) (bt bc_Scribe_begin_4 30 rfl) (bt bc_Scribe_begin_4 31 rfl) (n := 27) rfl) rfl (of_decide_eq_true h11) (fun b12 => ?_)
    refine EJ_aload_n 161 0 (dk_42 (bt bc_Scribe_begin_5 0 rfl)) rfl rfl ?_
    refine EJ_getI cf8 9 (by decide) 164 tw_94 (fun _ _ _ => rfl) (dk_180 (bt bc_Scribe_begin_5 1 rfl) (bt bc_Scribe_begin_5 2 rfl) (bt bc_Scribe_begin_5 3 rfl) (n := 40) rfl) rfl (of_decide_eq_true h11) ?_
    refine EJ_iload_n 165 2 (dk_29 (bt bc_Scribe_begin_5 4 rfl)) rfl rfl ?_
    refine EJ_ck (fun h13 => ?_)
    refine EJ_iast 166 h13 (dk_79 (bt bc_Scribe_begin_5 5 rfl)) rfl ?_
    refine EJ_aload_n 167 0 (dk_42 (bt bc_Scribe_begin_5 6 rfl)) rfl rfl ?_
    refine EJ_getR cf8 6 (by decide) 170 tw_91 (fun _ _ _ => rfl) (dk_180 (bt bc_Scribe_begin_5 7 rfl) (bt bc_Scribe_begin_5 8 rfl) (bt bc_Scribe_begin_5 9 rfl) (n := 24) rfl) rfl (kp_I (of_decide_eq_true h11)) (fun b15 => ?_)
    refine EJ_aload_n 171 0 (dk_42 (bt bc_Scribe_begin_5 10 rfl)) rfl rfl ?_
    refine EJ_getI cf8 9 (by decide) 174 tw_94 (fun _ _ _ => rfl) (dk_180 (bt bc_Scribe_begin_5 11 rfl) (bt bc_Scribe_begin_5 12 rfl) (bt bc_Scribe_begin_5 13 rfl) (n := 40) rfl) rfl (kp_I (of_decide_eq_true h11)) ?_
    refine EJ_bipush 176 (dk_16 (bt bc_Scribe_begin_5 14 rfl) (bt bc_Scribe_begin_5 15 rfl) (n := 31) rfl) rfl (v := 31) kB_31 ?_
    refine EJ_ck (fun h16 => ?_)
    refine EJ_iast 177 h16 (dk_79 (bt bc_Scribe_begin_5 16 rfl)) rfl ?_
    exact EJ_vret rfl (dk_177 (bt bc_Scribe_begin_5 17 rfl))
  · refine EJ_aload_n 43 1 (dk_43 (bt bc_Scribe_begin_1 10 rfl)) rfl rfl ?_
    refine EJ_iload 45 3 (dk_21 (bt bc_Scribe_begin_1 11 rfl) (bt bc_Scribe_begin_1 12 rfl)) rfl rfl ?_
    refine EJ_iload_n 46 2 (dk_29 (bt bc_Scribe_begin_1 13 rfl)) rfl rfl ?_
    refine EJ_callSi (Y2 := Y_Scribe_tokenEnd) 49 (s_Scribe_tokenEnd G _ _ _ _) rfl (dk_184 (bt bc_Scribe_begin_1 14 rfl) (bt bc_Scribe_begin_1 15 rfl) (bt bc_Scribe_begin_1 16 rfl) (n := 52) rfl) rfl tw_632 tw_633 tw_5 tw_634 hd_Scribe_tokenEnd rfl (by decide) (Nat.le_of_ble_eq_true rfl) (fun r18 M19 => ?_)
    refine EJ_istore 51 (lv2 := [(5, .int _), (0, .ref _), (1, .ref _), (3, .int _), (4, .int _)]) (dk_54 (bt bc_Scribe_begin_1 17 rfl) (bt bc_Scribe_begin_1 18 rfl)) rfl (by decide) rfl ?_
    refine EJ_aload_n 52 2 (dk_43 (bt bc_Scribe_begin_1 19 rfl)) rfl rfl ?_
    refine EJ_iload 54 4 (dk_21 (bt bc_Scribe_begin_1 20 rfl) (bt bc_Scribe_begin_1 21 rfl)) rfl rfl ?_
    refine EJ_ck (fun h20 => ?_)
    refine EJ_bald 55 h20 (dk_51 (bt bc_Scribe_begin_1 22 rfl)) rfl ?_
    refine EJ_bipush 57 (dk_16 (bt bc_Scribe_begin_1 23 rfl) (bt bc_Scribe_begin_1 24 rfl) (n := 32) rfl) rfl (v := 32) kB_32 ?_
    refine EJ_icmp_eq 142 60 (dk_159 (bt bc_Scribe_begin_1 25 rfl) (bt bc_Scribe_begin_1 26 rfl) (bt bc_Scribe_begin_1 27 rfl) (n := 85) rfl) (by decide) rfl (fun _ => ?_) (fun _ => ?_)
    · exact EJ_pick (lv2 := [(0, .ref _), (1, .ref _), (3, .int _), (4, .int _), (5, .int _)]) [1, 2, 3, 4, 0] rfl (e_Scribe_begin_J142 k36 hk36 _ _ _ _ _ _)
    · refine EJ_aload_n 61 2 (dk_43 (bt bc_Scribe_begin_1 28 rfl)) rfl rfl ?_
      refine EJ_iload 63 4 (dk_21 (bt bc_Scribe_begin_1 29 rfl) (bt bc_Scribe_begin_1 30 rfl)) rfl rfl ?_
      refine EJ_bald 64 h20 (dk_51 (bt bc_Scribe_begin_1 31 rfl)) rfl ?_
      refine EJ_bipush 66 (dk_16 (bt bc_Scribe_begin_2 0 rfl) (bt bc_Scribe_begin_2 1 rfl) (n := 10) rfl) rfl (v := 10) kB_10 ?_
      refine EJ_icmp_eq 142 69 (dk_159 (bt bc_Scribe_begin_2 2 rfl) (bt bc_Scribe_begin_2 3 rfl) (bt bc_Scribe_begin_2 4 rfl) (n := 76) rfl) (by decide) rfl (fun _ => ?_) (fun _ => ?_)
      · exact EJ_pick (lv2 := [(0, .ref _), (1, .ref _), (3, .int _), (4, .int _), (5, .int _)]) [1, 2, 3, 4, 0] rfl (e_Scribe_begin_J142 k36 hk36 _ _ _ _ _ _)
      · refine EJ_aload_n 70 1 (dk_42 (bt bc_Scribe_begin_2 5 rfl)) rfl rfl ?_
        refine EJ_ck (fun h23 => ?_)
        refine EJ_getR cf8 7 (by decide) 73 tw_92 (fun _ _ _ => rfl) (dk_180 (bt bc_Scribe_begin_2 6 rfl) (bt bc_Scribe_begin_2 7 rfl) (bt bc_Scribe_begin_2 8 rfl) (n := 27) rfl) rfl (of_decide_eq_true h23) (fun b24 => ?_)
        refine EJ_aload_n 74 1 (dk_42 (bt bc_Scribe_begin_2 9 rfl)) rfl rfl ?_
        refine EJ_getI cf8 9 (by decide) 77 tw_94 (fun _ _ _ => rfl) (dk_180 (bt bc_Scribe_begin_2 10 rfl) (bt bc_Scribe_begin_2 11 rfl) (bt bc_Scribe_begin_2 12 rfl) (n := 40) rfl) rfl (of_decide_eq_true h23) ?_
        refine EJ_iload 79 4 (dk_21 (bt bc_Scribe_begin_2 13 rfl) (bt bc_Scribe_begin_2 14 rfl)) rfl rfl ?_
        refine EJ_ck (fun h25 => ?_)
        refine EJ_iast 80 h25 (dk_79 (bt bc_Scribe_begin_2 15 rfl)) rfl ?_
        refine EJ_aload_n 81 1 (dk_42 (bt bc_Scribe_begin_2 16 rfl)) rfl rfl ?_
        refine EJ_getR cf8 6 (by decide) 84 tw_91 (fun _ _ _ => rfl) (dk_180 (bt bc_Scribe_begin_2 17 rfl) (bt bc_Scribe_begin_2 18 rfl) (bt bc_Scribe_begin_2 19 rfl) (n := 24) rfl) rfl (kp_I (of_decide_eq_true h23)) (fun b27 => ?_)
        refine EJ_aload_n 85 1 (dk_42 (bt bc_Scribe_begin_2 20 rfl)) rfl rfl ?_
        refine EJ_getI cf8 9 (by decide) 88 tw_94 (fun _ _ _ => rfl) (dk_180 (bt bc_Scribe_begin_2 21 rfl) (bt bc_Scribe_begin_2 22 rfl) (bt bc_Scribe_begin_2 23 rfl) (n := 40) rfl) rfl (kp_I (of_decide_eq_true h23)) ?_
        refine EJ_aload_n 89 2 (dk_43 (bt bc_Scribe_begin_2 24 rfl)) rfl rfl ?_
        refine EJ_iload 91 4 (dk_21 (bt bc_Scribe_begin_2 25 rfl) (bt bc_Scribe_begin_2 26 rfl)) rfl rfl ?_
        refine EJ_iload 93 0 (dk_21 (bt bc_Scribe_begin_2 27 rfl) (bt bc_Scribe_begin_2 28 rfl)) rfl rfl ?_
        refine EJ_callSi (Y2 := Y_Scribe_kindOf) 96 (s_Scribe_kindOf G _ _ _ _) rfl (dk_184 (bt bc_Scribe_begin_2 29 rfl) (bt bc_Scribe_begin_2 30 rfl) (bt bc_Scribe_begin_2 31 rfl) (n := 56) rfl) rfl tw_641 tw_642 tw_5 tw_643 hd_Scribe_kindOf rfl (by decide) (Nat.le_of_ble_eq_true rfl) (fun r28 M29 => ?_)
        refine EJ_ck (fun h30 => ?_)
        refine EJ_iast 97 h30 (dk_79 (bt bc_Scribe_begin_3 0 rfl)) rfl ?_
        refine EJ_aload_n 98 1 (dk_42 (bt bc_Scribe_begin_3 1 rfl)) rfl rfl ?_
        refine EJ_ck (fun h32 => ?_)
        refine EJ_getR cf8 8 (by decide) 101 tw_93 (fun _ _ _ => rfl) (dk_180 (bt bc_Scribe_begin_3 2 rfl) (bt bc_Scribe_begin_3 3 rfl) (bt bc_Scribe_begin_3 4 rfl) (n := 30) rfl) rfl (of_decide_eq_true h32) (fun b33 => ?_)
        refine EJ_aload_n 102 1 (dk_42 (bt bc_Scribe_begin_3 5 rfl)) rfl rfl ?_
        refine EJ_getI cf8 9 (by decide) 105 tw_94 (fun _ _ _ => rfl) (dk_180 (bt bc_Scribe_begin_3 6 rfl) (bt bc_Scribe_begin_3 7 rfl) (bt bc_Scribe_begin_3 8 rfl) (n := 40) rfl) rfl (of_decide_eq_true h32) ?_
        refine EJ_aload_n 106 1 (dk_42 (bt bc_Scribe_begin_3 9 rfl)) rfl rfl ?_
        refine EJ_getR cf8 6 (by decide) 109 tw_91 (fun _ _ _ => rfl) (dk_180 (bt bc_Scribe_begin_3 10 rfl) (bt bc_Scribe_begin_3 11 rfl) (bt bc_Scribe_begin_3 12 rfl) (n := 24) rfl) rfl (of_decide_eq_true h32) (fun b34 => ?_)
        refine EJ_aload_n 110 1 (dk_42 (bt bc_Scribe_begin_3 13 rfl)) rfl rfl ?_
        refine EJ_getI cf8 9 (by decide) 113 tw_94 (fun _ _ _ => rfl) (dk_180 (bt bc_Scribe_begin_3 14 rfl) (bt bc_Scribe_begin_3 15 rfl) (bt bc_Scribe_begin_3 16 rfl) (n := 40) rfl) rfl (of_decide_eq_true h32) ?_
        refine EJ_ck (fun h35 => ?_)
        refine EJ_iald 114 h35 (dk_46 (bt bc_Scribe_begin_3 17 rfl)) rfl ?_
        refine EJ_bipush 116 (dk_16 (bt bc_Scribe_begin_3 18 rfl) (bt bc_Scribe_begin_3 19 rfl) (n := 30) rfl) rfl (v := 30) kB_30 ?_
        refine EJ_icmp_ne 130 119 (dk_160 (bt bc_Scribe_begin_3 20 rfl) (bt bc_Scribe_begin_3 21 rfl) (bt bc_Scribe_begin_3 22 rfl) (n := 14) rfl) (by decide) rfl (fun _ => ?_) (fun _ => ?_)
        · refine EJ_iconst 131 (dk_2 (bt bc_Scribe_begin_4 2 rfl)) rfl (v := (-1)) kI_m1 ?_
          exact EJ_pick (lv2 := [(0, .ref _), (1, .ref _), (3, .int _), (4, .int _), (5, .int _)]) [1, 2, 3, 4, 0] rfl (e_Scribe_begin_J131 k36 hk36 _ _ _ _ _ _ _ _ _)
        · refine EJ_aload_n 120 2 (dk_43 (bt bc_Scribe_begin_3 23 rfl)) rfl rfl ?_
          refine EJ_iload 122 4 (dk_21 (bt bc_Scribe_begin_3 24 rfl) (bt bc_Scribe_begin_3 25 rfl)) rfl rfl ?_
          refine EJ_iload 124 0 (dk_21 (bt bc_Scribe_begin_3 26 rfl) (bt bc_Scribe_begin_3 27 rfl)) rfl rfl ?_
          refine EJ_callSi (Y2 := Y_Scribe_numberOf) 127 (s_Scribe_numberOf G _ _ _ _) rfl (dk_184 (bt bc_Scribe_begin_3 28 rfl) (bt bc_Scribe_begin_3 29 rfl) (bt bc_Scribe_begin_3 30 rfl) (n := 59) rfl) rfl tw_700 tw_701 tw_5 tw_702 hd_Scribe_numberOf rfl (by decide) (Nat.le_of_ble_eq_true rfl) (fun r40 M41 => ?_)
          refine EJ_goto 131 (dk_167 (bt bc_Scribe_begin_3 31 rfl) (bt bc_Scribe_begin_4 0 rfl) (bt bc_Scribe_begin_4 1 rfl) (n := 4) rfl) (by decide) ?_
          exact EJ_pick (lv2 := [(0, .ref _), (1, .ref _), (3, .int _), (4, .int _), (5, .int _)]) [1, 2, 3, 4, 0] rfl (e_Scribe_begin_J131 k36 hk36 _ _ _ _ _ _ _ _ _)
def Scribe_begin_L36 (n : Nat) : Nat → Nat → Int32 → Int32 → Mm → Option (Unit × Mm) :=
  match n with
  | 0 => fun _ _ _ _ _ => none
  | n + 1 => Scribe_begin_B36 (Scribe_begin_L36 n)
theorem e_Scribe_begin_L36 {G : Gx} : ∀ (n : Nat) (x0 : Nat) (x1 : Nat) (x3 : Int32) (x4 : Int32) (M : Mm), EJ G Y_Scribe_begin cvV 11 36 [(0, .ref x0), (1, .ref x1), (3, .int x3), (4, .int x4)] [] M (Scribe_begin_L36 n x0 x1 x3 x4 M) := by
  intro n
  induction n with
  | zero => intros; exact EJ_none
  | succ n ih => intro x0 x1 x3 x4 M; exact e_Scribe_begin_B36 _ ih x0 x1 x3 x4 M
def Scribe_begin (M : Mm) (a0 : Nat) (a1 : Nat) (a2 : Int32) : Option (Unit × Mm) :=
  ck (kO M a0 8 11) (
  let M2 := sI M a0 4 0
  let M3 := sI M2 a0 5 0
  let M4 := sI M3 a0 9 0
  let M5 := sI M4 a0 10 0
  ck (kT M5 a1 21) (
  bd (Math_min_I M5 (ln M5 a1) 500) (fun r7 M8 =>
  bd (Math_min_I M8 a2 r7) (fun r9 M10 =>
  Scribe_begin_L36 fu a0 a1 r9 0 M10))))
set_option maxRecDepth 100000 in
set_option maxHeartbeats 4000000 in
theorem s_Scribe_begin (G : Gx) (M : Mm) (a0 : Nat) (a1 : Nat) (a2 : Int32) : FnS G Y_Scribe_begin cvV 11 [.ref a0, .ref a1, .int a2] M (Scribe_begin M a0 a1 a2) := by
  refine FnS.ofE (by decide) (Nat.le_of_ble_eq_true rfl) ?_
  show EJ G Y_Scribe_begin cvV 11 0 [(0, .ref a0), (1, .ref a1), (2, .int a2)] [] M _
  unfold Scribe_begin
  refine EJ_aload_n 1 0 (dk_42 (bt bc_Scribe_begin_0 0 rfl)) rfl rfl ?_
  refine EJ_iconst 2 (dk_3 (bt bc_Scribe_begin_0 1 rfl)) rfl (v := 0) kI_0 ?_
  refine EJ_ck (fun h1 => ?_)
  refine EJ_putI cf8 4 (by decide) 5 tw_88 rfl (Or.inl rfl) (dk_181 (bt bc_Scribe_begin_0 2 rfl) (bt bc_Scribe_begin_0 3 rfl) (bt bc_Scribe_begin_0 4 rfl) (n := 33) rfl) rfl (of_decide_eq_true h1) ?_
  refine EJ_aload_n 6 0 (dk_42 (bt bc_Scribe_begin_0 5 rfl)) rfl rfl ?_
  refine EJ_iconst 7 (dk_3 (bt bc_Scribe_begin_0 6 rfl)) rfl (v := 0) kI_0 ?_
  refine EJ_putI cf8 5 (by decide) 10 tw_90 rfl (Or.inl rfl) (dk_181 (bt bc_Scribe_begin_0 7 rfl) (bt bc_Scribe_begin_0 8 rfl) (bt bc_Scribe_begin_0 9 rfl) (n := 37) rfl) rfl (kp_I (of_decide_eq_true h1)) ?_
  refine EJ_aload_n 11 0 (dk_42 (bt bc_Scribe_begin_0 10 rfl)) rfl rfl ?_
  refine EJ_iconst 12 (dk_3 (bt bc_Scribe_begin_0 11 rfl)) rfl (v := 0) kI_0 ?_
  refine EJ_putI cf8 9 (by decide) 15 tw_94 rfl (Or.inl rfl) (dk_181 (bt bc_Scribe_begin_0 12 rfl) (bt bc_Scribe_begin_0 13 rfl) (bt bc_Scribe_begin_0 14 rfl) (n := 40) rfl) rfl (kp_I (kp_I (of_decide_eq_true h1))) ?_
  refine EJ_aload_n 16 0 (dk_42 (bt bc_Scribe_begin_0 15 rfl)) rfl rfl ?_
  refine EJ_iconst 17 (dk_3 (bt bc_Scribe_begin_0 16 rfl)) rfl (v := 0) kI_0 ?_
  refine EJ_putI cf8 10 (by decide) 20 tw_95 rfl (Or.inl rfl) (dk_181 (bt bc_Scribe_begin_0 17 rfl) (bt bc_Scribe_begin_0 18 rfl) (bt bc_Scribe_begin_0 19 rfl) (n := 43) rfl) rfl (kp_I (kp_I (kp_I (of_decide_eq_true h1)))) ?_
  refine EJ_iload_n 21 2 (dk_28 (bt bc_Scribe_begin_0 20 rfl)) rfl rfl ?_
  refine EJ_aload_n 22 1 (dk_43 (bt bc_Scribe_begin_0 21 rfl)) rfl rfl ?_
  refine EJ_ck (fun h6 => ?_)
  refine EJ_alen 1 23 (by decide) h6 (dk_190 (bt bc_Scribe_begin_0 22 rfl)) rfl ?_
  refine EJ_sipush 26 (dk_17 (bt bc_Scribe_begin_0 23 rfl) (bt bc_Scribe_begin_0 24 rfl) (bt bc_Scribe_begin_0 25 rfl) (n := 500) rfl) rfl (v := 500) kS_500 ?_
  refine EJ_callSi (Y2 := Y_Math_min_I) 29 (s_Math_min_I G _ _ _) rfl (dk_184 (bt bc_Scribe_begin_0 26 rfl) (bt bc_Scribe_begin_0 27 rfl) (bt bc_Scribe_begin_0 28 rfl) (n := 46) rfl) rfl tw_631 tw_322 tw_9 tw_323 hd_Math_min_I rfl (by decide) (Nat.le_of_ble_eq_true rfl) (fun r7 M8 => ?_)
  refine EJ_callSi (Y2 := Y_Math_min_I) 32 (s_Math_min_I G _ _ _) rfl (dk_184 (bt bc_Scribe_begin_0 29 rfl) (bt bc_Scribe_begin_0 30 rfl) (bt bc_Scribe_begin_0 31 rfl) (n := 46) rfl) rfl tw_631 tw_322 tw_9 tw_323 hd_Math_min_I rfl (by decide) (Nat.le_of_ble_eq_true rfl) (fun r9 M10 => ?_)
  refine EJ_istore_n 33 (lv2 := [(3, .int _), (0, .ref _), (1, .ref _), (2, .int _)]) (dk_62 (bt bc_Scribe_begin_1 0 rfl)) rfl (by decide) rfl ?_
  refine EJ_iconst 34 (dk_3 (bt bc_Scribe_begin_1 1 rfl)) rfl (v := 0) kI_0 ?_
  refine EJ_istore 36 (lv2 := [(4, .int _), (3, .int _), (0, .ref _), (1, .ref _), (2, .int _)]) (dk_54 (bt bc_Scribe_begin_1 2 rfl) (bt bc_Scribe_begin_1 3 rfl)) rfl (by decide) rfl ?_
  exact EJ_pick (lv2 := [(0, .ref _), (1, .ref _), (3, .int _), (4, .int _)]) [2, 3, 1, 0] rfl (e_Scribe_begin_L36 fu _ _ _ _ _)
abbrev Y_Scribe_isAtEnd : Ym := (⟨"RiceHall$Scribe", "isAtEnd", "()Z"⟩, prog_10_method_3_code, 1, (some FieldType.boolean))
theorem bc_Scribe_isAtEnd_0 : bts prog_10_method_3_code 0 [42, 180, 0, 43, 42, 180, 0, 40, 161, 0, 7, 4, 167, 0, 4, 3, 172] := bts_of (by decide +kernel)
theorem hd_Scribe_isAtEnd : Y_Scribe_isAtEnd.1.cls = RX8 ∧ Y_Scribe_isAtEnd.1.cls ≠ "java/lang/invoke/MethodHandle" ∧ Y_Scribe_isAtEnd.1.cls ≠ "java/lang/invoke/VarHandle" ∧ (parseMethodDescriptor Y_Scribe_isAtEnd.1.desc).map (fun d => d.parameters.length) = some 0 := by decide +kernel
def Scribe_isAtEnd (M : Mm) (a0 : Nat) : Option (Int32 × Mm) :=
  ck (kO M a0 8 11) (
  if (mI M a0 10) < (mI M a0 9) then (
    some (0, M))
  else (
    some (1, M)))
set_option maxRecDepth 100000 in
set_option maxHeartbeats 4000000 in
theorem s_Scribe_isAtEnd (G : Gx) (M : Mm) (a0 : Nat) : FnS G Y_Scribe_isAtEnd cvI 1 [.ref a0] M (Scribe_isAtEnd M a0) := by
  refine FnS.ofE (by decide) (Nat.le_of_ble_eq_true rfl) ?_
  show EJ G Y_Scribe_isAtEnd cvI 1 0 [(0, .ref a0)] [] M _
  unfold Scribe_isAtEnd
  refine EJ_aload_n 1 0 (dk_42 (bt bc_Scribe_isAtEnd_0 0 rfl)) rfl rfl ?_
  refine EJ_ck (fun h1 => ?_)
  refine EJ_getI cf8 10 (by decide) 4 tw_95 (fun _ _ _ => rfl) (dk_180 (bt bc_Scribe_isAtEnd_0 1 rfl) (bt bc_Scribe_isAtEnd_0 2 rfl) (bt bc_Scribe_isAtEnd_0 3 rfl) (n := 43) rfl) rfl (of_decide_eq_true h1) ?_
  refine EJ_aload_n 5 0 (dk_42 (bt bc_Scribe_isAtEnd_0 4 rfl)) rfl rfl ?_
  refine EJ_getI cf8 9 (by decide) 8 tw_94 (fun _ _ _ => rfl) (dk_180 (bt bc_Scribe_isAtEnd_0 5 rfl) (bt bc_Scribe_isAtEnd_0 6 rfl) (bt bc_Scribe_isAtEnd_0 7 rfl) (n := 40) rfl) rfl (of_decide_eq_true h1) ?_
  refine EJ_icmp_lt 15 11 (dk_161 (bt bc_Scribe_isAtEnd_0 8 rfl) (bt bc_Scribe_isAtEnd_0 9 rfl) (bt bc_Scribe_isAtEnd_0 10 rfl) (n := 7) rfl) (by decide) rfl (fun _ => ?_) (fun _ => ?_)
  · refine EJ_iconst 16 (dk_3 (bt bc_Scribe_isAtEnd_0 15 rfl)) rfl (v := 0) kI_0 ?_
    exact EJ_zret rfl (by decide) (dk_172 (bt bc_Scribe_isAtEnd_0 16 rfl))
  · refine EJ_iconst 12 (dk_4 (bt bc_Scribe_isAtEnd_0 11 rfl)) rfl (v := 1) kI_1 ?_
    refine EJ_goto 16 (dk_167 (bt bc_Scribe_isAtEnd_0 12 rfl) (bt bc_Scribe_isAtEnd_0 13 rfl) (bt bc_Scribe_isAtEnd_0 14 rfl) (n := 4) rfl) (by decide) ?_
    exact EJ_zret rfl (by decide) (dk_172 (bt bc_Scribe_isAtEnd_0 16 rfl))
abbrev Y_Scribe_readValue : Ym := (⟨"RiceHall$Scribe", "readValue", "(I)I"⟩, prog_10_method_16_code, 2, (some FieldType.int))
theorem bc_Scribe_readValue_0 : bts prog_10_method_16_code 0 [27, 16, 10, 160, 0, 5, 4, 172, 27, 16, 9, 160, 0, 12, 42, 16, 18, 16, 19, 182, 0, 100, 172, 42, 27, 6, 159, 0, 14, 27, 7, 159] := bts_of (by decide +kernel)
theorem bc_Scribe_readValue_1 : bts prog_10_method_16_code 32 [0, 9, 27, 16, 8, 160, 0, 7, 4, 167, 0, 4, 3, 182, 0, 107, 172] := bts_of (by decide +kernel)
theorem hd_Scribe_readValue : Y_Scribe_readValue.1.cls = RX8 ∧ Y_Scribe_readValue.1.cls ≠ "java/lang/invoke/MethodHandle" ∧ Y_Scribe_readValue.1.cls ≠ "java/lang/invoke/VarHandle" ∧ (parseMethodDescriptor Y_Scribe_readValue.1.desc).map (fun d => d.parameters.length) = some 1 := by decide +kernel
def Scribe_readValue_J45 (s0 : Int32) (s1 : Nat) (M : Mm) : Option (Int32 × Mm) :=
  ck (kO M s1 8 11) (
  bd (Scribe_takeNumber M s1 s0) (fun r2 M3 =>
  some (r2, M3)))
set_option maxRecDepth 100000 in
set_option maxHeartbeats 4000000 in
theorem e_Scribe_readValue_J45 {G : Gx} (s0 : Int32) (s1 : Nat) (M : Mm) : EJ G Y_Scribe_readValue cvI 2 45 [] [.int s0, .ref s1] M (Scribe_readValue_J45 s0 s1 M) := by
  unfold Scribe_readValue_J45
  refine EJ_ck (fun h1 => ?_)
  refine EJ_callVi (Y2 := Y_Scribe_takeNumber) 48 cf8 (s_Scribe_takeNumber G _ _ _) (of_decide_eq_true h1) rfl (dk_182 (bt bc_Scribe_readValue_1 13 rfl) (bt bc_Scribe_readValue_1 14 rfl) (bt bc_Scribe_readValue_1 15 rfl) (n := 107) rfl) rfl tw_740 tw_742 ts_22 tw_743 hd_Scribe_takeNumber rfl (by decide) (Nat.le_of_ble_eq_true rfl) (fun r2 M3 => ?_)
  exact EJ_iret rfl (dk_172 (bt bc_Scribe_readValue_1 16 rfl))
def Scribe_readValue_J40 (s0 : Nat) (M : Mm) : Option (Int32 × Mm) :=
  Scribe_readValue_J45 1 s0 M
set_option maxRecDepth 100000 in
set_option maxHeartbeats 4000000 in
theorem e_Scribe_readValue_J40 {G : Gx} (s0 : Nat) (M : Mm) : EJ G Y_Scribe_readValue cvI 2 40 [] [.ref s0] M (Scribe_readValue_J40 s0 M) := by
  unfold Scribe_readValue_J40
  refine EJ_iconst 41 (dk_4 (bt bc_Scribe_readValue_1 8 rfl)) rfl (v := 1) kI_1 ?_
  refine EJ_goto 45 (dk_167 (bt bc_Scribe_readValue_1 9 rfl) (bt bc_Scribe_readValue_1 10 rfl) (bt bc_Scribe_readValue_1 11 rfl) (n := 4) rfl) (by decide) ?_
  exact EJ_pick (lv2 := []) [] rfl (e_Scribe_readValue_J45 _ _ _)
def Scribe_readValue (M : Mm) (a0 : Nat) (a1 : Int32) : Option (Int32 × Mm) :=
  if a1 = 10 then (
    some (1, M))
  else (
    if a1 = 9 then (
      ck (kO M a0 8 11) (
      bd (Scribe_takeOf M a0 18 19) (fun r5 M6 =>
      some (r5, M6))))
    else (
      if a1 = 3 then (
        Scribe_readValue_J40 a0 M)
      else (
        if a1 = 4 then (
          Scribe_readValue_J40 a0 M)
        else (
          if a1 = 8 then (
            Scribe_readValue_J40 a0 M)
          else (
            Scribe_readValue_J45 0 a0 M)))))
set_option maxRecDepth 100000 in
set_option maxHeartbeats 4000000 in
theorem s_Scribe_readValue (G : Gx) (M : Mm) (a0 : Nat) (a1 : Int32) : FnS G Y_Scribe_readValue cvI 2 [.ref a0, .int a1] M (Scribe_readValue M a0 a1) := by
  refine FnS.ofE (by decide) (Nat.le_of_ble_eq_true rfl) ?_
  show EJ G Y_Scribe_readValue cvI 2 0 [(0, .ref a0), (1, .int a1)] [] M _
  unfold Scribe_readValue
  refine EJ_iload_n 1 1 (dk_27 (bt bc_Scribe_readValue_0 0 rfl)) rfl rfl ?_
  refine EJ_bipush 3 (dk_16 (bt bc_Scribe_readValue_0 1 rfl) (bt bc_Scribe_readValue_0 2 rfl) (n := 10) rfl) rfl (v := 10) kB_10 ?_
  refine EJ_icmp_ne 8 6 (dk_160 (bt bc_Scribe_readValue_0 3 rfl) (bt bc_Scribe_readValue_0 4 rfl) (bt bc_Scribe_readValue_0 5 rfl) (n := 5) rfl) (by decide) rfl (fun _ => ?_) (fun _ => ?_)
  · refine EJ_iload_n 9 1 (dk_27 (bt bc_Scribe_readValue_0 8 rfl)) rfl rfl ?_
    refine EJ_bipush 11 (dk_16 (bt bc_Scribe_readValue_0 9 rfl) (bt bc_Scribe_readValue_0 10 rfl) (n := 9) rfl) rfl (v := 9) kB_9 ?_
    refine EJ_icmp_ne 23 14 (dk_160 (bt bc_Scribe_readValue_0 11 rfl) (bt bc_Scribe_readValue_0 12 rfl) (bt bc_Scribe_readValue_0 13 rfl) (n := 12) rfl) (by decide) rfl (fun _ => ?_) (fun _ => ?_)
    · refine EJ_aload_n 24 0 (dk_42 (bt bc_Scribe_readValue_0 23 rfl)) rfl rfl ?_
      refine EJ_iload_n 25 1 (dk_27 (bt bc_Scribe_readValue_0 24 rfl)) rfl rfl ?_
      refine EJ_iconst 26 (dk_6 (bt bc_Scribe_readValue_0 25 rfl)) rfl (v := 3) kI_3 ?_
      refine EJ_icmp_eq 40 29 (dk_159 (bt bc_Scribe_readValue_0 26 rfl) (bt bc_Scribe_readValue_0 27 rfl) (bt bc_Scribe_readValue_0 28 rfl) (n := 14) rfl) (by decide) rfl (fun _ => ?_) (fun _ => ?_)
      · exact EJ_pick (lv2 := []) [] rfl (e_Scribe_readValue_J40 _ _)
      · refine EJ_iload_n 30 1 (dk_27 (bt bc_Scribe_readValue_0 29 rfl)) rfl rfl ?_
        refine EJ_iconst 31 (dk_7 (bt bc_Scribe_readValue_0 30 rfl)) rfl (v := 4) kI_4 ?_
        refine EJ_icmp_eq 40 34 (dk_159 (bt bc_Scribe_readValue_0 31 rfl) (bt bc_Scribe_readValue_1 0 rfl) (bt bc_Scribe_readValue_1 1 rfl) (n := 9) rfl) (by decide) rfl (fun _ => ?_) (fun _ => ?_)
        · exact EJ_pick (lv2 := []) [] rfl (e_Scribe_readValue_J40 _ _)
        · refine EJ_iload_n 35 1 (dk_27 (bt bc_Scribe_readValue_1 2 rfl)) rfl rfl ?_
          refine EJ_bipush 37 (dk_16 (bt bc_Scribe_readValue_1 3 rfl) (bt bc_Scribe_readValue_1 4 rfl) (n := 8) rfl) rfl (v := 8) kB_8 ?_
          refine EJ_icmp_ne 44 40 (dk_160 (bt bc_Scribe_readValue_1 5 rfl) (bt bc_Scribe_readValue_1 6 rfl) (bt bc_Scribe_readValue_1 7 rfl) (n := 7) rfl) (by decide) rfl (fun _ => ?_) (fun _ => ?_)
          · refine EJ_iconst 45 (dk_3 (bt bc_Scribe_readValue_1 12 rfl)) rfl (v := 0) kI_0 ?_
            exact EJ_pick (lv2 := []) [] rfl (e_Scribe_readValue_J45 _ _ _)
          · exact EJ_pick (lv2 := []) [] rfl (e_Scribe_readValue_J40 _ _)
    · refine EJ_aload_n 15 0 (dk_42 (bt bc_Scribe_readValue_0 14 rfl)) rfl rfl ?_
      refine EJ_bipush 17 (dk_16 (bt bc_Scribe_readValue_0 15 rfl) (bt bc_Scribe_readValue_0 16 rfl) (n := 18) rfl) rfl (v := 18) kB_18 ?_
      refine EJ_bipush 19 (dk_16 (bt bc_Scribe_readValue_0 17 rfl) (bt bc_Scribe_readValue_0 18 rfl) (n := 19) rfl) rfl (v := 19) kB_19 ?_
      refine EJ_ck (fun h4 => ?_)
      refine EJ_callVi (Y2 := Y_Scribe_takeOf) 22 cf8 (s_Scribe_takeOf G _ _ _ _) (of_decide_eq_true h4) rfl (dk_182 (bt bc_Scribe_readValue_0 19 rfl) (bt bc_Scribe_readValue_0 20 rfl) (bt bc_Scribe_readValue_0 21 rfl) (n := 100) rfl) rfl tw_736 tw_738 ts_21 tw_739 hd_Scribe_takeOf rfl (by decide) (Nat.le_of_ble_eq_true rfl) (fun r5 M6 => ?_)
      exact EJ_iret rfl (dk_172 (bt bc_Scribe_readValue_0 22 rfl))
  · refine EJ_iconst 7 (dk_4 (bt bc_Scribe_readValue_0 6 rfl)) rfl (v := 1) kI_1 ?_
    exact EJ_iret rfl (dk_172 (bt bc_Scribe_readValue_0 7 rfl))
