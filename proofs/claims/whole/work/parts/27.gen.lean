abbrev Y_Mod_margin : Ym := (⟨"RiceHallModel", "margin", "(II)V"⟩, prog_14_method_73_code, 3, none)
theorem bc_Mod_margin_0 : bts prog_14_method_73_code 0 [42, 180, 0, 51, 27, 47, 42, 27, 182, 1, 64, 148, 155, 0, 11, 42, 180, 0, 42, 27, 2, 79, 177, 42, 180, 0, 42, 27, 46, 156, 0, 14] := bts_of (by decide +kernel)
theorem bc_Mod_margin_1 : bts prog_14_method_73_code 32 [42, 180, 0, 42, 27, 42, 180, 1, 28, 79, 177, 42, 180, 1, 28, 42, 180, 0, 42, 27, 46, 100, 28, 162, 0, 4, 177, 42, 89, 180, 2, 20] := bts_of (by decide +kernel)
theorem bc_Mod_margin_2 : bts prog_14_method_73_code 64 [42, 180, 0, 36, 27, 46, 96, 181, 2, 20, 42, 180, 0, 36, 27, 3, 79, 42, 180, 0, 45, 27, 92, 46, 4, 96, 79, 42, 180, 0, 42, 27] := bts_of (by decide +kernel)
theorem bc_Mod_margin_3 : bts prog_14_method_73_code 96 [2, 79, 42, 180, 0, 51, 27, 47, 9, 148, 155, 0, 4, 177, 42, 89, 180, 1, 71, 42, 180, 0, 51, 27, 47, 97, 181, 1, 71, 42, 180, 0] := bts_of (by decide +kernel)
theorem bc_Mod_margin_4 : bts prog_14_method_73_code 128 [51, 27, 9, 80, 42, 180, 0, 48, 27, 92, 46, 4, 96, 79, 177] := bts_of (by decide +kernel)
theorem hd_Mod_margin : Y_Mod_margin.1.cls = RX12 ∧ Y_Mod_margin.1.cls ≠ "java/lang/invoke/MethodHandle" ∧ Y_Mod_margin.1.cls ≠ "java/lang/invoke/VarHandle" ∧ (parseMethodDescriptor Y_Mod_margin.1.desc).map (fun d => d.parameters.length) = some 2 := by decide +kernel
def Mod_margin (M : Mm) (a0 : Nat) (a1 : Int32) (a2 : Int32) : Option (Unit × Mm) :=
  ck (kO M a0 12 107) (
  nn (mR M a0 16) (fun b2 =>
  ck (kA M b2 23 a1) (
  bd (Mod_needOf M a0 a1) (fun r4 M5 =>
  if (mL M b2 (ix a1)) < r4 then (
    ck (kO M5 a0 12 107) (
    nn (mR M5 a0 13) (fun b7 =>
    ck (kA M5 b7 20 a1) (
    if 0 ≤ (mI M5 b7 (ix a1)) then (
      nn (mR M5 a0 13) (fun b9 =>
      ck (kA M5 b9 20 a1) (
      if a2 ≤ ((mI M5 a0 0) - (mI M5 b9 (ix a1))) then (
        nn (mR M5 a0 11) (fun b11 =>
        ck (kA M5 b11 20 a1) (
        let M13 := sI M5 a0 21 ((mI M5 a0 21) + (mI M5 b11 (ix a1)))
        nn (mR M13 a0 11) (fun b14 =>
        ck (kA M13 b14 20 a1) (
        let M16 := sI M13 b14 (ix a1) 0
        nn (mR M16 a0 14) (fun b17 =>
        ck (kA M16 b17 20 a1) (
        let M19 := sI M16 b17 (ix a1) ((mI M16 b17 (ix a1)) + 1)
        nn (mR M19 a0 13) (fun b20 =>
        ck (kA M19 b20 20 a1) (
        let M22 := sI M19 b20 (ix a1) (-1)
        nn (mR M22 a0 16) (fun b23 =>
        ck (kA M22 b23 23 a1) (
        if (mL M22 b23 (ix a1)) < 0 then (
          nn (mR M22 a0 16) (fun b25 =>
          ck (kA M22 b25 23 a1) (
          let M27 := sL M22 a0 18 ((mL M22 a0 18) + (mL M22 b25 (ix a1)))
          nn (mR M27 a0 16) (fun b28 =>
          ck (kA M27 b28 23 a1) (
          let M30 := sL M27 b28 (ix a1) 0
          nn (mR M30 a0 15) (fun b31 =>
          ck (kA M30 b31 20 a1) (
          let M33 := sI M30 b31 (ix a1) ((mI M30 b31 (ix a1)) + 1)
          some ((), M33))))))))
        else (
          some ((), M22)))))))))))))
      else (
        some ((), M5)))))
    else (
      nn (mR M5 a0 13) (fun b34 =>
      ck (kA M5 b34 20 a1) (
      let M36 := sI M5 b34 (ix a1) (mI M5 a0 0)
      some ((), M36))))))))
  else (
    ck (kO M5 a0 12 107) (
    nn (mR M5 a0 13) (fun b38 =>
    ck (kA M5 b38 20 a1) (
    let M40 := sI M5 b38 (ix a1) (-1)
    some ((), M40)))))))))
set_option maxRecDepth 100000 in
set_option maxHeartbeats 4000000 in
theorem s_Mod_margin (G : Gx) (M : Mm) (a0 : Nat) (a1 : Int32) (a2 : Int32) : FnS G Y_Mod_margin cvV 6 [.ref a0, .int a1, .int a2] M (Mod_margin M a0 a1 a2) := by
  refine FnS.ofE (by decide) (Nat.le_of_ble_eq_true rfl) ?_
  show EJ G Y_Mod_margin cvV 6 0 [(0, .ref a0), (1, .int a1), (2, .int a2)] [] M _
  unfold Mod_margin
  refine EJ_aload_n 1 0 (dk_42 (bt bc_Mod_margin_0 0 rfl)) rfl rfl ?_
  refine EJ_ck (fun h1 => ?_)
  refine EJ_getR cf12 16 (by decide) 4 tw_1214 (fun _ _ _ => rfl) (dk_180 (bt bc_Mod_margin_0 1 rfl) (bt bc_Mod_margin_0 2 rfl) (bt bc_Mod_margin_0 3 rfl) (n := 51) rfl) rfl (of_decide_eq_true h1) (fun b2 => ?_)
  refine EJ_iload_n 5 1 (dk_27 (bt bc_Mod_margin_0 4 rfl)) rfl rfl ?_
  refine EJ_ck (fun h3 => ?_)
  refine EJ_lald 6 h3 (dk_47 (bt bc_Mod_margin_0 5 rfl)) rfl ?_
  refine EJ_aload_n 7 0 (dk_42 (bt bc_Mod_margin_0 6 rfl)) rfl rfl ?_
  refine EJ_iload_n 8 1 (dk_27 (bt bc_Mod_margin_0 7 rfl)) rfl rfl ?_
  refine EJ_callVl (Y2 := Y_Mod_needOf) 11 cf12 (s_Mod_needOf G _ _ _) (of_decide_eq_true h1) rfl (dk_182 (bt bc_Mod_margin_0 8 rfl) (bt bc_Mod_margin_0 9 rfl) (bt bc_Mod_margin_0 10 rfl) (n := 320) rfl) rfl tw_1652 tw_1654 ts_50 tw_1655 hd_Mod_needOf rfl (by decide) (Nat.le_of_ble_eq_true rfl) (fun r4 M5 => ?_)
  refine EJ_lcmp_lt 23 15 (dk_148 (bt bc_Mod_margin_0 11 rfl)) (dk_155 (bt bc_Mod_margin_0 12 rfl) (bt bc_Mod_margin_0 13 rfl) (bt bc_Mod_margin_0 14 rfl) (n := 11) rfl) (by decide) rfl (fun _ => ?_) (fun _ => ?_)
  · refine EJ_aload_n 24 0 (dk_42 (bt bc_Mod_margin_0 23 rfl)) rfl rfl ?_
    refine EJ_ck (fun h6 => ?_)
    refine EJ_getR cf12 13 (by decide) 27 tw_1211 (fun _ _ _ => rfl) (dk_180 (bt bc_Mod_margin_0 24 rfl) (bt bc_Mod_margin_0 25 rfl) (bt bc_Mod_margin_0 26 rfl) (n := 42) rfl) rfl (of_decide_eq_true h6) (fun b7 => ?_)
    refine EJ_iload_n 28 1 (dk_27 (bt bc_Mod_margin_0 27 rfl)) rfl rfl ?_
    refine EJ_ck (fun h8 => ?_)
    refine EJ_iald 29 h8 (dk_46 (bt bc_Mod_margin_0 28 rfl)) rfl ?_
    refine EJ_if_ge 43 32 (dk_156 (bt bc_Mod_margin_0 29 rfl) (bt bc_Mod_margin_0 30 rfl) (bt bc_Mod_margin_0 31 rfl) (n := 14) rfl) (by decide) rfl (fun _ => ?_) (fun _ => ?_)
    · refine EJ_aload_n 44 0 (dk_42 (bt bc_Mod_margin_1 11 rfl)) rfl rfl ?_
      refine EJ_getI cf12 0 (by decide) 47 tw_1198 (fun _ _ _ => rfl) (dk_180 (bt bc_Mod_margin_1 12 rfl) (bt bc_Mod_margin_1 13 rfl) (bt bc_Mod_margin_1 14 rfl) (n := 284) rfl) rfl (of_decide_eq_true h6) ?_
      refine EJ_aload_n 48 0 (dk_42 (bt bc_Mod_margin_1 15 rfl)) rfl rfl ?_
      refine EJ_getR cf12 13 (by decide) 51 tw_1211 (fun _ _ _ => rfl) (dk_180 (bt bc_Mod_margin_1 16 rfl) (bt bc_Mod_margin_1 17 rfl) (bt bc_Mod_margin_1 18 rfl) (n := 42) rfl) rfl (of_decide_eq_true h6) (fun b9 => ?_)
      refine EJ_iload_n 52 1 (dk_27 (bt bc_Mod_margin_1 19 rfl)) rfl rfl ?_
      refine EJ_ck (fun h10 => ?_)
      refine EJ_iald 53 h10 (dk_46 (bt bc_Mod_margin_1 20 rfl)) rfl ?_
      refine EJ_isub 54 (dk_100 (bt bc_Mod_margin_1 21 rfl)) rfl ?_
      refine EJ_iload_n 55 2 (dk_28 (bt bc_Mod_margin_1 22 rfl)) rfl rfl ?_
      refine EJ_icmp_ge 59 58 (dk_162 (bt bc_Mod_margin_1 23 rfl) (bt bc_Mod_margin_1 24 rfl) (bt bc_Mod_margin_1 25 rfl) (n := 4) rfl) (by decide) rfl (fun _ => ?_) (fun _ => ?_)
      · refine EJ_aload_n 60 0 (dk_42 (bt bc_Mod_margin_1 27 rfl)) rfl rfl ?_
        refine EJ_dup 61 (dk_89 (bt bc_Mod_margin_1 28 rfl)) rfl rfl ?_
        refine EJ_getI cf12 21 (by decide) 64 tw_1219 (fun _ _ _ => rfl) (dk_180 (bt bc_Mod_margin_1 29 rfl) (bt bc_Mod_margin_1 30 rfl) (bt bc_Mod_margin_1 31 rfl) (n := 532) rfl) rfl (of_decide_eq_true h6) ?_
        refine EJ_aload_n 65 0 (dk_42 (bt bc_Mod_margin_2 0 rfl)) rfl rfl ?_
        refine EJ_getR cf12 11 (by decide) 68 tw_1209 (fun _ _ _ => rfl) (dk_180 (bt bc_Mod_margin_2 1 rfl) (bt bc_Mod_margin_2 2 rfl) (bt bc_Mod_margin_2 3 rfl) (n := 36) rfl) rfl (of_decide_eq_true h6) (fun b11 => ?_)
        refine EJ_iload_n 69 1 (dk_27 (bt bc_Mod_margin_2 4 rfl)) rfl rfl ?_
        refine EJ_ck (fun h12 => ?_)
        refine EJ_iald 70 h12 (dk_46 (bt bc_Mod_margin_2 5 rfl)) rfl ?_
        refine EJ_iadd 71 (dk_96 (bt bc_Mod_margin_2 6 rfl)) rfl ?_
        refine EJ_putI cf12 21 (by decide) 74 tw_1219 rfl (Or.inl rfl) (dk_181 (bt bc_Mod_margin_2 7 rfl) (bt bc_Mod_margin_2 8 rfl) (bt bc_Mod_margin_2 9 rfl) (n := 532) rfl) rfl (of_decide_eq_true h6) ?_
        refine EJ_aload_n 75 0 (dk_42 (bt bc_Mod_margin_2 10 rfl)) rfl rfl ?_
        refine EJ_getR cf12 11 (by decide) 78 tw_1209 (fun _ _ _ => rfl) (dk_180 (bt bc_Mod_margin_2 11 rfl) (bt bc_Mod_margin_2 12 rfl) (bt bc_Mod_margin_2 13 rfl) (n := 36) rfl) rfl (kp_I (of_decide_eq_true h6)) (fun b14 => ?_)
        refine EJ_iload_n 79 1 (dk_27 (bt bc_Mod_margin_2 14 rfl)) rfl rfl ?_
        refine EJ_iconst 80 (dk_3 (bt bc_Mod_margin_2 15 rfl)) rfl (v := 0) kI_0 ?_
        refine EJ_ck (fun h15 => ?_)
        refine EJ_iast 81 h15 (dk_79 (bt bc_Mod_margin_2 16 rfl)) rfl ?_
        refine EJ_aload_n 82 0 (dk_42 (bt bc_Mod_margin_2 17 rfl)) rfl rfl ?_
        refine EJ_getR cf12 14 (by decide) 85 tw_1212 (fun _ _ _ => rfl) (dk_180 (bt bc_Mod_margin_2 18 rfl) (bt bc_Mod_margin_2 19 rfl) (bt bc_Mod_margin_2 20 rfl) (n := 45) rfl) rfl (kp_I (kp_I (of_decide_eq_true h6))) (fun b17 => ?_)
        refine EJ_iload_n 86 1 (dk_27 (bt bc_Mod_margin_2 21 rfl)) rfl rfl ?_
        refine EJ_dup2 87 (dk_92 (bt bc_Mod_margin_2 22 rfl)) rfl rfl rfl ?_
        refine EJ_ck (fun h18 => ?_)
        refine EJ_iald 88 h18 (dk_46 (bt bc_Mod_margin_2 23 rfl)) rfl ?_
        refine EJ_iconst 89 (dk_4 (bt bc_Mod_margin_2 24 rfl)) rfl (v := 1) kI_1 ?_
        refine EJ_iadd 90 (dk_96 (bt bc_Mod_margin_2 25 rfl)) rfl ?_
        refine EJ_iast 91 h18 (dk_79 (bt bc_Mod_margin_2 26 rfl)) rfl ?_
        refine EJ_aload_n 92 0 (dk_42 (bt bc_Mod_margin_2 27 rfl)) rfl rfl ?_
        refine EJ_getR cf12 13 (by decide) 95 tw_1211 (fun _ _ _ => rfl) (dk_180 (bt bc_Mod_margin_2 28 rfl) (bt bc_Mod_margin_2 29 rfl) (bt bc_Mod_margin_2 30 rfl) (n := 42) rfl) rfl (kp_I (kp_I (kp_I (of_decide_eq_true h6)))) (fun b20 => ?_)
        refine EJ_iload_n 96 1 (dk_27 (bt bc_Mod_margin_2 31 rfl)) rfl rfl ?_
        refine EJ_iconst 97 (dk_2 (bt bc_Mod_margin_3 0 rfl)) rfl (v := (-1)) kI_m1 ?_
        refine EJ_ck (fun h21 => ?_)
        refine EJ_iast 98 h21 (dk_79 (bt bc_Mod_margin_3 1 rfl)) rfl ?_
        refine EJ_aload_n 99 0 (dk_42 (bt bc_Mod_margin_3 2 rfl)) rfl rfl ?_
        refine EJ_getR cf12 16 (by decide) 102 tw_1214 (fun _ _ _ => rfl) (dk_180 (bt bc_Mod_margin_3 3 rfl) (bt bc_Mod_margin_3 4 rfl) (bt bc_Mod_margin_3 5 rfl) (n := 51) rfl) rfl (kp_I (kp_I (kp_I (kp_I (of_decide_eq_true h6))))) (fun b23 => ?_)
        refine EJ_iload_n 103 1 (dk_27 (bt bc_Mod_margin_3 6 rfl)) rfl rfl ?_
        refine EJ_ck (fun h24 => ?_)
        refine EJ_lald 104 h24 (dk_47 (bt bc_Mod_margin_3 7 rfl)) rfl ?_
        refine EJ_lconst 105 (dk_9 (bt bc_Mod_margin_3 8 rfl)) rfl (v := 0) (by decide) ?_
        refine EJ_lcmp_lt 110 109 (dk_148 (bt bc_Mod_margin_3 9 rfl)) (dk_155 (bt bc_Mod_margin_3 10 rfl) (bt bc_Mod_margin_3 11 rfl) (bt bc_Mod_margin_3 12 rfl) (n := 4) rfl) (by decide) rfl (fun _ => ?_) (fun _ => ?_)
        · refine EJ_aload_n 111 0 (dk_42 (bt bc_Mod_margin_3 14 rfl)) rfl rfl ?_
          refine EJ_dup 112 (dk_89 (bt bc_Mod_margin_3 15 rfl)) rfl rfl ?_
          refine EJ_getL cf12 18 (by decide) 115 tw_1216 (fun _ _ _ => rfl) (dk_180 (bt bc_Mod_margin_3 16 rfl) (bt bc_Mod_margin_3 17 rfl) (bt bc_Mod_margin_3 18 rfl) (n := 327) rfl) rfl (kp_I (kp_I (kp_I (kp_I (of_decide_eq_true h6))))) ?_
          refine EJ_aload_n 116 0 (dk_42 (bt bc_Mod_margin_3 19 rfl)) rfl rfl ?_
          refine EJ_getR cf12 16 (by decide) 119 tw_1214 (fun _ _ _ => rfl) (dk_180 (bt bc_Mod_margin_3 20 rfl) (bt bc_Mod_margin_3 21 rfl) (bt bc_Mod_margin_3 22 rfl) (n := 51) rfl) rfl (kp_I (kp_I (kp_I (kp_I (of_decide_eq_true h6))))) (fun b25 => ?_)
          refine EJ_iload_n 120 1 (dk_27 (bt bc_Mod_margin_3 23 rfl)) rfl rfl ?_
          refine EJ_ck (fun h26 => ?_)
          refine EJ_lald 121 h26 (dk_47 (bt bc_Mod_margin_3 24 rfl)) rfl ?_
          refine EJ_ladd 122 (dk_97 (bt bc_Mod_margin_3 25 rfl)) rfl ?_
          refine EJ_putL cf12 18 (by decide) 125 tw_1216 rfl (Or.inl rfl) (dk_181 (bt bc_Mod_margin_3 26 rfl) (bt bc_Mod_margin_3 27 rfl) (bt bc_Mod_margin_3 28 rfl) (n := 327) rfl) rfl (kp_I (kp_I (kp_I (kp_I (of_decide_eq_true h6))))) ?_
          refine EJ_aload_n 126 0 (dk_42 (bt bc_Mod_margin_3 29 rfl)) rfl rfl ?_
          refine EJ_getR cf12 16 (by decide) 129 tw_1214 (fun _ _ _ => rfl) (dk_180 (bt bc_Mod_margin_3 30 rfl) (bt bc_Mod_margin_3 31 rfl) (bt bc_Mod_margin_4 0 rfl) (n := 51) rfl) rfl (kp_L (kp_I (kp_I (kp_I (kp_I (of_decide_eq_true h6)))))) (fun b28 => ?_)
          refine EJ_iload_n 130 1 (dk_27 (bt bc_Mod_margin_4 1 rfl)) rfl rfl ?_
          refine EJ_lconst 131 (dk_9 (bt bc_Mod_margin_4 2 rfl)) rfl (v := 0) (by decide) ?_
          refine EJ_ck (fun h29 => ?_)
          refine EJ_last 132 h29 (dk_80 (bt bc_Mod_margin_4 3 rfl)) rfl ?_
          refine EJ_aload_n 133 0 (dk_42 (bt bc_Mod_margin_4 4 rfl)) rfl rfl ?_
          refine EJ_getR cf12 15 (by decide) 136 tw_1213 (fun _ _ _ => rfl) (dk_180 (bt bc_Mod_margin_4 5 rfl) (bt bc_Mod_margin_4 6 rfl) (bt bc_Mod_margin_4 7 rfl) (n := 48) rfl) rfl (kp_L (kp_L (kp_I (kp_I (kp_I (kp_I (of_decide_eq_true h6))))))) (fun b31 => ?_)
          refine EJ_iload_n 137 1 (dk_27 (bt bc_Mod_margin_4 8 rfl)) rfl rfl ?_
          refine EJ_dup2 138 (dk_92 (bt bc_Mod_margin_4 9 rfl)) rfl rfl rfl ?_
          refine EJ_ck (fun h32 => ?_)
          refine EJ_iald 139 h32 (dk_46 (bt bc_Mod_margin_4 10 rfl)) rfl ?_
          refine EJ_iconst 140 (dk_4 (bt bc_Mod_margin_4 11 rfl)) rfl (v := 1) kI_1 ?_
          refine EJ_iadd 141 (dk_96 (bt bc_Mod_margin_4 12 rfl)) rfl ?_
          refine EJ_iast 142 h32 (dk_79 (bt bc_Mod_margin_4 13 rfl)) rfl ?_
          exact EJ_vret rfl (dk_177 (bt bc_Mod_margin_4 14 rfl))
        · exact EJ_vret rfl (dk_177 (bt bc_Mod_margin_3 13 rfl))
      · exact EJ_vret rfl (dk_177 (bt bc_Mod_margin_1 26 rfl))
    · refine EJ_aload_n 33 0 (dk_42 (bt bc_Mod_margin_1 0 rfl)) rfl rfl ?_
      refine EJ_getR cf12 13 (by decide) 36 tw_1211 (fun _ _ _ => rfl) (dk_180 (bt bc_Mod_margin_1 1 rfl) (bt bc_Mod_margin_1 2 rfl) (bt bc_Mod_margin_1 3 rfl) (n := 42) rfl) rfl (of_decide_eq_true h6) (fun b34 => ?_)
      refine EJ_iload_n 37 1 (dk_27 (bt bc_Mod_margin_1 4 rfl)) rfl rfl ?_
      refine EJ_aload_n 38 0 (dk_42 (bt bc_Mod_margin_1 5 rfl)) rfl rfl ?_
      refine EJ_getI cf12 0 (by decide) 41 tw_1198 (fun _ _ _ => rfl) (dk_180 (bt bc_Mod_margin_1 6 rfl) (bt bc_Mod_margin_1 7 rfl) (bt bc_Mod_margin_1 8 rfl) (n := 284) rfl) rfl (of_decide_eq_true h6) ?_
      refine EJ_ck (fun h35 => ?_)
      refine EJ_iast 42 h35 (dk_79 (bt bc_Mod_margin_1 9 rfl)) rfl ?_
      exact EJ_vret rfl (dk_177 (bt bc_Mod_margin_1 10 rfl))
  · refine EJ_aload_n 16 0 (dk_42 (bt bc_Mod_margin_0 15 rfl)) rfl rfl ?_
    refine EJ_ck (fun h37 => ?_)
    refine EJ_getR cf12 13 (by decide) 19 tw_1211 (fun _ _ _ => rfl) (dk_180 (bt bc_Mod_margin_0 16 rfl) (bt bc_Mod_margin_0 17 rfl) (bt bc_Mod_margin_0 18 rfl) (n := 42) rfl) rfl (of_decide_eq_true h37) (fun b38 => ?_)
    refine EJ_iload_n 20 1 (dk_27 (bt bc_Mod_margin_0 19 rfl)) rfl rfl ?_
    refine EJ_iconst 21 (dk_2 (bt bc_Mod_margin_0 20 rfl)) rfl (v := (-1)) kI_m1 ?_
    refine EJ_ck (fun h39 => ?_)
    refine EJ_iast 22 h39 (dk_79 (bt bc_Mod_margin_0 21 rfl)) rfl ?_
    exact EJ_vret rfl (dk_177 (bt bc_Mod_margin_0 22 rfl))
abbrev Y_Mod_parts : Ym := (⟨"RiceHallModel", "parts", "(IJJ)V"⟩, prog_14_method_75_code, 13, none)
theorem bc_Mod_parts_0 : bts prog_14_method_75_code 0 [42, 180, 0, 51, 27, 47, 9, 148, 158, 0, 12, 42, 180, 0, 51, 27, 47, 167, 0, 4, 9, 55, 6, 9, 55, 8, 9, 55, 10, 16, 62, 54] := bts_of (by decide +kernel)
theorem bc_Mod_parts_1 : bts prog_14_method_75_code 32 [12, 21, 12, 155, 0, 86, 22, 8, 22, 8, 97, 55, 8, 22, 10, 22, 10, 97, 55, 10, 22, 10, 22, 4, 148, 155, 0, 16, 22, 10, 22, 4] := bts_of (by decide +kernel)
theorem bc_Mod_parts_2 : bts prog_14_method_75_code 64 [101, 55, 10, 22, 8, 10, 97, 55, 8, 32, 21, 12, 123, 10, 127, 9, 148, 154, 0, 6, 167, 0, 31, 22, 10, 22, 6, 97, 55, 10, 22, 10] := bts_of (by decide +kernel)
theorem bc_Mod_parts_3 : bts prog_14_method_75_code 96 [22, 4, 148, 155, 0, 16, 22, 10, 22, 4, 101, 55, 10, 22, 8, 10, 97, 55, 8, 132, 12, 255, 167, 255, 171, 42, 180, 0, 230, 27, 22, 8] := bts_of (by decide +kernel)
theorem bc_Mod_parts_4 : bts prog_14_method_75_code 128 [80, 42, 180, 0, 233, 27, 22, 6, 9, 148, 154, 0, 9, 20, 1, 99, 167, 0, 5, 22, 10, 80, 177] := bts_of (by decide +kernel)
theorem hd_Mod_parts : Y_Mod_parts.1.cls = RX12 ∧ Y_Mod_parts.1.cls ≠ "java/lang/invoke/MethodHandle" ∧ Y_Mod_parts.1.cls ≠ "java/lang/invoke/VarHandle" ∧ (parseMethodDescriptor Y_Mod_parts.1.desc).map (fun d => d.parameters.length) = some 3 := by decide +kernel
def Mod_parts_J115 (k33 : Nat → Int32 → Int64 → Int64 → Int64 → Int64 → Int64 → Int32 → Mm → Option (Unit × Mm)) (x0 : Nat) (x1 : Int32) (x2 : Int64) (x4 : Int64) (x6 : Int64) (x8 : Int64) (x10 : Int64) (x12 : Int32) (M : Mm) : Option (Unit × Mm) :=
  let v16 : Int32 := x12 + (-1)
  k33 x0 x1 x2 x4 x6 x8 x10 v16 M
set_option maxRecDepth 100000 in
set_option maxHeartbeats 4000000 in
theorem e_Mod_parts_J115 {G : Gx} (k33 : Nat → Int32 → Int64 → Int64 → Int64 → Int64 → Int64 → Int32 → Mm → Option (Unit × Mm)) (hk33 : ∀ (x0 : Nat) (x1 : Int32) (x2 : Int64) (x4 : Int64) (x6 : Int64) (x8 : Int64) (x10 : Int64) (x12 : Int32) (M : Mm), EJ G Y_Mod_parts cvV 1 33 [(0, .ref x0), (1, .int x1), (2, .long x2), (4, .long x4), (6, .long x6), (8, .long x8), (10, .long x10), (12, .int x12)] [] M (k33 x0 x1 x2 x4 x6 x8 x10 x12 M)) (x0 : Nat) (x1 : Int32) (x2 : Int64) (x4 : Int64) (x6 : Int64) (x8 : Int64) (x10 : Int64) (x12 : Int32) (M : Mm) : EJ G Y_Mod_parts cvV 1 115 [(0, .ref x0), (1, .int x1), (2, .long x2), (4, .long x4), (6, .long x6), (8, .long x8), (10, .long x10), (12, .int x12)] [] M (Mod_parts_J115 k33 x0 x1 x2 x4 x6 x8 x10 x12 M) := by
  unfold Mod_parts_J115
  refine EJ_iinc 118 7 (lv2 := [(12, .int _), (0, .ref _), (1, .int _), (2, .long _), (4, .long _), (6, .long _), (8, .long _), (10, .long _)]) (dk_132 (bt bc_Mod_parts_3 19 rfl) (bt bc_Mod_parts_3 20 rfl) (bt bc_Mod_parts_3 21 rfl) (n := -1) rfl) rfl (by decide) rfl (v := (-1)) kI_m1 rfl ?_
  refine EJ_goto 33 (dk_167 (bt bc_Mod_parts_3 22 rfl) (bt bc_Mod_parts_3 23 rfl) (bt bc_Mod_parts_3 24 rfl) (n := -85) rfl) (by decide) ?_
  exact EJ_pick (lv2 := [(0, .ref _), (1, .int _), (2, .long _), (4, .long _), (6, .long _), (8, .long _), (10, .long _), (12, .int _)]) [1, 2, 3, 4, 5, 6, 7, 0] rfl (hk33 _ _ _ _ _ _ _ _ _)
def Mod_parts_J73 (k33 : Nat → Int32 → Int64 → Int64 → Int64 → Int64 → Int64 → Int32 → Mm → Option (Unit × Mm)) (x0 : Nat) (x1 : Int32) (x2 : Int64) (x4 : Int64) (x6 : Int64) (x8 : Int64) (x10 : Int64) (x12 : Int32) (M : Mm) : Option (Unit × Mm) :=
  if ((x2 >>> (Int32.toInt64 x12 &&& 63)) &&& 1) = 0 then (
    Mod_parts_J115 k33 x0 x1 x2 x4 x6 x8 x10 x12 M)
  else (
    let v15 : Int64 := x10 + x6
    if v15 < x4 then (
      Mod_parts_J115 k33 x0 x1 x2 x4 x6 x8 v15 x12 M)
    else (
      let v17 : Int64 := v15 - x4
      let v18 : Int64 := x8 + 1
      Mod_parts_J115 k33 x0 x1 x2 x4 x6 v18 v17 x12 M))
set_option maxRecDepth 100000 in
set_option maxHeartbeats 4000000 in
theorem e_Mod_parts_J73 {G : Gx} (k33 : Nat → Int32 → Int64 → Int64 → Int64 → Int64 → Int64 → Int32 → Mm → Option (Unit × Mm)) (hk33 : ∀ (x0 : Nat) (x1 : Int32) (x2 : Int64) (x4 : Int64) (x6 : Int64) (x8 : Int64) (x10 : Int64) (x12 : Int32) (M : Mm), EJ G Y_Mod_parts cvV 1 33 [(0, .ref x0), (1, .int x1), (2, .long x2), (4, .long x4), (6, .long x6), (8, .long x8), (10, .long x10), (12, .int x12)] [] M (k33 x0 x1 x2 x4 x6 x8 x10 x12 M)) (x0 : Nat) (x1 : Int32) (x2 : Int64) (x4 : Int64) (x6 : Int64) (x8 : Int64) (x10 : Int64) (x12 : Int32) (M : Mm) : EJ G Y_Mod_parts cvV 1 73 [(0, .ref x0), (1, .int x1), (2, .long x2), (4, .long x4), (6, .long x6), (8, .long x8), (10, .long x10), (12, .int x12)] [] M (Mod_parts_J73 k33 x0 x1 x2 x4 x6 x8 x10 x12 M) := by
  unfold Mod_parts_J73
  refine EJ_lload_n 74 2 (dk_32 (bt bc_Mod_parts_2 9 rfl)) rfl rfl ?_
  refine EJ_iload 76 7 (dk_21 (bt bc_Mod_parts_2 10 rfl) (bt bc_Mod_parts_2 11 rfl)) rfl rfl ?_
  refine EJ_lshr 77 (dk_123 (bt bc_Mod_parts_2 12 rfl)) rfl ?_
  refine EJ_lconst 78 (dk_10 (bt bc_Mod_parts_2 13 rfl)) rfl (v := 1) (by decide) ?_
  refine EJ_land 79 (dk_127 (bt bc_Mod_parts_2 14 rfl)) rfl ?_
  refine EJ_lconst 80 (dk_9 (bt bc_Mod_parts_2 15 rfl)) rfl (v := 0) (by decide) ?_
  refine EJ_lcmp_ne 87 84 (dk_148 (bt bc_Mod_parts_2 16 rfl)) (dk_154 (bt bc_Mod_parts_2 17 rfl) (bt bc_Mod_parts_2 18 rfl) (bt bc_Mod_parts_2 19 rfl) (n := 6) rfl) (by decide) rfl (fun _ => ?_) (fun _ => ?_)
  · refine EJ_lload 89 6 (dk_22 (bt bc_Mod_parts_2 23 rfl) (bt bc_Mod_parts_2 24 rfl)) rfl rfl ?_
    refine EJ_lload 91 4 (dk_22 (bt bc_Mod_parts_2 25 rfl) (bt bc_Mod_parts_2 26 rfl)) rfl rfl ?_
    refine EJ_ladd 92 (dk_97 (bt bc_Mod_parts_2 27 rfl)) rfl ?_
    refine EJ_lstore 94 (lv2 := [(10, .long _), (0, .ref _), (1, .int _), (2, .long _), (4, .long _), (6, .long _), (8, .long _), (12, .int _)]) (dk_55 (bt bc_Mod_parts_2 28 rfl) (bt bc_Mod_parts_2 29 rfl)) rfl (by decide) rfl ?_
    refine EJ_lload 96 0 (dk_22 (bt bc_Mod_parts_2 30 rfl) (bt bc_Mod_parts_2 31 rfl)) rfl rfl ?_
    refine EJ_lload 98 4 (dk_22 (bt bc_Mod_parts_3 0 rfl) (bt bc_Mod_parts_3 1 rfl)) rfl rfl ?_
    refine EJ_lcmp_lt 115 102 (dk_148 (bt bc_Mod_parts_3 2 rfl)) (dk_155 (bt bc_Mod_parts_3 3 rfl) (bt bc_Mod_parts_3 4 rfl) (bt bc_Mod_parts_3 5 rfl) (n := 16) rfl) (by decide) rfl (fun _ => ?_) (fun _ => ?_)
    · exact EJ_pick (lv2 := [(0, .ref _), (1, .int _), (2, .long _), (4, .long _), (6, .long _), (8, .long _), (10, .long _), (12, .int _)]) [1, 2, 3, 4, 5, 6, 0, 7] rfl (e_Mod_parts_J115 k33 hk33 _ _ _ _ _ _ _ _ _)
    · refine EJ_lload 104 0 (dk_22 (bt bc_Mod_parts_3 6 rfl) (bt bc_Mod_parts_3 7 rfl)) rfl rfl ?_
      refine EJ_lload 106 4 (dk_22 (bt bc_Mod_parts_3 8 rfl) (bt bc_Mod_parts_3 9 rfl)) rfl rfl ?_
      refine EJ_lsub 107 (dk_101 (bt bc_Mod_parts_3 10 rfl)) rfl ?_
      refine EJ_lstore 109 (lv2 := [(10, .long _), (0, .ref _), (1, .int _), (2, .long _), (4, .long _), (6, .long _), (8, .long _), (12, .int _)]) (dk_55 (bt bc_Mod_parts_3 11 rfl) (bt bc_Mod_parts_3 12 rfl)) rfl (by decide) rfl ?_
      refine EJ_lload 111 6 (dk_22 (bt bc_Mod_parts_3 13 rfl) (bt bc_Mod_parts_3 14 rfl)) rfl rfl ?_
      refine EJ_lconst 112 (dk_10 (bt bc_Mod_parts_3 15 rfl)) rfl (v := 1) (by decide) ?_
      refine EJ_ladd 113 (dk_97 (bt bc_Mod_parts_3 16 rfl)) rfl ?_
      refine EJ_lstore 115 (lv2 := [(8, .long _), (10, .long _), (0, .ref _), (1, .int _), (2, .long _), (4, .long _), (6, .long _), (12, .int _)]) (dk_55 (bt bc_Mod_parts_3 17 rfl) (bt bc_Mod_parts_3 18 rfl)) rfl (by decide) rfl ?_
      exact EJ_pick (lv2 := [(0, .ref _), (1, .int _), (2, .long _), (4, .long _), (6, .long _), (8, .long _), (10, .long _), (12, .int _)]) [2, 3, 4, 5, 6, 0, 1, 7] rfl (e_Mod_parts_J115 k33 hk33 _ _ _ _ _ _ _ _ _)
  · refine EJ_goto 115 (dk_167 (bt bc_Mod_parts_2 20 rfl) (bt bc_Mod_parts_2 21 rfl) (bt bc_Mod_parts_2 22 rfl) (n := 31) rfl) (by decide) ?_
    exact EJ_pick (lv2 := [(0, .ref _), (1, .int _), (2, .long _), (4, .long _), (6, .long _), (8, .long _), (10, .long _), (12, .int _)]) [0, 1, 2, 3, 4, 5, 6, 7] rfl (e_Mod_parts_J115 k33 hk33 _ _ _ _ _ _ _ _ _)
def Mod_parts_B33 (k33 : Nat → Int32 → Int64 → Int64 → Int64 → Int64 → Int64 → Int32 → Mm → Option (Unit × Mm)) (x0 : Nat) (x1 : Int32) (x2 : Int64) (x4 : Int64) (x6 : Int64) (x8 : Int64) (x10 : Int64) (x12 : Int32) (M : Mm) : Option (Unit × Mm) :=
  if x12 < 0 then (
    ck (kO M x0 12 107) (
    nn (mR M x0 101) (fun b5 =>
    ck (kA M b5 23 x1) (
    let M7 := sL M b5 (ix x1) x8
    nn (mR M7 x0 102) (fun b8 =>
    if x6 = 0 then (
      ck (kA M7 b8 23 x1) (
      let M12 := sL M7 b8 (ix x1) (-1)
      some ((), M12)))
    else (
      ck (kA M7 b8 23 x1) (
      let M10 := sL M7 b8 (ix x1) x10
      some ((), M10))))))))
  else (
    let v13 : Int64 := x8 + x8
    let v14 : Int64 := x10 + x10
    if v14 < x4 then (
      Mod_parts_J73 k33 x0 x1 x2 x4 x6 v13 v14 x12 M)
    else (
      let v19 : Int64 := v14 - x4
      let v20 : Int64 := v13 + 1
      Mod_parts_J73 k33 x0 x1 x2 x4 x6 v20 v19 x12 M))
set_option maxRecDepth 100000 in
set_option maxHeartbeats 4000000 in
theorem e_Mod_parts_B33 {G : Gx} (k33 : Nat → Int32 → Int64 → Int64 → Int64 → Int64 → Int64 → Int32 → Mm → Option (Unit × Mm)) (hk33 : ∀ (x0 : Nat) (x1 : Int32) (x2 : Int64) (x4 : Int64) (x6 : Int64) (x8 : Int64) (x10 : Int64) (x12 : Int32) (M : Mm), EJ G Y_Mod_parts cvV 1 33 [(0, .ref x0), (1, .int x1), (2, .long x2), (4, .long x4), (6, .long x6), (8, .long x8), (10, .long x10), (12, .int x12)] [] M (k33 x0 x1 x2 x4 x6 x8 x10 x12 M)) (x0 : Nat) (x1 : Int32) (x2 : Int64) (x4 : Int64) (x6 : Int64) (x8 : Int64) (x10 : Int64) (x12 : Int32) (M : Mm) : EJ G Y_Mod_parts cvV 1 33 [(0, .ref x0), (1, .int x1), (2, .long x2), (4, .long x4), (6, .long x6), (8, .long x8), (10, .long x10), (12, .int x12)] [] M (Mod_parts_B33 k33 x0 x1 x2 x4 x6 x8 x10 x12 M) := by
  unfold Mod_parts_B33
  refine EJ_iload 35 7 (dk_21 (bt bc_Mod_parts_1 1 rfl) (bt bc_Mod_parts_1 2 rfl)) rfl rfl ?_
  refine EJ_if_lt 121 38 (dk_155 (bt bc_Mod_parts_1 3 rfl) (bt bc_Mod_parts_1 4 rfl) (bt bc_Mod_parts_1 5 rfl) (n := 86) rfl) (by decide) rfl (fun _ => ?_) (fun _ => ?_)
  · refine EJ_aload_n 122 0 (dk_42 (bt bc_Mod_parts_3 25 rfl)) rfl rfl ?_
    refine EJ_ck (fun h4 => ?_)
    refine EJ_getR cf12 101 (by decide) 125 tw_1299 (fun _ _ _ => rfl) (dk_180 (bt bc_Mod_parts_3 26 rfl) (bt bc_Mod_parts_3 27 rfl) (bt bc_Mod_parts_3 28 rfl) (n := 230) rfl) rfl (of_decide_eq_true h4) (fun b5 => ?_)
    refine EJ_iload_n 126 1 (dk_27 (bt bc_Mod_parts_3 29 rfl)) rfl rfl ?_
    refine EJ_lload 128 5 (dk_22 (bt bc_Mod_parts_3 30 rfl) (bt bc_Mod_parts_3 31 rfl)) rfl rfl ?_
    refine EJ_ck (fun h6 => ?_)
    refine EJ_last 129 h6 (dk_80 (bt bc_Mod_parts_4 0 rfl)) rfl ?_
    refine EJ_aload_n 130 0 (dk_42 (bt bc_Mod_parts_4 1 rfl)) rfl rfl ?_
    refine EJ_getR cf12 102 (by decide) 133 tw_1300 (fun _ _ _ => rfl) (dk_180 (bt bc_Mod_parts_4 2 rfl) (bt bc_Mod_parts_4 3 rfl) (bt bc_Mod_parts_4 4 rfl) (n := 233) rfl) rfl (kp_L (of_decide_eq_true h4)) (fun b8 => ?_)
    refine EJ_iload_n 134 1 (dk_27 (bt bc_Mod_parts_4 5 rfl)) rfl rfl ?_
    refine EJ_lload 136 4 (dk_22 (bt bc_Mod_parts_4 6 rfl) (bt bc_Mod_parts_4 7 rfl)) rfl rfl ?_
    refine EJ_lconst 137 (dk_9 (bt bc_Mod_parts_4 8 rfl)) rfl (v := 0) (by decide) ?_
    refine EJ_lcmp_ne 147 141 (dk_148 (bt bc_Mod_parts_4 9 rfl)) (dk_154 (bt bc_Mod_parts_4 10 rfl) (bt bc_Mod_parts_4 11 rfl) (bt bc_Mod_parts_4 12 rfl) (n := 9) rfl) (by decide) rfl (fun _ => ?_) (fun _ => ?_)
    · refine EJ_lload 149 6 (dk_22 (bt bc_Mod_parts_4 19 rfl) (bt bc_Mod_parts_4 20 rfl)) rfl rfl ?_
      refine EJ_ck (fun h9 => ?_)
      refine EJ_last 150 h9 (dk_80 (bt bc_Mod_parts_4 21 rfl)) rfl ?_
      exact EJ_vret rfl (dk_177 (bt bc_Mod_parts_4 22 rfl))
    · refine EJ_ldc2 144 (dk_20 (bt bc_Mod_parts_4 13 rfl) (bt bc_Mod_parts_4 14 rfl) (bt bc_Mod_parts_4 15 rfl) (n := 355) rfl) rfl tw_1690 ?_
      refine EJ_goto 149 (dk_167 (bt bc_Mod_parts_4 16 rfl) (bt bc_Mod_parts_4 17 rfl) (bt bc_Mod_parts_4 18 rfl) (n := 5) rfl) (by decide) ?_
      refine EJ_ck (fun h11 => ?_)
      refine EJ_last 150 h11 (dk_80 (bt bc_Mod_parts_4 21 rfl)) rfl ?_
      exact EJ_vret rfl (dk_177 (bt bc_Mod_parts_4 22 rfl))
  · refine EJ_lload 40 5 (dk_22 (bt bc_Mod_parts_1 6 rfl) (bt bc_Mod_parts_1 7 rfl)) rfl rfl ?_
    refine EJ_lload 42 5 (dk_22 (bt bc_Mod_parts_1 8 rfl) (bt bc_Mod_parts_1 9 rfl)) rfl rfl ?_
    refine EJ_ladd 43 (dk_97 (bt bc_Mod_parts_1 10 rfl)) rfl ?_
    refine EJ_lstore 45 (lv2 := [(8, .long _), (0, .ref _), (1, .int _), (2, .long _), (4, .long _), (6, .long _), (10, .long _), (12, .int _)]) (dk_55 (bt bc_Mod_parts_1 11 rfl) (bt bc_Mod_parts_1 12 rfl)) rfl (by decide) rfl ?_
    refine EJ_lload 47 6 (dk_22 (bt bc_Mod_parts_1 13 rfl) (bt bc_Mod_parts_1 14 rfl)) rfl rfl ?_
    refine EJ_lload 49 6 (dk_22 (bt bc_Mod_parts_1 15 rfl) (bt bc_Mod_parts_1 16 rfl)) rfl rfl ?_
    refine EJ_ladd 50 (dk_97 (bt bc_Mod_parts_1 17 rfl)) rfl ?_
    refine EJ_lstore 52 (lv2 := [(10, .long _), (8, .long _), (0, .ref _), (1, .int _), (2, .long _), (4, .long _), (6, .long _), (12, .int _)]) (dk_55 (bt bc_Mod_parts_1 18 rfl) (bt bc_Mod_parts_1 19 rfl)) rfl (by decide) rfl ?_
    refine EJ_lload 54 0 (dk_22 (bt bc_Mod_parts_1 20 rfl) (bt bc_Mod_parts_1 21 rfl)) rfl rfl ?_
    refine EJ_lload 56 5 (dk_22 (bt bc_Mod_parts_1 22 rfl) (bt bc_Mod_parts_1 23 rfl)) rfl rfl ?_
    refine EJ_lcmp_lt 73 60 (dk_148 (bt bc_Mod_parts_1 24 rfl)) (dk_155 (bt bc_Mod_parts_1 25 rfl) (bt bc_Mod_parts_1 26 rfl) (bt bc_Mod_parts_1 27 rfl) (n := 16) rfl) (by decide) rfl (fun _ => ?_) (fun _ => ?_)
    · exact EJ_pick (lv2 := [(0, .ref _), (1, .int _), (2, .long _), (4, .long _), (6, .long _), (8, .long _), (10, .long _), (12, .int _)]) [2, 3, 4, 5, 6, 1, 0, 7] rfl (e_Mod_parts_J73 k33 hk33 _ _ _ _ _ _ _ _ _)
    · refine EJ_lload 62 0 (dk_22 (bt bc_Mod_parts_1 28 rfl) (bt bc_Mod_parts_1 29 rfl)) rfl rfl ?_
      refine EJ_lload 64 5 (dk_22 (bt bc_Mod_parts_1 30 rfl) (bt bc_Mod_parts_1 31 rfl)) rfl rfl ?_
      refine EJ_lsub 65 (dk_101 (bt bc_Mod_parts_2 0 rfl)) rfl ?_
      refine EJ_lstore 67 (lv2 := [(10, .long _), (8, .long _), (0, .ref _), (1, .int _), (2, .long _), (4, .long _), (6, .long _), (12, .int _)]) (dk_55 (bt bc_Mod_parts_2 1 rfl) (bt bc_Mod_parts_2 2 rfl)) rfl (by decide) rfl ?_
      refine EJ_lload 69 1 (dk_22 (bt bc_Mod_parts_2 3 rfl) (bt bc_Mod_parts_2 4 rfl)) rfl rfl ?_
      refine EJ_lconst 70 (dk_10 (bt bc_Mod_parts_2 5 rfl)) rfl (v := 1) (by decide) ?_
      refine EJ_ladd 71 (dk_97 (bt bc_Mod_parts_2 6 rfl)) rfl ?_
      refine EJ_lstore 73 (lv2 := [(8, .long _), (10, .long _), (0, .ref _), (1, .int _), (2, .long _), (4, .long _), (6, .long _), (12, .int _)]) (dk_55 (bt bc_Mod_parts_2 7 rfl) (bt bc_Mod_parts_2 8 rfl)) rfl (by decide) rfl ?_
      exact EJ_pick (lv2 := [(0, .ref _), (1, .int _), (2, .long _), (4, .long _), (6, .long _), (8, .long _), (10, .long _), (12, .int _)]) [2, 3, 4, 5, 6, 0, 1, 7] rfl (e_Mod_parts_J73 k33 hk33 _ _ _ _ _ _ _ _ _)
def Mod_parts_L33 (n : Nat) : Nat → Int32 → Int64 → Int64 → Int64 → Int64 → Int64 → Int32 → Mm → Option (Unit × Mm) :=
  match n with
  | 0 => fun _ _ _ _ _ _ _ _ _ => none
  | n + 1 => Mod_parts_B33 (Mod_parts_L33 n)
theorem e_Mod_parts_L33 {G : Gx} : ∀ (n : Nat) (x0 : Nat) (x1 : Int32) (x2 : Int64) (x4 : Int64) (x6 : Int64) (x8 : Int64) (x10 : Int64) (x12 : Int32) (M : Mm), EJ G Y_Mod_parts cvV 1 33 [(0, .ref x0), (1, .int x1), (2, .long x2), (4, .long x4), (6, .long x6), (8, .long x8), (10, .long x10), (12, .int x12)] [] M (Mod_parts_L33 n x0 x1 x2 x4 x6 x8 x10 x12 M) := by
  intro n
  induction n with
  | zero => intros; exact EJ_none
  | succ n ih => intro x0 x1 x2 x4 x6 x8 x10 x12 M; exact e_Mod_parts_B33 _ ih x0 x1 x2 x4 x6 x8 x10 x12 M
def Mod_parts_J21 (x0 : Nat) (x1 : Int32) (x2 : Int64) (x4 : Int64) (s0 : Int64) (M : Mm) : Option (Unit × Mm) :=
  Mod_parts_L33 fu x0 x1 x2 x4 s0 0 0 62 M
set_option maxRecDepth 100000 in
set_option maxHeartbeats 4000000 in
theorem e_Mod_parts_J21 {G : Gx} (x0 : Nat) (x1 : Int32) (x2 : Int64) (x4 : Int64) (s0 : Int64) (M : Mm) : EJ G Y_Mod_parts cvV 1 21 [(0, .ref x0), (1, .int x1), (2, .long x2), (4, .long x4)] [.long s0] M (Mod_parts_J21 x0 x1 x2 x4 s0 M) := by
  unfold Mod_parts_J21
  refine EJ_lstore 23 (lv2 := [(6, .long _), (0, .ref _), (1, .int _), (2, .long _), (4, .long _)]) (dk_55 (bt bc_Mod_parts_0 21 rfl) (bt bc_Mod_parts_0 22 rfl)) rfl (by decide) rfl ?_
  refine EJ_lconst 24 (dk_9 (bt bc_Mod_parts_0 23 rfl)) rfl (v := 0) (by decide) ?_
  refine EJ_lstore 26 (lv2 := [(8, .long _), (6, .long _), (0, .ref _), (1, .int _), (2, .long _), (4, .long _)]) (dk_55 (bt bc_Mod_parts_0 24 rfl) (bt bc_Mod_parts_0 25 rfl)) rfl (by decide) rfl ?_
  refine EJ_lconst 27 (dk_9 (bt bc_Mod_parts_0 26 rfl)) rfl (v := 0) (by decide) ?_
  refine EJ_lstore 29 (lv2 := [(10, .long _), (8, .long _), (6, .long _), (0, .ref _), (1, .int _), (2, .long _), (4, .long _)]) (dk_55 (bt bc_Mod_parts_0 27 rfl) (bt bc_Mod_parts_0 28 rfl)) rfl (by decide) rfl ?_
  refine EJ_bipush 31 (dk_16 (bt bc_Mod_parts_0 29 rfl) (bt bc_Mod_parts_0 30 rfl) (n := 62) rfl) rfl (v := 62) kB_62 ?_
  refine EJ_istore 33 (lv2 := [(12, .int _), (10, .long _), (8, .long _), (6, .long _), (0, .ref _), (1, .int _), (2, .long _), (4, .long _)]) (dk_54 (bt bc_Mod_parts_0 31 rfl) (bt bc_Mod_parts_1 0 rfl)) rfl (by decide) rfl ?_
  exact EJ_pick (lv2 := [(0, .ref _), (1, .int _), (2, .long _), (4, .long _), (6, .long _), (8, .long _), (10, .long _), (12, .int _)]) [4, 5, 6, 7, 3, 2, 1, 0] rfl (e_Mod_parts_L33 fu _ _ _ _ _ _ _ _ _)
def Mod_parts (M : Mm) (a0 : Nat) (a1 : Int32) (a2 : Int64) (a3 : Int64) : Option (Unit × Mm) :=
  ck (kO M a0 12 107) (
  nn (mR M a0 16) (fun b2 =>
  ck (kA M b2 23 a1) (
  if (mL M b2 (ix a1)) ≤ 0 then (
    Mod_parts_J21 a0 a1 a2 a3 0 M)
  else (
    nn (mR M a0 16) (fun b21 =>
    ck (kA M b21 23 a1) (
    Mod_parts_J21 a0 a1 a2 a3 (mL M b21 (ix a1)) M))))))
set_option maxRecDepth 100000 in
set_option maxHeartbeats 4000000 in
theorem s_Mod_parts (G : Gx) (M : Mm) (a0 : Nat) (a1 : Int32) (a2 : Int64) (a3 : Int64) : FnS G Y_Mod_parts cvV 1 [.ref a0, .int a1, .long a2, .long a3] M (Mod_parts M a0 a1 a2 a3) := by
  refine FnS.ofE (by decide) (Nat.le_of_ble_eq_true rfl) ?_
  show EJ G Y_Mod_parts cvV 1 0 [(0, .ref a0), (1, .int a1), (2, .long a2), (4, .long a3)] [] M _
  unfold Mod_parts
  refine EJ_aload_n 1 0 (dk_42 (bt bc_Mod_parts_0 0 rfl)) rfl rfl ?_
  refine EJ_ck (fun h1 => ?_)
  refine EJ_getR cf12 16 (by decide) 4 tw_1214 (fun _ _ _ => rfl) (dk_180 (bt bc_Mod_parts_0 1 rfl) (bt bc_Mod_parts_0 2 rfl) (bt bc_Mod_parts_0 3 rfl) (n := 51) rfl) rfl (of_decide_eq_true h1) (fun b2 => ?_)
  refine EJ_iload_n 5 1 (dk_27 (bt bc_Mod_parts_0 4 rfl)) rfl rfl ?_
  refine EJ_ck (fun h3 => ?_)
  refine EJ_lald 6 h3 (dk_47 (bt bc_Mod_parts_0 5 rfl)) rfl ?_
  refine EJ_lconst 7 (dk_9 (bt bc_Mod_parts_0 6 rfl)) rfl (v := 0) (by decide) ?_
  refine EJ_lcmp_le 20 11 (dk_148 (bt bc_Mod_parts_0 7 rfl)) (dk_158 (bt bc_Mod_parts_0 8 rfl) (bt bc_Mod_parts_0 9 rfl) (bt bc_Mod_parts_0 10 rfl) (n := 12) rfl) (by decide) rfl (fun _ => ?_) (fun _ => ?_)
  · refine EJ_lconst 21 (dk_9 (bt bc_Mod_parts_0 20 rfl)) rfl (v := 0) (by decide) ?_
    exact EJ_pick (lv2 := [(0, .ref _), (1, .int _), (2, .long _), (4, .long _)]) [0, 1, 2, 3] rfl (e_Mod_parts_J21 _ _ _ _ _ _)
  · refine EJ_aload_n 12 0 (dk_42 (bt bc_Mod_parts_0 11 rfl)) rfl rfl ?_
    refine EJ_getR cf12 16 (by decide) 15 tw_1214 (fun _ _ _ => rfl) (dk_180 (bt bc_Mod_parts_0 12 rfl) (bt bc_Mod_parts_0 13 rfl) (bt bc_Mod_parts_0 14 rfl) (n := 51) rfl) rfl (of_decide_eq_true h1) (fun b21 => ?_)
    refine EJ_iload_n 16 1 (dk_27 (bt bc_Mod_parts_0 15 rfl)) rfl rfl ?_
    refine EJ_ck (fun h22 => ?_)
    refine EJ_lald 17 h22 (dk_47 (bt bc_Mod_parts_0 16 rfl)) rfl ?_
    refine EJ_goto 21 (dk_167 (bt bc_Mod_parts_0 17 rfl) (bt bc_Mod_parts_0 18 rfl) (bt bc_Mod_parts_0 19 rfl) (n := 4) rfl) (by decide) ?_
    exact EJ_pick (lv2 := [(0, .ref _), (1, .int _), (2, .long _), (4, .long _)]) [0, 1, 2, 3] rfl (e_Mod_parts_J21 _ _ _ _ _ _)
abbrev Y_Mod_bears : Ym := (⟨"RiceHallModel", "bears", "()V"⟩, prog_14_method_74_code, 9, none)
theorem bc_Mod_bears_0 : bts prog_14_method_74_code 0 [9, 64, 3, 62, 29, 42, 180, 1, 13, 162, 0, 29, 42, 180, 0, 51, 29, 47, 9, 148, 158, 0, 12, 31, 42, 180, 0, 51, 29, 47, 97, 64] := bts_of (by decide +kernel)
theorem bc_Mod_bears_1 : bts prog_14_method_74_code 32 [132, 3, 1, 167, 255, 225, 42, 180, 1, 71, 117, 31, 148, 156, 0, 11, 42, 180, 1, 71, 117, 167, 0, 4, 31, 66, 33, 9, 148, 154, 0, 4] := bts_of (by decide +kernel)
theorem bc_Mod_bears_2 : bts prog_14_method_74_code 64 [177, 33, 55, 5, 3, 54, 7, 21, 7, 42, 180, 1, 13, 162, 0, 29, 42, 21, 7, 33, 31, 182, 2, 28, 22, 5, 42, 180, 0, 230, 21, 7] := bts_of (by decide +kernel)
theorem bc_Mod_bears_3 : bts prog_14_method_74_code 96 [47, 101, 55, 5, 132, 7, 1, 167, 255, 224, 22, 5, 9, 148, 158, 0, 76, 3, 54, 7, 4, 54, 8, 21, 8, 42, 180, 1, 13, 162, 0, 31] := bts_of (by decide +kernel)
theorem bc_Mod_bears_4 : bts prog_14_method_74_code 128 [42, 180, 0, 233, 21, 8, 47, 42, 180, 0, 233, 21, 7, 47, 148, 158, 0, 7, 21, 8, 54, 7, 132, 8, 1, 167, 255, 222, 42, 180, 0, 230] := bts_of (by decide +kernel)
theorem bc_Mod_bears_5 : bts prog_14_method_74_code 160 [21, 7, 92, 47, 10, 97, 80, 42, 180, 0, 233, 21, 7, 20, 1, 99, 80, 22, 5, 10, 101, 55, 5, 167, 255, 179, 3, 54, 7, 21, 7, 42] := bts_of (by decide +kernel)
theorem bc_Mod_bears_6 : bts prog_14_method_74_code 192 [180, 1, 13, 162, 0, 26, 42, 180, 0, 51, 21, 7, 92, 47, 42, 180, 0, 230, 21, 7, 47, 101, 80, 132, 7, 1, 167, 255, 227, 42, 89, 180] := bts_of (by decide +kernel)
theorem bc_Mod_bears_7 : bts prog_14_method_74_code 224 [1, 71, 33, 97, 181, 1, 71, 177] := bts_of (by decide +kernel)
theorem hd_Mod_bears : Y_Mod_bears.1.cls = RX12 ∧ Y_Mod_bears.1.cls ≠ "java/lang/invoke/MethodHandle" ∧ Y_Mod_bears.1.cls ≠ "java/lang/invoke/VarHandle" ∧ (parseMethodDescriptor Y_Mod_bears.1.desc).map (fun d => d.parameters.length) = some 0 := by decide +kernel
def Mod_bears_B189 (k189 : Nat → Int64 → Int32 → Mm → Option (Unit × Mm)) (x0 : Nat) (x3 : Int64) (x7 : Int32) (M : Mm) : Option (Unit × Mm) :=
  ck (kO M x0 12 107) (
  if (mI M x0 9) ≤ x7 then (
    let M4 := sL M x0 18 ((mL M x0 18) + x3)
    some ((), M4))
  else (
    nn (mR M x0 16) (fun b5 =>
    ck (kA M b5 23 x7) (
    nn (mR M x0 101) (fun b7 =>
    ck (kA M b7 23 x7) (
    let M9 := sL M b5 (ix x7) ((mL M b5 (ix x7)) - (mL M b7 (ix x7)))
    let v10 : Int32 := x7 + 1
    k189 x0 x3 v10 M9))))))
set_option maxRecDepth 100000 in
set_option maxHeartbeats 4000000 in
theorem e_Mod_bears_B189 {G : Gx} (k189 : Nat → Int64 → Int32 → Mm → Option (Unit × Mm)) (hk189 : ∀ (x0 : Nat) (x3 : Int64) (x7 : Int32) (M : Mm), EJ G Y_Mod_bears cvV 2 189 [(0, .ref x0), (3, .long x3), (7, .int x7)] [] M (k189 x0 x3 x7 M)) (x0 : Nat) (x3 : Int64) (x7 : Int32) (M : Mm) : EJ G Y_Mod_bears cvV 2 189 [(0, .ref x0), (3, .long x3), (7, .int x7)] [] M (Mod_bears_B189 k189 x0 x3 x7 M) := by
  unfold Mod_bears_B189
  refine EJ_iload 191 2 (dk_21 (bt bc_Mod_bears_5 29 rfl) (bt bc_Mod_bears_5 30 rfl)) rfl rfl ?_
  refine EJ_aload_n 192 0 (dk_42 (bt bc_Mod_bears_5 31 rfl)) rfl rfl ?_
  refine EJ_ck (fun h3 => ?_)
  refine EJ_getI cf12 9 (by decide) 195 tw_1207 (fun _ _ _ => rfl) (dk_180 (bt bc_Mod_bears_6 0 rfl) (bt bc_Mod_bears_6 1 rfl) (bt bc_Mod_bears_6 2 rfl) (n := 269) rfl) rfl (of_decide_eq_true h3) ?_
  refine EJ_icmp_ge 221 198 (dk_162 (bt bc_Mod_bears_6 3 rfl) (bt bc_Mod_bears_6 4 rfl) (bt bc_Mod_bears_6 5 rfl) (n := 26) rfl) (by decide) rfl (fun _ => ?_) (fun _ => ?_)
  · refine EJ_aload_n 222 0 (dk_42 (bt bc_Mod_bears_6 29 rfl)) rfl rfl ?_
    refine EJ_dup 223 (dk_89 (bt bc_Mod_bears_6 30 rfl)) rfl rfl ?_
    refine EJ_getL cf12 18 (by decide) 226 tw_1216 (fun _ _ _ => rfl) (dk_180 (bt bc_Mod_bears_6 31 rfl) (bt bc_Mod_bears_7 0 rfl) (bt bc_Mod_bears_7 1 rfl) (n := 327) rfl) rfl (of_decide_eq_true h3) ?_
    refine EJ_lload_n 227 1 (dk_33 (bt bc_Mod_bears_7 2 rfl)) rfl rfl ?_
    refine EJ_ladd 228 (dk_97 (bt bc_Mod_bears_7 3 rfl)) rfl ?_
    refine EJ_putL cf12 18 (by decide) 231 tw_1216 rfl (Or.inl rfl) (dk_181 (bt bc_Mod_bears_7 4 rfl) (bt bc_Mod_bears_7 5 rfl) (bt bc_Mod_bears_7 6 rfl) (n := 327) rfl) rfl (of_decide_eq_true h3) ?_
    exact EJ_vret rfl (dk_177 (bt bc_Mod_bears_7 7 rfl))
  · refine EJ_aload_n 199 0 (dk_42 (bt bc_Mod_bears_6 6 rfl)) rfl rfl ?_
    refine EJ_getR cf12 16 (by decide) 202 tw_1214 (fun _ _ _ => rfl) (dk_180 (bt bc_Mod_bears_6 7 rfl) (bt bc_Mod_bears_6 8 rfl) (bt bc_Mod_bears_6 9 rfl) (n := 51) rfl) rfl (of_decide_eq_true h3) (fun b5 => ?_)
    refine EJ_iload 204 2 (dk_21 (bt bc_Mod_bears_6 10 rfl) (bt bc_Mod_bears_6 11 rfl)) rfl rfl ?_
    refine EJ_dup2 205 (dk_92 (bt bc_Mod_bears_6 12 rfl)) rfl rfl rfl ?_
    refine EJ_ck (fun h6 => ?_)
    refine EJ_lald 206 h6 (dk_47 (bt bc_Mod_bears_6 13 rfl)) rfl ?_
    refine EJ_aload_n 207 0 (dk_42 (bt bc_Mod_bears_6 14 rfl)) rfl rfl ?_
    refine EJ_getR cf12 101 (by decide) 210 tw_1299 (fun _ _ _ => rfl) (dk_180 (bt bc_Mod_bears_6 15 rfl) (bt bc_Mod_bears_6 16 rfl) (bt bc_Mod_bears_6 17 rfl) (n := 230) rfl) rfl (of_decide_eq_true h3) (fun b7 => ?_)
    refine EJ_iload 212 2 (dk_21 (bt bc_Mod_bears_6 18 rfl) (bt bc_Mod_bears_6 19 rfl)) rfl rfl ?_
    refine EJ_ck (fun h8 => ?_)
    refine EJ_lald 213 h8 (dk_47 (bt bc_Mod_bears_6 20 rfl)) rfl ?_
    refine EJ_lsub 214 (dk_101 (bt bc_Mod_bears_6 21 rfl)) rfl ?_
    refine EJ_last 215 h6 (dk_80 (bt bc_Mod_bears_6 22 rfl)) rfl ?_
    refine EJ_iinc 218 2 (lv2 := [(7, .int _), (0, .ref _), (3, .long _)]) (dk_132 (bt bc_Mod_bears_6 23 rfl) (bt bc_Mod_bears_6 24 rfl) (bt bc_Mod_bears_6 25 rfl) (n := 1) rfl) rfl (by decide) rfl (v := 1) kI_1 rfl ?_
    refine EJ_goto 189 (dk_167 (bt bc_Mod_bears_6 26 rfl) (bt bc_Mod_bears_6 27 rfl) (bt bc_Mod_bears_6 28 rfl) (n := -29) rfl) (by decide) ?_
    exact EJ_pick (lv2 := [(0, .ref _), (3, .long _), (7, .int _)]) [1, 2, 0] rfl (hk189 _ _ _ _)
def Mod_bears_L189 (n : Nat) : Nat → Int64 → Int32 → Mm → Option (Unit × Mm) :=
  match n with
  | 0 => fun _ _ _ _ => none
  | n + 1 => Mod_bears_B189 (Mod_bears_L189 n)
theorem e_Mod_bears_L189 {G : Gx} : ∀ (n : Nat) (x0 : Nat) (x3 : Int64) (x7 : Int32) (M : Mm), EJ G Y_Mod_bears cvV 2 189 [(0, .ref x0), (3, .long x3), (7, .int x7)] [] M (Mod_bears_L189 n x0 x3 x7 M) := by
  intro n
  induction n with
  | zero => intros; exact EJ_none
  | succ n ih => intro x0 x3 x7 M; exact e_Mod_bears_B189 _ ih x0 x3 x7 M
def Mod_bears_J150 (k106 : Nat → Int64 → Int64 → Mm → Option (Unit × Mm)) (k119 : Nat → Int64 → Int64 → Int32 → Int32 → Mm → Option (Unit × Mm)) (x0 : Nat) (x3 : Int64) (x5 : Int64) (x7 : Int32) (x8 : Int32) (M : Mm) : Option (Unit × Mm) :=
  let v23 : Int32 := x8 + 1
  k119 x0 x3 x5 x7 v23 M
set_option maxRecDepth 100000 in
set_option maxHeartbeats 4000000 in
theorem e_Mod_bears_J150 {G : Gx} (k106 : Nat → Int64 → Int64 → Mm → Option (Unit × Mm)) (k119 : Nat → Int64 → Int64 → Int32 → Int32 → Mm → Option (Unit × Mm)) (hk106 : ∀ (x0 : Nat) (x3 : Int64) (x5 : Int64) (M : Mm), EJ G Y_Mod_bears cvV 2 106 [(0, .ref x0), (3, .long x3), (5, .long x5)] [] M (k106 x0 x3 x5 M)) (hk119 : ∀ (x0 : Nat) (x3 : Int64) (x5 : Int64) (x7 : Int32) (x8 : Int32) (M : Mm), EJ G Y_Mod_bears cvV 2 119 [(0, .ref x0), (3, .long x3), (5, .long x5), (7, .int x7), (8, .int x8)] [] M (k119 x0 x3 x5 x7 x8 M)) (x0 : Nat) (x3 : Int64) (x5 : Int64) (x7 : Int32) (x8 : Int32) (M : Mm) : EJ G Y_Mod_bears cvV 2 150 [(0, .ref x0), (3, .long x3), (5, .long x5), (7, .int x7), (8, .int x8)] [] M (Mod_bears_J150 k106 k119 x0 x3 x5 x7 x8 M) := by
  unfold Mod_bears_J150
  refine EJ_iinc 153 4 (lv2 := [(8, .int _), (0, .ref _), (3, .long _), (5, .long _), (7, .int _)]) (dk_132 (bt bc_Mod_bears_4 22 rfl) (bt bc_Mod_bears_4 23 rfl) (bt bc_Mod_bears_4 24 rfl) (n := 1) rfl) rfl (by decide) rfl (v := 1) kI_1 rfl ?_
  refine EJ_goto 119 (dk_167 (bt bc_Mod_bears_4 25 rfl) (bt bc_Mod_bears_4 26 rfl) (bt bc_Mod_bears_4 27 rfl) (n := -34) rfl) (by decide) ?_
  exact EJ_pick (lv2 := [(0, .ref _), (3, .long _), (5, .long _), (7, .int _), (8, .int _)]) [1, 2, 3, 4, 0] rfl (hk119 _ _ _ _ _ _)
def Mod_bears_B119 (k106 : Nat → Int64 → Int64 → Mm → Option (Unit × Mm)) (k119 : Nat → Int64 → Int64 → Int32 → Int32 → Mm → Option (Unit × Mm)) (x0 : Nat) (x3 : Int64) (x5 : Int64) (x7 : Int32) (x8 : Int32) (M : Mm) : Option (Unit × Mm) :=
  ck (kO M x0 12 107) (
  if (mI M x0 9) ≤ x8 then (
    nn (mR M x0 101) (fun b12 =>
    ck (kA M b12 23 x7) (
    let M14 := sL M b12 (ix x7) ((mL M b12 (ix x7)) + 1)
    nn (mR M14 x0 102) (fun b15 =>
    ck (kA M14 b15 23 x7) (
    let M17 := sL M14 b15 (ix x7) (-1)
    let v18 : Int64 := x5 - 1
    k106 x0 x3 v18 M17)))))
  else (
    nn (mR M x0 102) (fun b19 =>
    ck (kA M b19 23 x8) (
    nn (mR M x0 102) (fun b21 =>
    ck (kA M b21 23 x7) (
    if (mL M b19 (ix x8)) ≤ (mL M b21 (ix x7)) then (
      Mod_bears_J150 k106 k119 x0 x3 x5 x7 x8 M)
    else (
      Mod_bears_J150 k106 k119 x0 x3 x5 x8 x8 M)))))))
set_option maxRecDepth 100000 in
set_option maxHeartbeats 4000000 in
theorem e_Mod_bears_B119 {G : Gx} (k106 : Nat → Int64 → Int64 → Mm → Option (Unit × Mm)) (k119 : Nat → Int64 → Int64 → Int32 → Int32 → Mm → Option (Unit × Mm)) (hk106 : ∀ (x0 : Nat) (x3 : Int64) (x5 : Int64) (M : Mm), EJ G Y_Mod_bears cvV 2 106 [(0, .ref x0), (3, .long x3), (5, .long x5)] [] M (k106 x0 x3 x5 M)) (hk119 : ∀ (x0 : Nat) (x3 : Int64) (x5 : Int64) (x7 : Int32) (x8 : Int32) (M : Mm), EJ G Y_Mod_bears cvV 2 119 [(0, .ref x0), (3, .long x3), (5, .long x5), (7, .int x7), (8, .int x8)] [] M (k119 x0 x3 x5 x7 x8 M)) (x0 : Nat) (x3 : Int64) (x5 : Int64) (x7 : Int32) (x8 : Int32) (M : Mm) : EJ G Y_Mod_bears cvV 2 119 [(0, .ref x0), (3, .long x3), (5, .long x5), (7, .int x7), (8, .int x8)] [] M (Mod_bears_B119 k106 k119 x0 x3 x5 x7 x8 M) := by
  unfold Mod_bears_B119
  refine EJ_iload 121 4 (dk_21 (bt bc_Mod_bears_3 23 rfl) (bt bc_Mod_bears_3 24 rfl)) rfl rfl ?_
  refine EJ_aload_n 122 0 (dk_42 (bt bc_Mod_bears_3 25 rfl)) rfl rfl ?_
  refine EJ_ck (fun h11 => ?_)
  refine EJ_getI cf12 9 (by decide) 125 tw_1207 (fun _ _ _ => rfl) (dk_180 (bt bc_Mod_bears_3 26 rfl) (bt bc_Mod_bears_3 27 rfl) (bt bc_Mod_bears_3 28 rfl) (n := 269) rfl) rfl (of_decide_eq_true h11) ?_
  refine EJ_icmp_ge 156 128 (dk_162 (bt bc_Mod_bears_3 29 rfl) (bt bc_Mod_bears_3 30 rfl) (bt bc_Mod_bears_3 31 rfl) (n := 31) rfl) (by decide) rfl (fun _ => ?_) (fun _ => ?_)
  · refine EJ_aload_n 157 0 (dk_42 (bt bc_Mod_bears_4 28 rfl)) rfl rfl ?_
    refine EJ_getR cf12 101 (by decide) 160 tw_1299 (fun _ _ _ => rfl) (dk_180 (bt bc_Mod_bears_4 29 rfl) (bt bc_Mod_bears_4 30 rfl) (bt bc_Mod_bears_4 31 rfl) (n := 230) rfl) rfl (of_decide_eq_true h11) (fun b12 => ?_)
    refine EJ_iload 162 3 (dk_21 (bt bc_Mod_bears_5 0 rfl) (bt bc_Mod_bears_5 1 rfl)) rfl rfl ?_
    refine EJ_dup2 163 (dk_92 (bt bc_Mod_bears_5 2 rfl)) rfl rfl rfl ?_
    refine EJ_ck (fun h13 => ?_)
    refine EJ_lald 164 h13 (dk_47 (bt bc_Mod_bears_5 3 rfl)) rfl ?_
    refine EJ_lconst 165 (dk_10 (bt bc_Mod_bears_5 4 rfl)) rfl (v := 1) (by decide) ?_
    refine EJ_ladd 166 (dk_97 (bt bc_Mod_bears_5 5 rfl)) rfl ?_
    refine EJ_last 167 h13 (dk_80 (bt bc_Mod_bears_5 6 rfl)) rfl ?_
    refine EJ_aload_n 168 0 (dk_42 (bt bc_Mod_bears_5 7 rfl)) rfl rfl ?_
    refine EJ_getR cf12 102 (by decide) 171 tw_1300 (fun _ _ _ => rfl) (dk_180 (bt bc_Mod_bears_5 8 rfl) (bt bc_Mod_bears_5 9 rfl) (bt bc_Mod_bears_5 10 rfl) (n := 233) rfl) rfl (kp_L (of_decide_eq_true h11)) (fun b15 => ?_)
    refine EJ_iload 173 3 (dk_21 (bt bc_Mod_bears_5 11 rfl) (bt bc_Mod_bears_5 12 rfl)) rfl rfl ?_
    refine EJ_ldc2 176 (dk_20 (bt bc_Mod_bears_5 13 rfl) (bt bc_Mod_bears_5 14 rfl) (bt bc_Mod_bears_5 15 rfl) (n := 355) rfl) rfl tw_1690 ?_
    refine EJ_ck (fun h16 => ?_)
    refine EJ_last 177 h16 (dk_80 (bt bc_Mod_bears_5 16 rfl)) rfl ?_
    refine EJ_lload 179 2 (dk_22 (bt bc_Mod_bears_5 17 rfl) (bt bc_Mod_bears_5 18 rfl)) rfl rfl ?_
    refine EJ_lconst 180 (dk_10 (bt bc_Mod_bears_5 19 rfl)) rfl (v := 1) (by decide) ?_
    refine EJ_lsub 181 (dk_101 (bt bc_Mod_bears_5 20 rfl)) rfl ?_
    refine EJ_lstore 183 (lv2 := [(5, .long _), (0, .ref _), (3, .long _), (7, .int _), (8, .int _)]) (dk_55 (bt bc_Mod_bears_5 21 rfl) (bt bc_Mod_bears_5 22 rfl)) rfl (by decide) rfl ?_
    refine EJ_goto 106 (dk_167 (bt bc_Mod_bears_5 23 rfl) (bt bc_Mod_bears_5 24 rfl) (bt bc_Mod_bears_5 25 rfl) (n := -77) rfl) (by decide) ?_
    exact EJ_pick (lv2 := [(0, .ref _), (3, .long _), (5, .long _)]) [1, 2, 0] rfl (hk106 _ _ _ _)
  · refine EJ_aload_n 129 0 (dk_42 (bt bc_Mod_bears_4 0 rfl)) rfl rfl ?_
    refine EJ_getR cf12 102 (by decide) 132 tw_1300 (fun _ _ _ => rfl) (dk_180 (bt bc_Mod_bears_4 1 rfl) (bt bc_Mod_bears_4 2 rfl) (bt bc_Mod_bears_4 3 rfl) (n := 233) rfl) rfl (of_decide_eq_true h11) (fun b19 => ?_)
    refine EJ_iload 134 4 (dk_21 (bt bc_Mod_bears_4 4 rfl) (bt bc_Mod_bears_4 5 rfl)) rfl rfl ?_
    refine EJ_ck (fun h20 => ?_)
    refine EJ_lald 135 h20 (dk_47 (bt bc_Mod_bears_4 6 rfl)) rfl ?_
    refine EJ_aload_n 136 0 (dk_42 (bt bc_Mod_bears_4 7 rfl)) rfl rfl ?_
    refine EJ_getR cf12 102 (by decide) 139 tw_1300 (fun _ _ _ => rfl) (dk_180 (bt bc_Mod_bears_4 8 rfl) (bt bc_Mod_bears_4 9 rfl) (bt bc_Mod_bears_4 10 rfl) (n := 233) rfl) rfl (of_decide_eq_true h11) (fun b21 => ?_)
    refine EJ_iload 141 3 (dk_21 (bt bc_Mod_bears_4 11 rfl) (bt bc_Mod_bears_4 12 rfl)) rfl rfl ?_
    refine EJ_ck (fun h22 => ?_)
    refine EJ_lald 142 h22 (dk_47 (bt bc_Mod_bears_4 13 rfl)) rfl ?_
    refine EJ_lcmp_le 150 146 (dk_148 (bt bc_Mod_bears_4 14 rfl)) (dk_158 (bt bc_Mod_bears_4 15 rfl) (bt bc_Mod_bears_4 16 rfl) (bt bc_Mod_bears_4 17 rfl) (n := 7) rfl) (by decide) rfl (fun _ => ?_) (fun _ => ?_)
    · exact EJ_pick (lv2 := [(0, .ref _), (3, .long _), (5, .long _), (7, .int _), (8, .int _)]) [0, 1, 2, 3, 4] rfl (e_Mod_bears_J150 k106 k119 hk106 hk119 _ _ _ _ _ _)
    · refine EJ_iload 148 4 (dk_21 (bt bc_Mod_bears_4 18 rfl) (bt bc_Mod_bears_4 19 rfl)) rfl rfl ?_
      refine EJ_istore 150 (lv2 := [(7, .int _), (0, .ref _), (3, .long _), (5, .long _), (8, .int _)]) (dk_54 (bt bc_Mod_bears_4 20 rfl) (bt bc_Mod_bears_4 21 rfl)) rfl (by decide) rfl ?_
      exact EJ_pick (lv2 := [(0, .ref _), (3, .long _), (5, .long _), (7, .int _), (8, .int _)]) [1, 2, 3, 0, 4] rfl (e_Mod_bears_J150 k106 k119 hk106 hk119 _ _ _ _ _ _)
def Mod_bears_L119 (k106 : Nat → Int64 → Int64 → Mm → Option (Unit × Mm)) (n : Nat) : Nat → Int64 → Int64 → Int32 → Int32 → Mm → Option (Unit × Mm) :=
  match n with
  | 0 => fun _ _ _ _ _ _ => none
  | n + 1 => Mod_bears_B119 k106 (Mod_bears_L119 k106 n)
theorem e_Mod_bears_L119 {G : Gx} (k106 : Nat → Int64 → Int64 → Mm → Option (Unit × Mm)) (hk106 : ∀ (x0 : Nat) (x3 : Int64) (x5 : Int64) (M : Mm), EJ G Y_Mod_bears cvV 2 106 [(0, .ref x0), (3, .long x3), (5, .long x5)] [] M (k106 x0 x3 x5 M)) : ∀ (n : Nat) (x0 : Nat) (x3 : Int64) (x5 : Int64) (x7 : Int32) (x8 : Int32) (M : Mm), EJ G Y_Mod_bears cvV 2 119 [(0, .ref x0), (3, .long x3), (5, .long x5), (7, .int x7), (8, .int x8)] [] M (Mod_bears_L119 k106 n x0 x3 x5 x7 x8 M) := by
  intro n
  induction n with
  | zero => intros; exact EJ_none
  | succ n ih => intro x0 x3 x5 x7 x8 M; exact e_Mod_bears_B119 k106 _ hk106 ih x0 x3 x5 x7 x8 M
def Mod_bears_B106 (k106 : Nat → Int64 → Int64 → Mm → Option (Unit × Mm)) (x0 : Nat) (x3 : Int64) (x5 : Int64) (M : Mm) : Option (Unit × Mm) :=
  if x5 ≤ 0 then (
    Mod_bears_L189 fu x0 x3 0 M)
  else (
    Mod_bears_L119 k106 fu x0 x3 x5 0 1 M)
set_option maxRecDepth 100000 in
set_option maxHeartbeats 4000000 in
theorem e_Mod_bears_B106 {G : Gx} (k106 : Nat → Int64 → Int64 → Mm → Option (Unit × Mm)) (hk106 : ∀ (x0 : Nat) (x3 : Int64) (x5 : Int64) (M : Mm), EJ G Y_Mod_bears cvV 2 106 [(0, .ref x0), (3, .long x3), (5, .long x5)] [] M (k106 x0 x3 x5 M)) (x0 : Nat) (x3 : Int64) (x5 : Int64) (M : Mm) : EJ G Y_Mod_bears cvV 2 106 [(0, .ref x0), (3, .long x3), (5, .long x5)] [] M (Mod_bears_B106 k106 x0 x3 x5 M) := by
  unfold Mod_bears_B106
  refine EJ_lload 108 2 (dk_22 (bt bc_Mod_bears_3 10 rfl) (bt bc_Mod_bears_3 11 rfl)) rfl rfl ?_
  refine EJ_lconst 109 (dk_9 (bt bc_Mod_bears_3 12 rfl)) rfl (v := 0) (by decide) ?_
  refine EJ_lcmp_le 186 113 (dk_148 (bt bc_Mod_bears_3 13 rfl)) (dk_158 (bt bc_Mod_bears_3 14 rfl) (bt bc_Mod_bears_3 15 rfl) (bt bc_Mod_bears_3 16 rfl) (n := 76) rfl) (by decide) rfl (fun _ => ?_) (fun _ => ?_)
  · refine EJ_iconst 187 (dk_3 (bt bc_Mod_bears_5 26 rfl)) rfl (v := 0) kI_0 ?_
    refine EJ_istore 189 (lv2 := [(7, .int _), (0, .ref _), (3, .long _), (5, .long _)]) (dk_54 (bt bc_Mod_bears_5 27 rfl) (bt bc_Mod_bears_5 28 rfl)) rfl (by decide) rfl ?_
    exact EJ_pick (lv2 := [(0, .ref _), (3, .long _), (7, .int _)]) [1, 2, 0] rfl (e_Mod_bears_L189 fu _ _ _ _)
  · refine EJ_iconst 114 (dk_3 (bt bc_Mod_bears_3 17 rfl)) rfl (v := 0) kI_0 ?_
    refine EJ_istore 116 (lv2 := [(7, .int _), (0, .ref _), (3, .long _), (5, .long _)]) (dk_54 (bt bc_Mod_bears_3 18 rfl) (bt bc_Mod_bears_3 19 rfl)) rfl (by decide) rfl ?_
    refine EJ_iconst 117 (dk_4 (bt bc_Mod_bears_3 20 rfl)) rfl (v := 1) kI_1 ?_
    refine EJ_istore 119 (lv2 := [(8, .int _), (7, .int _), (0, .ref _), (3, .long _), (5, .long _)]) (dk_54 (bt bc_Mod_bears_3 21 rfl) (bt bc_Mod_bears_3 22 rfl)) rfl (by decide) rfl ?_
    exact EJ_pick (lv2 := [(0, .ref _), (3, .long _), (5, .long _), (7, .int _), (8, .int _)]) [2, 3, 4, 1, 0] rfl (e_Mod_bears_L119 k106 hk106 fu _ _ _ _ _ _)
def Mod_bears_L106 (n : Nat) : Nat → Int64 → Int64 → Mm → Option (Unit × Mm) :=
  match n with
  | 0 => fun _ _ _ _ => none
  | n + 1 => Mod_bears_B106 (Mod_bears_L106 n)
theorem e_Mod_bears_L106 {G : Gx} : ∀ (n : Nat) (x0 : Nat) (x3 : Int64) (x5 : Int64) (M : Mm), EJ G Y_Mod_bears cvV 2 106 [(0, .ref x0), (3, .long x3), (5, .long x5)] [] M (Mod_bears_L106 n x0 x3 x5 M) := by
  intro n
  induction n with
  | zero => intros; exact EJ_none
  | succ n ih => intro x0 x3 x5 M; exact e_Mod_bears_B106 _ ih x0 x3 x5 M
def Mod_bears_B71 (k71 : Nat → Int64 → Int64 → Int64 → Int32 → Mm → Option (Unit × Mm)) (x0 : Nat) (x1 : Int64) (x3 : Int64) (x5 : Int64) (x7 : Int32) (M : Mm) : Option (Unit × Mm) :=
  ck (kO M x0 12 107) (
  if (mI M x0 9) ≤ x7 then (
    Mod_bears_L106 fu x0 x3 x5 M)
  else (
    bd (Mod_parts M x0 x7 x3 x1) (fun _ M25 =>
    ck (kO M25 x0 12 107) (
    nn (mR M25 x0 101) (fun b27 =>
    ck (kA M25 b27 23 x7) (
    let v29 : Int64 := x5 - (mL M25 b27 (ix x7))
    let v30 : Int32 := x7 + 1
    k71 x0 x1 x3 v29 v30 M25))))))
set_option maxRecDepth 100000 in
set_option maxHeartbeats 4000000 in
theorem e_Mod_bears_B71 {G : Gx} (k71 : Nat → Int64 → Int64 → Int64 → Int32 → Mm → Option (Unit × Mm)) (hk71 : ∀ (x0 : Nat) (x1 : Int64) (x3 : Int64) (x5 : Int64) (x7 : Int32) (M : Mm), EJ G Y_Mod_bears cvV 2 71 [(0, .ref x0), (1, .long x1), (3, .long x3), (5, .long x5), (7, .int x7)] [] M (k71 x0 x1 x3 x5 x7 M)) (x0 : Nat) (x1 : Int64) (x3 : Int64) (x5 : Int64) (x7 : Int32) (M : Mm) : EJ G Y_Mod_bears cvV 2 71 [(0, .ref x0), (1, .long x1), (3, .long x3), (5, .long x5), (7, .int x7)] [] M (Mod_bears_B71 k71 x0 x1 x3 x5 x7 M) := by
  unfold Mod_bears_B71
  refine EJ_iload 73 4 (dk_21 (bt bc_Mod_bears_2 7 rfl) (bt bc_Mod_bears_2 8 rfl)) rfl rfl ?_
  refine EJ_aload_n 74 0 (dk_42 (bt bc_Mod_bears_2 9 rfl)) rfl rfl ?_
  refine EJ_ck (fun h2 => ?_)
  refine EJ_getI cf12 9 (by decide) 77 tw_1207 (fun _ _ _ => rfl) (dk_180 (bt bc_Mod_bears_2 10 rfl) (bt bc_Mod_bears_2 11 rfl) (bt bc_Mod_bears_2 12 rfl) (n := 269) rfl) rfl (of_decide_eq_true h2) ?_
  refine EJ_icmp_ge 106 80 (dk_162 (bt bc_Mod_bears_2 13 rfl) (bt bc_Mod_bears_2 14 rfl) (bt bc_Mod_bears_2 15 rfl) (n := 29) rfl) (by decide) rfl (fun _ => ?_) (fun _ => ?_)
  · exact EJ_pick (lv2 := [(0, .ref _), (3, .long _), (5, .long _)]) [0, 2, 3] rfl (e_Mod_bears_L106 fu _ _ _ _)
  · refine EJ_aload_n 81 0 (dk_42 (bt bc_Mod_bears_2 16 rfl)) rfl rfl ?_
    refine EJ_iload 83 4 (dk_21 (bt bc_Mod_bears_2 17 rfl) (bt bc_Mod_bears_2 18 rfl)) rfl rfl ?_
    refine EJ_lload_n 84 2 (dk_33 (bt bc_Mod_bears_2 19 rfl)) rfl rfl ?_
    refine EJ_lload_n 85 1 (dk_31 (bt bc_Mod_bears_2 20 rfl)) rfl rfl ?_
    refine EJ_callVv (Y2 := Y_Mod_parts) 88 cf12 (s_Mod_parts G _ _ _ _ _) (of_decide_eq_true h2) rfl (dk_182 (bt bc_Mod_bears_2 21 rfl) (bt bc_Mod_bears_2 22 rfl) (bt bc_Mod_bears_2 23 rfl) (n := 540) rfl) rfl tw_1841 tw_1843 ts_74 tw_1844 hd_Mod_parts rfl (by decide) (Nat.le_of_ble_eq_true rfl) (fun _ M25 => ?_)
    refine EJ_lload 90 3 (dk_22 (bt bc_Mod_bears_2 24 rfl) (bt bc_Mod_bears_2 25 rfl)) rfl rfl ?_
    refine EJ_aload_n 91 0 (dk_42 (bt bc_Mod_bears_2 26 rfl)) rfl rfl ?_
    refine EJ_ck (fun h26 => ?_)
    refine EJ_getR cf12 101 (by decide) 94 tw_1299 (fun _ _ _ => rfl) (dk_180 (bt bc_Mod_bears_2 27 rfl) (bt bc_Mod_bears_2 28 rfl) (bt bc_Mod_bears_2 29 rfl) (n := 230) rfl) rfl (of_decide_eq_true h26) (fun b27 => ?_)
    refine EJ_iload 96 4 (dk_21 (bt bc_Mod_bears_2 30 rfl) (bt bc_Mod_bears_2 31 rfl)) rfl rfl ?_
    refine EJ_ck (fun h28 => ?_)
    refine EJ_lald 97 h28 (dk_47 (bt bc_Mod_bears_3 0 rfl)) rfl ?_
    refine EJ_lsub 98 (dk_101 (bt bc_Mod_bears_3 1 rfl)) rfl ?_
    refine EJ_lstore 100 (lv2 := [(5, .long _), (0, .ref _), (1, .long _), (3, .long _), (7, .int _)]) (dk_55 (bt bc_Mod_bears_3 2 rfl) (bt bc_Mod_bears_3 3 rfl)) rfl (by decide) rfl ?_
    refine EJ_iinc 103 4 (lv2 := [(7, .int _), (5, .long _), (0, .ref _), (1, .long _), (3, .long _)]) (dk_132 (bt bc_Mod_bears_3 4 rfl) (bt bc_Mod_bears_3 5 rfl) (bt bc_Mod_bears_3 6 rfl) (n := 1) rfl) rfl (by decide) rfl (v := 1) kI_1 rfl ?_
    refine EJ_goto 71 (dk_167 (bt bc_Mod_bears_3 7 rfl) (bt bc_Mod_bears_3 8 rfl) (bt bc_Mod_bears_3 9 rfl) (n := -32) rfl) (by decide) ?_
    exact EJ_pick (lv2 := [(0, .ref _), (1, .long _), (3, .long _), (5, .long _), (7, .int _)]) [2, 3, 4, 1, 0] rfl (hk71 _ _ _ _ _ _)
def Mod_bears_L71 (n : Nat) : Nat → Int64 → Int64 → Int64 → Int32 → Mm → Option (Unit × Mm) :=
  match n with
  | 0 => fun _ _ _ _ _ _ => none
  | n + 1 => Mod_bears_B71 (Mod_bears_L71 n)
theorem e_Mod_bears_L71 {G : Gx} : ∀ (n : Nat) (x0 : Nat) (x1 : Int64) (x3 : Int64) (x5 : Int64) (x7 : Int32) (M : Mm), EJ G Y_Mod_bears cvV 2 71 [(0, .ref x0), (1, .long x1), (3, .long x3), (5, .long x5), (7, .int x7)] [] M (Mod_bears_L71 n x0 x1 x3 x5 x7 M) := by
  intro n
  induction n with
  | zero => intros; exact EJ_none
  | succ n ih => intro x0 x1 x3 x5 x7 M; exact e_Mod_bears_B71 _ ih x0 x1 x3 x5 x7 M
def Mod_bears_J57 (x0 : Nat) (x1 : Int64) (s0 : Int64) (M : Mm) : Option (Unit × Mm) :=
  if s0 = 0 then (
    some ((), M))
  else (
    Mod_bears_L71 fu x0 x1 s0 s0 0 M)
set_option maxRecDepth 100000 in
set_option maxHeartbeats 4000000 in
theorem e_Mod_bears_J57 {G : Gx} (x0 : Nat) (x1 : Int64) (s0 : Int64) (M : Mm) : EJ G Y_Mod_bears cvV 2 57 [(0, .ref x0), (1, .long x1)] [.long s0] M (Mod_bears_J57 x0 x1 s0 M) := by
  unfold Mod_bears_J57
  refine EJ_lstore_n 58 (lv2 := [(3, .long _), (0, .ref _), (1, .long _)]) (dk_66 (bt bc_Mod_bears_1 25 rfl)) rfl (by decide) rfl ?_
  refine EJ_lload_n 59 0 (dk_33 (bt bc_Mod_bears_1 26 rfl)) rfl rfl ?_
  refine EJ_lconst 60 (dk_9 (bt bc_Mod_bears_1 27 rfl)) rfl (v := 0) (by decide) ?_
  refine EJ_lcmp_ne 65 64 (dk_148 (bt bc_Mod_bears_1 28 rfl)) (dk_154 (bt bc_Mod_bears_1 29 rfl) (bt bc_Mod_bears_1 30 rfl) (bt bc_Mod_bears_1 31 rfl) (n := 4) rfl) (by decide) rfl (fun _ => ?_) (fun _ => ?_)
  · refine EJ_lload_n 66 0 (dk_33 (bt bc_Mod_bears_2 1 rfl)) rfl rfl ?_
    refine EJ_lstore 68 (lv2 := [(5, .long _), (3, .long _), (0, .ref _), (1, .long _)]) (dk_55 (bt bc_Mod_bears_2 2 rfl) (bt bc_Mod_bears_2 3 rfl)) rfl (by decide) rfl ?_
    refine EJ_iconst 69 (dk_3 (bt bc_Mod_bears_2 4 rfl)) rfl (v := 0) kI_0 ?_
    refine EJ_istore 71 (lv2 := [(7, .int _), (5, .long _), (3, .long _), (0, .ref _), (1, .long _)]) (dk_54 (bt bc_Mod_bears_2 5 rfl) (bt bc_Mod_bears_2 6 rfl)) rfl (by decide) rfl ?_
    exact EJ_pick (lv2 := [(0, .ref _), (1, .long _), (3, .long _), (5, .long _), (7, .int _)]) [3, 4, 2, 1, 0] rfl (e_Mod_bears_L71 fu _ _ _ _ _ _)
  · exact EJ_vret rfl (dk_177 (bt bc_Mod_bears_2 0 rfl))
def Mod_bears_J32 (k4 : Nat → Int64 → Int32 → Mm → Option (Unit × Mm)) (x0 : Nat) (x1 : Int64) (x3 : Int32) (M : Mm) : Option (Unit × Mm) :=
  let v33 : Int32 := x3 + 1
  k4 x0 x1 v33 M
set_option maxRecDepth 100000 in
set_option maxHeartbeats 4000000 in
theorem e_Mod_bears_J32 {G : Gx} (k4 : Nat → Int64 → Int32 → Mm → Option (Unit × Mm)) (hk4 : ∀ (x0 : Nat) (x1 : Int64) (x3 : Int32) (M : Mm), EJ G Y_Mod_bears cvV 2 4 [(0, .ref x0), (1, .long x1), (3, .int x3)] [] M (k4 x0 x1 x3 M)) (x0 : Nat) (x1 : Int64) (x3 : Int32) (M : Mm) : EJ G Y_Mod_bears cvV 2 32 [(0, .ref x0), (1, .long x1), (3, .int x3)] [] M (Mod_bears_J32 k4 x0 x1 x3 M) := by
  unfold Mod_bears_J32
  refine EJ_iinc 35 2 (lv2 := [(3, .int _), (0, .ref _), (1, .long _)]) (dk_132 (bt bc_Mod_bears_1 0 rfl) (bt bc_Mod_bears_1 1 rfl) (bt bc_Mod_bears_1 2 rfl) (n := 1) rfl) rfl (by decide) rfl (v := 1) kI_1 rfl ?_
  refine EJ_goto 4 (dk_167 (bt bc_Mod_bears_1 3 rfl) (bt bc_Mod_bears_1 4 rfl) (bt bc_Mod_bears_1 5 rfl) (n := -31) rfl) (by decide) ?_
  exact EJ_pick (lv2 := [(0, .ref _), (1, .long _), (3, .int _)]) [1, 2, 0] rfl (hk4 _ _ _ _)
def Mod_bears_B4 (k4 : Nat → Int64 → Int32 → Mm → Option (Unit × Mm)) (x0 : Nat) (x1 : Int64) (x3 : Int32) (M : Mm) : Option (Unit × Mm) :=
  ck (kO M x0 12 107) (
  if (mI M x0 9) ≤ x3 then (
    if x1 ≤ (-(mL M x0 18)) then (
      Mod_bears_J57 x0 x1 x1 M)
    else (
      Mod_bears_J57 x0 x1 (-(mL M x0 18)) M))
  else (
    nn (mR M x0 16) (fun b31 =>
    ck (kA M b31 23 x3) (
    if (mL M b31 (ix x3)) ≤ 0 then (
      Mod_bears_J32 k4 x0 x1 x3 M)
    else (
      nn (mR M x0 16) (fun b34 =>
      ck (kA M b34 23 x3) (
      let v36 : Int64 := x1 + (mL M b34 (ix x3))
      Mod_bears_J32 k4 x0 v36 x3 M)))))))
set_option maxRecDepth 100000 in
set_option maxHeartbeats 4000000 in
theorem e_Mod_bears_B4 {G : Gx} (k4 : Nat → Int64 → Int32 → Mm → Option (Unit × Mm)) (hk4 : ∀ (x0 : Nat) (x1 : Int64) (x3 : Int32) (M : Mm), EJ G Y_Mod_bears cvV 2 4 [(0, .ref x0), (1, .long x1), (3, .int x3)] [] M (k4 x0 x1 x3 M)) (x0 : Nat) (x1 : Int64) (x3 : Int32) (M : Mm) : EJ G Y_Mod_bears cvV 2 4 [(0, .ref x0), (1, .long x1), (3, .int x3)] [] M (Mod_bears_B4 k4 x0 x1 x3 M) := by
  unfold Mod_bears_B4
  refine EJ_iload_n 5 2 (dk_29 (bt bc_Mod_bears_0 4 rfl)) rfl rfl ?_
  refine EJ_aload_n 6 0 (dk_42 (bt bc_Mod_bears_0 5 rfl)) rfl rfl ?_
  refine EJ_ck (fun h1 => ?_)
  refine EJ_getI cf12 9 (by decide) 9 tw_1207 (fun _ _ _ => rfl) (dk_180 (bt bc_Mod_bears_0 6 rfl) (bt bc_Mod_bears_0 7 rfl) (bt bc_Mod_bears_0 8 rfl) (n := 269) rfl) rfl (of_decide_eq_true h1) ?_
  refine EJ_icmp_ge 38 12 (dk_162 (bt bc_Mod_bears_0 9 rfl) (bt bc_Mod_bears_0 10 rfl) (bt bc_Mod_bears_0 11 rfl) (n := 29) rfl) (by decide) rfl (fun _ => ?_) (fun _ => ?_)
  · refine EJ_aload_n 39 0 (dk_42 (bt bc_Mod_bears_1 6 rfl)) rfl rfl ?_
    refine EJ_getL cf12 18 (by decide) 42 tw_1216 (fun _ _ _ => rfl) (dk_180 (bt bc_Mod_bears_1 7 rfl) (bt bc_Mod_bears_1 8 rfl) (bt bc_Mod_bears_1 9 rfl) (n := 327) rfl) rfl (of_decide_eq_true h1) ?_
    refine EJ_lneg 43 (dk_117 (bt bc_Mod_bears_1 10 rfl)) rfl ?_
    refine EJ_lload_n 44 1 (dk_31 (bt bc_Mod_bears_1 11 rfl)) rfl rfl ?_
    refine EJ_lcmp_ge 56 48 (dk_148 (bt bc_Mod_bears_1 12 rfl)) (dk_156 (bt bc_Mod_bears_1 13 rfl) (bt bc_Mod_bears_1 14 rfl) (bt bc_Mod_bears_1 15 rfl) (n := 11) rfl) (by decide) rfl (fun _ => ?_) (fun _ => ?_)
    · refine EJ_lload_n 57 1 (dk_31 (bt bc_Mod_bears_1 24 rfl)) rfl rfl ?_
      exact EJ_pick (lv2 := [(0, .ref _), (1, .long _)]) [0, 1] rfl (e_Mod_bears_J57 _ _ _ _)
    · refine EJ_aload_n 49 0 (dk_42 (bt bc_Mod_bears_1 16 rfl)) rfl rfl ?_
      refine EJ_getL cf12 18 (by decide) 52 tw_1216 (fun _ _ _ => rfl) (dk_180 (bt bc_Mod_bears_1 17 rfl) (bt bc_Mod_bears_1 18 rfl) (bt bc_Mod_bears_1 19 rfl) (n := 327) rfl) rfl (of_decide_eq_true h1) ?_
      refine EJ_lneg 53 (dk_117 (bt bc_Mod_bears_1 20 rfl)) rfl ?_
      refine EJ_goto 57 (dk_167 (bt bc_Mod_bears_1 21 rfl) (bt bc_Mod_bears_1 22 rfl) (bt bc_Mod_bears_1 23 rfl) (n := 4) rfl) (by decide) ?_
      exact EJ_pick (lv2 := [(0, .ref _), (1, .long _)]) [0, 1] rfl (e_Mod_bears_J57 _ _ _ _)
  · refine EJ_aload_n 13 0 (dk_42 (bt bc_Mod_bears_0 12 rfl)) rfl rfl ?_
    refine EJ_getR cf12 16 (by decide) 16 tw_1214 (fun _ _ _ => rfl) (dk_180 (bt bc_Mod_bears_0 13 rfl) (bt bc_Mod_bears_0 14 rfl) (bt bc_Mod_bears_0 15 rfl) (n := 51) rfl) rfl (of_decide_eq_true h1) (fun b31 => ?_)
    refine EJ_iload_n 17 2 (dk_29 (bt bc_Mod_bears_0 16 rfl)) rfl rfl ?_
    refine EJ_ck (fun h32 => ?_)
    refine EJ_lald 18 h32 (dk_47 (bt bc_Mod_bears_0 17 rfl)) rfl ?_
    refine EJ_lconst 19 (dk_9 (bt bc_Mod_bears_0 18 rfl)) rfl (v := 0) (by decide) ?_
    refine EJ_lcmp_le 32 23 (dk_148 (bt bc_Mod_bears_0 19 rfl)) (dk_158 (bt bc_Mod_bears_0 20 rfl) (bt bc_Mod_bears_0 21 rfl) (bt bc_Mod_bears_0 22 rfl) (n := 12) rfl) (by decide) rfl (fun _ => ?_) (fun _ => ?_)
    · exact EJ_pick (lv2 := [(0, .ref _), (1, .long _), (3, .int _)]) [0, 1, 2] rfl (e_Mod_bears_J32 k4 hk4 _ _ _ _)
    · refine EJ_lload_n 24 1 (dk_31 (bt bc_Mod_bears_0 23 rfl)) rfl rfl ?_
      refine EJ_aload_n 25 0 (dk_42 (bt bc_Mod_bears_0 24 rfl)) rfl rfl ?_
      refine EJ_getR cf12 16 (by decide) 28 tw_1214 (fun _ _ _ => rfl) (dk_180 (bt bc_Mod_bears_0 25 rfl) (bt bc_Mod_bears_0 26 rfl) (bt bc_Mod_bears_0 27 rfl) (n := 51) rfl) rfl (of_decide_eq_true h1) (fun b34 => ?_)
      refine EJ_iload_n 29 2 (dk_29 (bt bc_Mod_bears_0 28 rfl)) rfl rfl ?_
      refine EJ_ck (fun h35 => ?_)
      refine EJ_lald 30 h35 (dk_47 (bt bc_Mod_bears_0 29 rfl)) rfl ?_
      refine EJ_ladd 31 (dk_97 (bt bc_Mod_bears_0 30 rfl)) rfl ?_
      refine EJ_lstore_n 32 (lv2 := [(1, .long _), (0, .ref _), (3, .int _)]) (dk_64 (bt bc_Mod_bears_0 31 rfl)) rfl (by decide) rfl ?_
      exact EJ_pick (lv2 := [(0, .ref _), (1, .long _), (3, .int _)]) [1, 0, 2] rfl (e_Mod_bears_J32 k4 hk4 _ _ _ _)
def Mod_bears_L4 (n : Nat) : Nat → Int64 → Int32 → Mm → Option (Unit × Mm) :=
  match n with
  | 0 => fun _ _ _ _ => none
  | n + 1 => Mod_bears_B4 (Mod_bears_L4 n)
theorem e_Mod_bears_L4 {G : Gx} : ∀ (n : Nat) (x0 : Nat) (x1 : Int64) (x3 : Int32) (M : Mm), EJ G Y_Mod_bears cvV 2 4 [(0, .ref x0), (1, .long x1), (3, .int x3)] [] M (Mod_bears_L4 n x0 x1 x3 M) := by
  intro n
  induction n with
  | zero => intros; exact EJ_none
  | succ n ih => intro x0 x1 x3 M; exact e_Mod_bears_B4 _ ih x0 x1 x3 M
def Mod_bears (M : Mm) (a0 : Nat) : Option (Unit × Mm) :=
  Mod_bears_L4 fu a0 0 0 M
set_option maxRecDepth 100000 in
set_option maxHeartbeats 4000000 in
theorem s_Mod_bears (G : Gx) (M : Mm) (a0 : Nat) : FnS G Y_Mod_bears cvV 2 [.ref a0] M (Mod_bears M a0) := by
  refine FnS.ofE (by decide) (Nat.le_of_ble_eq_true rfl) ?_
  show EJ G Y_Mod_bears cvV 2 0 [(0, .ref a0)] [] M _
  unfold Mod_bears
  refine EJ_lconst 1 (dk_9 (bt bc_Mod_bears_0 0 rfl)) rfl (v := 0) (by decide) ?_
  refine EJ_lstore_n 2 (lv2 := [(1, .long _), (0, .ref _)]) (dk_64 (bt bc_Mod_bears_0 1 rfl)) rfl (by decide) rfl ?_
  refine EJ_iconst 3 (dk_3 (bt bc_Mod_bears_0 2 rfl)) rfl (v := 0) kI_0 ?_
  refine EJ_istore_n 4 (lv2 := [(3, .int _), (1, .long _), (0, .ref _)]) (dk_62 (bt bc_Mod_bears_0 3 rfl)) rfl (by decide) rfl ?_
  exact EJ_pick (lv2 := [(0, .ref _), (1, .long _), (3, .int _)]) [2, 1, 0] rfl (e_Mod_bears_L4 fu _ _ _ _)
abbrev Y_Mod_clears : Ym := (⟨"RiceHallModel", "clears", "(III)V"⟩, prog_14_method_72_code, 8, none)
theorem bc_Mod_clears_0 : bts prog_14_method_72_code 0 [3, 54, 4, 21, 4, 42, 180, 1, 13, 162, 0, 32, 42, 180, 0, 51, 21, 4, 92, 47, 42, 180, 0, 36, 21, 4, 46, 133, 29, 28, 100, 133] := bts_of (by decide +kernel)
theorem bc_Mod_clears_1 : bts prog_14_method_72_code 32 [105, 97, 80, 132, 4, 1, 167, 255, 221, 42, 89, 180, 1, 71, 42, 180, 2, 20, 133, 29, 28, 100, 133, 105, 97, 181, 1, 71, 3, 54, 4, 21] := bts_of (by decide +kernel)
theorem bc_Mod_clears_2 : bts prog_14_method_72_code 64 [4, 42, 180, 0, 164, 27, 46, 162, 0, 117, 16, 60, 27, 104, 21, 4, 96, 54, 5, 42, 180, 0, 209, 21, 5, 46, 133, 29, 42, 180, 0, 212] := bts_of (by decide +kernel)
theorem bc_Mod_clears_3 : bts prog_14_method_72_code 96 [21, 5, 46, 100, 133, 105, 55, 6, 42, 180, 0, 36, 42, 180, 0, 194, 21, 5, 46, 92, 46, 42, 180, 0, 209, 21, 5, 46, 96, 79, 42, 180] := bts_of (by decide +kernel)
theorem bc_Mod_clears_4 : bts prog_14_method_72_code 128 [0, 51, 42, 180, 0, 194, 21, 5, 46, 92, 47, 22, 6, 97, 80, 42, 180, 0, 36, 42, 180, 0, 197, 21, 5, 46, 92, 46, 42, 180, 0, 209] := bts_of (by decide +kernel)
theorem bc_Mod_clears_5 : bts prog_14_method_72_code 160 [21, 5, 46, 100, 79, 42, 180, 0, 51, 42, 180, 0, 197, 21, 5, 46, 92, 47, 22, 6, 101, 80, 132, 4, 1, 167, 255, 134, 42, 16, 7, 182] := bts_of (by decide +kernel)
theorem bc_Mod_clears_6 : bts prog_14_method_72_code 192 [1, 46, 54, 4, 3, 54, 5, 21, 5, 42, 180, 1, 13, 162, 0, 17, 42, 21, 5, 21, 4, 182, 2, 23, 132, 5, 1, 167, 255, 236, 42, 180] := bts_of (by decide +kernel)
theorem bc_Mod_clears_7 : bts prog_14_method_72_code 224 [1, 71, 9, 148, 156, 0, 7, 42, 182, 2, 26, 42, 180, 1, 239, 42, 16, 8, 182, 1, 46, 112, 153, 0, 4, 177, 3, 54, 5, 21, 5, 42] := bts_of (by decide +kernel)
theorem bc_Mod_clears_8 : bts prog_14_method_72_code 256 [180, 1, 13, 162, 0, 25, 42, 180, 0, 36, 21, 5, 3, 79, 42, 180, 0, 42, 21, 5, 2, 79, 132, 5, 1, 167, 255, 228, 42, 3, 181, 2] := bts_of (by decide +kernel)
theorem bc_Mod_clears_9 : bts prog_14_method_72_code 288 [20, 177] := bts_of (by decide +kernel)
theorem hd_Mod_clears : Y_Mod_clears.1.cls = RX12 ∧ Y_Mod_clears.1.cls ≠ "java/lang/invoke/MethodHandle" ∧ Y_Mod_clears.1.cls ≠ "java/lang/invoke/VarHandle" ∧ (parseMethodDescriptor Y_Mod_clears.1.desc).map (fun d => d.parameters.length) = some 3 := by decide +kernel
def Mod_clears_B253 (k253 : Nat → Int32 → Mm → Option (Unit × Mm)) (x0 : Nat) (x5 : Int32) (M : Mm) : Option (Unit × Mm) :=
  ck (kO M x0 12 107) (
  if (mI M x0 9) ≤ x5 then (
    let M14 := sI M x0 21 0
    some ((), M14))
  else (
    nn (mR M x0 11) (fun b15 =>
    ck (kA M b15 20 x5) (
    let M17 := sI M b15 (ix x5) 0
    nn (mR M17 x0 13) (fun b18 =>
    ck (kA M17 b18 20 x5) (
    let M20 := sI M17 b18 (ix x5) (-1)
    let v21 : Int32 := x5 + 1
    k253 x0 v21 M20))))))
set_option maxRecDepth 100000 in
set_option maxHeartbeats 4000000 in
theorem e_Mod_clears_B253 {G : Gx} (k253 : Nat → Int32 → Mm → Option (Unit × Mm)) (hk253 : ∀ (x0 : Nat) (x5 : Int32) (M : Mm), EJ G Y_Mod_clears cvV 7 253 [(0, .ref x0), (5, .int x5)] [] M (k253 x0 x5 M)) (x0 : Nat) (x5 : Int32) (M : Mm) : EJ G Y_Mod_clears cvV 7 253 [(0, .ref x0), (5, .int x5)] [] M (Mod_clears_B253 k253 x0 x5 M) := by
  unfold Mod_clears_B253
  refine EJ_iload 255 1 (dk_21 (bt bc_Mod_clears_7 29 rfl) (bt bc_Mod_clears_7 30 rfl)) rfl rfl ?_
  refine EJ_aload_n 256 0 (dk_42 (bt bc_Mod_clears_7 31 rfl)) rfl rfl ?_
  refine EJ_ck (fun h13 => ?_)
  refine EJ_getI cf12 9 (by decide) 259 tw_1207 (fun _ _ _ => rfl) (dk_180 (bt bc_Mod_clears_8 0 rfl) (bt bc_Mod_clears_8 1 rfl) (bt bc_Mod_clears_8 2 rfl) (n := 269) rfl) rfl (of_decide_eq_true h13) ?_
  refine EJ_icmp_ge 284 262 (dk_162 (bt bc_Mod_clears_8 3 rfl) (bt bc_Mod_clears_8 4 rfl) (bt bc_Mod_clears_8 5 rfl) (n := 25) rfl) (by decide) rfl (fun _ => ?_) (fun _ => ?_)
  · refine EJ_aload_n 285 0 (dk_42 (bt bc_Mod_clears_8 28 rfl)) rfl rfl ?_
    refine EJ_iconst 286 (dk_3 (bt bc_Mod_clears_8 29 rfl)) rfl (v := 0) kI_0 ?_
    refine EJ_putI cf12 21 (by decide) 289 tw_1219 rfl (Or.inl rfl) (dk_181 (bt bc_Mod_clears_8 30 rfl) (bt bc_Mod_clears_8 31 rfl) (bt bc_Mod_clears_9 0 rfl) (n := 532) rfl) rfl (of_decide_eq_true h13) ?_
    exact EJ_vret rfl (dk_177 (bt bc_Mod_clears_9 1 rfl))
  · refine EJ_aload_n 263 0 (dk_42 (bt bc_Mod_clears_8 6 rfl)) rfl rfl ?_
    refine EJ_getR cf12 11 (by decide) 266 tw_1209 (fun _ _ _ => rfl) (dk_180 (bt bc_Mod_clears_8 7 rfl) (bt bc_Mod_clears_8 8 rfl) (bt bc_Mod_clears_8 9 rfl) (n := 36) rfl) rfl (of_decide_eq_true h13) (fun b15 => ?_)
    refine EJ_iload 268 1 (dk_21 (bt bc_Mod_clears_8 10 rfl) (bt bc_Mod_clears_8 11 rfl)) rfl rfl ?_
    refine EJ_iconst 269 (dk_3 (bt bc_Mod_clears_8 12 rfl)) rfl (v := 0) kI_0 ?_
    refine EJ_ck (fun h16 => ?_)
    refine EJ_iast 270 h16 (dk_79 (bt bc_Mod_clears_8 13 rfl)) rfl ?_
    refine EJ_aload_n 271 0 (dk_42 (bt bc_Mod_clears_8 14 rfl)) rfl rfl ?_
    refine EJ_getR cf12 13 (by decide) 274 tw_1211 (fun _ _ _ => rfl) (dk_180 (bt bc_Mod_clears_8 15 rfl) (bt bc_Mod_clears_8 16 rfl) (bt bc_Mod_clears_8 17 rfl) (n := 42) rfl) rfl (kp_I (of_decide_eq_true h13)) (fun b18 => ?_)
    refine EJ_iload 276 1 (dk_21 (bt bc_Mod_clears_8 18 rfl) (bt bc_Mod_clears_8 19 rfl)) rfl rfl ?_
    refine EJ_iconst 277 (dk_2 (bt bc_Mod_clears_8 20 rfl)) rfl (v := (-1)) kI_m1 ?_
    refine EJ_ck (fun h19 => ?_)
    refine EJ_iast 278 h19 (dk_79 (bt bc_Mod_clears_8 21 rfl)) rfl ?_
    refine EJ_iinc 281 1 (lv2 := [(5, .int _), (0, .ref _)]) (dk_132 (bt bc_Mod_clears_8 22 rfl) (bt bc_Mod_clears_8 23 rfl) (bt bc_Mod_clears_8 24 rfl) (n := 1) rfl) rfl (by decide) rfl (v := 1) kI_1 rfl ?_
    refine EJ_goto 253 (dk_167 (bt bc_Mod_clears_8 25 rfl) (bt bc_Mod_clears_8 26 rfl) (bt bc_Mod_clears_8 27 rfl) (n := -28) rfl) (by decide) ?_
    exact EJ_pick (lv2 := [(0, .ref _), (5, .int _)]) [1, 0] rfl (hk253 _ _ _)
def Mod_clears_L253 (n : Nat) : Nat → Int32 → Mm → Option (Unit × Mm) :=
  match n with
  | 0 => fun _ _ _ => none
  | n + 1 => Mod_clears_B253 (Mod_clears_L253 n)
theorem e_Mod_clears_L253 {G : Gx} : ∀ (n : Nat) (x0 : Nat) (x5 : Int32) (M : Mm), EJ G Y_Mod_clears cvV 7 253 [(0, .ref x0), (5, .int x5)] [] M (Mod_clears_L253 n x0 x5 M) := by
  intro n
  induction n with
  | zero => intros; exact EJ_none
  | succ n ih => intro x0 x5 M; exact e_Mod_clears_B253 _ ih x0 x5 M
def Mod_clears_J235 (x0 : Nat) (M : Mm) : Option (Unit × Mm) :=
  ck (kO M x0 12 107) (
  bd (Mod_asked M x0 8) (fun r10 M11 =>
  ck (!decide (r10 = 0)) (
  if (rm (mI M x0 71) r10) = 0 then (
    Mod_clears_L253 fu x0 0 M11)
  else (
    some ((), M11)))))
set_option maxRecDepth 100000 in
set_option maxHeartbeats 4000000 in
theorem e_Mod_clears_J235 {G : Gx} (x0 : Nat) (M : Mm) : EJ G Y_Mod_clears cvV 7 235 [(0, .ref x0)] [] M (Mod_clears_J235 x0 M) := by
  unfold Mod_clears_J235
  refine EJ_aload_n 236 0 (dk_42 (bt bc_Mod_clears_7 11 rfl)) rfl rfl ?_
  refine EJ_ck (fun h9 => ?_)
  refine EJ_getI cf12 71 (by decide) 239 tw_1269 (fun _ _ _ => rfl) (dk_180 (bt bc_Mod_clears_7 12 rfl) (bt bc_Mod_clears_7 13 rfl) (bt bc_Mod_clears_7 14 rfl) (n := 495) rfl) rfl (of_decide_eq_true h9) ?_
  refine EJ_aload_n 240 0 (dk_42 (bt bc_Mod_clears_7 15 rfl)) rfl rfl ?_
  refine EJ_bipush 242 (dk_16 (bt bc_Mod_clears_7 16 rfl) (bt bc_Mod_clears_7 17 rfl) (n := 8) rfl) rfl (v := 8) kB_8 ?_
  refine EJ_callVi (Y2 := Y_Mod_asked) 245 cf12 (s_Mod_asked G _ _ _) (of_decide_eq_true h9) rfl (dk_182 (bt bc_Mod_clears_7 18 rfl) (bt bc_Mod_clears_7 19 rfl) (bt bc_Mod_clears_7 20 rfl) (n := 302) rfl) rfl tw_1608 tw_1610 ts_44 tw_1611 hd_Mod_asked rfl (by decide) (Nat.le_of_ble_eq_true rfl) (fun r10 M11 => ?_)
  refine EJ_ck (fun h12 => ?_)
  refine EJ_irem 246 (dk_112 (bt bc_Mod_clears_7 21 rfl)) rfl (by simpa using h12) ?_
  refine EJ_if_eq 250 249 (dk_153 (bt bc_Mod_clears_7 22 rfl) (bt bc_Mod_clears_7 23 rfl) (bt bc_Mod_clears_7 24 rfl) (n := 4) rfl) (by decide) rfl (fun _ => ?_) (fun _ => ?_)
  · refine EJ_iconst 251 (dk_3 (bt bc_Mod_clears_7 26 rfl)) rfl (v := 0) kI_0 ?_
    refine EJ_istore 253 (lv2 := [(5, .int _), (0, .ref _)]) (dk_54 (bt bc_Mod_clears_7 27 rfl) (bt bc_Mod_clears_7 28 rfl)) rfl (by decide) rfl ?_
    exact EJ_pick (lv2 := [(0, .ref _), (5, .int _)]) [1, 0] rfl (e_Mod_clears_L253 fu _ _ _)
  · exact EJ_vret rfl (dk_177 (bt bc_Mod_clears_7 25 rfl))
def Mod_clears_B199 (k199 : Nat → Int32 → Int32 → Mm → Option (Unit × Mm)) (x0 : Nat) (x4 : Int32) (x5 : Int32) (M : Mm) : Option (Unit × Mm) :=
  ck (kO M x0 12 107) (
  if (mI M x0 9) ≤ x5 then (
    if 0 ≤ (mL M x0 18) then (
      Mod_clears_J235 x0 M)
    else (
      bd (Mod_bears M x0) (fun _ M23 =>
      Mod_clears_J235 x0 M23)))
  else (
    bd (Mod_margin M x0 x5 x4) (fun _ M25 =>
    let v26 : Int32 := x5 + 1
    k199 x0 x4 v26 M25)))
set_option maxRecDepth 100000 in
set_option maxHeartbeats 4000000 in
theorem e_Mod_clears_B199 {G : Gx} (k199 : Nat → Int32 → Int32 → Mm → Option (Unit × Mm)) (hk199 : ∀ (x0 : Nat) (x4 : Int32) (x5 : Int32) (M : Mm), EJ G Y_Mod_clears cvV 7 199 [(0, .ref x0), (4, .int x4), (5, .int x5)] [] M (k199 x0 x4 x5 M)) (x0 : Nat) (x4 : Int32) (x5 : Int32) (M : Mm) : EJ G Y_Mod_clears cvV 7 199 [(0, .ref x0), (4, .int x4), (5, .int x5)] [] M (Mod_clears_B199 k199 x0 x4 x5 M) := by
  unfold Mod_clears_B199
  refine EJ_iload 201 2 (dk_21 (bt bc_Mod_clears_6 7 rfl) (bt bc_Mod_clears_6 8 rfl)) rfl rfl ?_
  refine EJ_aload_n 202 0 (dk_42 (bt bc_Mod_clears_6 9 rfl)) rfl rfl ?_
  refine EJ_ck (fun h8 => ?_)
  refine EJ_getI cf12 9 (by decide) 205 tw_1207 (fun _ _ _ => rfl) (dk_180 (bt bc_Mod_clears_6 10 rfl) (bt bc_Mod_clears_6 11 rfl) (bt bc_Mod_clears_6 12 rfl) (n := 269) rfl) rfl (of_decide_eq_true h8) ?_
  refine EJ_icmp_ge 222 208 (dk_162 (bt bc_Mod_clears_6 13 rfl) (bt bc_Mod_clears_6 14 rfl) (bt bc_Mod_clears_6 15 rfl) (n := 17) rfl) (by decide) rfl (fun _ => ?_) (fun _ => ?_)
  · refine EJ_aload_n 223 0 (dk_42 (bt bc_Mod_clears_6 30 rfl)) rfl rfl ?_
    refine EJ_getL cf12 18 (by decide) 226 tw_1216 (fun _ _ _ => rfl) (dk_180 (bt bc_Mod_clears_6 31 rfl) (bt bc_Mod_clears_7 0 rfl) (bt bc_Mod_clears_7 1 rfl) (n := 327) rfl) rfl (of_decide_eq_true h8) ?_
    refine EJ_lconst 227 (dk_9 (bt bc_Mod_clears_7 2 rfl)) rfl (v := 0) (by decide) ?_
    refine EJ_lcmp_ge 235 231 (dk_148 (bt bc_Mod_clears_7 3 rfl)) (dk_156 (bt bc_Mod_clears_7 4 rfl) (bt bc_Mod_clears_7 5 rfl) (bt bc_Mod_clears_7 6 rfl) (n := 7) rfl) (by decide) rfl (fun _ => ?_) (fun _ => ?_)
    · exact EJ_pick (lv2 := [(0, .ref _)]) [0] rfl (e_Mod_clears_J235 _ _)
    · refine EJ_aload_n 232 0 (dk_42 (bt bc_Mod_clears_7 7 rfl)) rfl rfl ?_
      refine EJ_callVv (Y2 := Y_Mod_bears) 235 cf12 (s_Mod_bears G _ _) (of_decide_eq_true h8) rfl (dk_182 (bt bc_Mod_clears_7 8 rfl) (bt bc_Mod_clears_7 9 rfl) (bt bc_Mod_clears_7 10 rfl) (n := 538) rfl) rfl tw_1837 tw_1839 ts_73 tw_1840 hd_Mod_bears rfl (by decide) (Nat.le_of_ble_eq_true rfl) (fun _ M23 => ?_)
      exact EJ_pick (lv2 := [(0, .ref _)]) [0] rfl (e_Mod_clears_J235 _ _)
  · refine EJ_aload_n 209 0 (dk_42 (bt bc_Mod_clears_6 16 rfl)) rfl rfl ?_
    refine EJ_iload 211 2 (dk_21 (bt bc_Mod_clears_6 17 rfl) (bt bc_Mod_clears_6 18 rfl)) rfl rfl ?_
    refine EJ_iload 213 1 (dk_21 (bt bc_Mod_clears_6 19 rfl) (bt bc_Mod_clears_6 20 rfl)) rfl rfl ?_
    refine EJ_callVv (Y2 := Y_Mod_margin) 216 cf12 (s_Mod_margin G _ _ _ _) (of_decide_eq_true h8) rfl (dk_182 (bt bc_Mod_clears_6 21 rfl) (bt bc_Mod_clears_6 22 rfl) (bt bc_Mod_clears_6 23 rfl) (n := 535) rfl) rfl tw_1833 tw_1835 ts_72 tw_1836 hd_Mod_margin rfl (by decide) (Nat.le_of_ble_eq_true rfl) (fun _ M25 => ?_)
    refine EJ_iinc 219 2 (lv2 := [(5, .int _), (0, .ref _), (4, .int _)]) (dk_132 (bt bc_Mod_clears_6 24 rfl) (bt bc_Mod_clears_6 25 rfl) (bt bc_Mod_clears_6 26 rfl) (n := 1) rfl) rfl (by decide) rfl (v := 1) kI_1 rfl ?_
    refine EJ_goto 199 (dk_167 (bt bc_Mod_clears_6 27 rfl) (bt bc_Mod_clears_6 28 rfl) (bt bc_Mod_clears_6 29 rfl) (n := -20) rfl) (by decide) ?_
    exact EJ_pick (lv2 := [(0, .ref _), (4, .int _), (5, .int _)]) [1, 2, 0] rfl (hk199 _ _ _ _)
def Mod_clears_L199 (n : Nat) : Nat → Int32 → Int32 → Mm → Option (Unit × Mm) :=
  match n with
  | 0 => fun _ _ _ _ => none
  | n + 1 => Mod_clears_B199 (Mod_clears_L199 n)
theorem e_Mod_clears_L199 {G : Gx} : ∀ (n : Nat) (x0 : Nat) (x4 : Int32) (x5 : Int32) (M : Mm), EJ G Y_Mod_clears cvV 7 199 [(0, .ref x0), (4, .int x4), (5, .int x5)] [] M (Mod_clears_L199 n x0 x4 x5 M) := by
  intro n
  induction n with
  | zero => intros; exact EJ_none
  | succ n ih => intro x0 x4 x5 M; exact e_Mod_clears_B199 _ ih x0 x4 x5 M
def Mod_clears_B63 (k63 : Nat → Int32 → Int32 → Int32 → Mm → Option (Unit × Mm)) (x0 : Nat) (x1 : Int32) (x3 : Int32) (x4 : Int32) (M : Mm) : Option (Unit × Mm) :=
  ck (kO M x0 12 107) (
  nn (mR M x0 79) (fun b4 =>
  ck (kA M b4 20 x1) (
  if (mI M b4 (ix x1)) ≤ x4 then (
    bd (Mod_asked M x0 7) (fun r6 M7 =>
    Mod_clears_L199 fu x0 r6 0 M7))
  else (
    let v27 : Int32 := (60 * x1) + x4
    nn (mR M x0 94) (fun b28 =>
    ck (kA M b28 20 v27) (
    nn (mR M x0 95) (fun b30 =>
    ck (kA M b30 20 v27) (
    let v32 : Int64 := (Int32.toInt64 (mI M b28 (ix v27))) * (Int32.toInt64 (x3 - (mI M b30 (ix v27))))
    nn (mR M x0 11) (fun b33 =>
    nn (mR M x0 89) (fun b34 =>
    ck (kA M b34 20 v27) (
    ck (kA M b33 20 (mI M b34 (ix v27))) (
    nn (mR M x0 94) (fun b37 =>
    ck (kA M b37 20 v27) (
    let M39 := sI M b33 (ix (mI M b34 (ix v27))) ((mI M b33 (ix (mI M b34 (ix v27)))) + (mI M b37 (ix v27)))
    nn (mR M39 x0 16) (fun b40 =>
    nn (mR M39 x0 89) (fun b41 =>
    ck (kA M39 b41 20 v27) (
    ck (kA M39 b40 23 (mI M39 b41 (ix v27))) (
    let M44 := sL M39 b40 (ix (mI M39 b41 (ix v27))) ((mL M39 b40 (ix (mI M39 b41 (ix v27)))) + v32)
    nn (mR M44 x0 11) (fun b45 =>
    nn (mR M44 x0 90) (fun b46 =>
    ck (kA M44 b46 20 v27) (
    ck (kA M44 b45 20 (mI M44 b46 (ix v27))) (
    nn (mR M44 x0 94) (fun b49 =>
    ck (kA M44 b49 20 v27) (
    let M51 := sI M44 b45 (ix (mI M44 b46 (ix v27))) ((mI M44 b45 (ix (mI M44 b46 (ix v27)))) - (mI M44 b49 (ix v27)))
    nn (mR M51 x0 16) (fun b52 =>
    nn (mR M51 x0 90) (fun b53 =>
    ck (kA M51 b53 20 v27) (
    ck (kA M51 b52 23 (mI M51 b53 (ix v27))) (
    let M56 := sL M51 b52 (ix (mI M51 b53 (ix v27))) ((mL M51 b52 (ix (mI M51 b53 (ix v27)))) - v32)
    let v57 : Int32 := x4 + 1
    k63 x0 x1 x3 v57 M56))))))))))))))))))))))))))))
set_option maxRecDepth 100000 in
set_option maxHeartbeats 4000000 in
theorem e_Mod_clears_B63 {G : Gx} (k63 : Nat → Int32 → Int32 → Int32 → Mm → Option (Unit × Mm)) (hk63 : ∀ (x0 : Nat) (x1 : Int32) (x3 : Int32) (x4 : Int32) (M : Mm), EJ G Y_Mod_clears cvV 7 63 [(0, .ref x0), (1, .int x1), (3, .int x3), (4, .int x4)] [] M (k63 x0 x1 x3 x4 M)) (x0 : Nat) (x1 : Int32) (x3 : Int32) (x4 : Int32) (M : Mm) : EJ G Y_Mod_clears cvV 7 63 [(0, .ref x0), (1, .int x1), (3, .int x3), (4, .int x4)] [] M (Mod_clears_B63 k63 x0 x1 x3 x4 M) := by
  unfold Mod_clears_B63
  refine EJ_iload 65 3 (dk_21 (bt bc_Mod_clears_1 31 rfl) (bt bc_Mod_clears_2 0 rfl)) rfl rfl ?_
  refine EJ_aload_n 66 0 (dk_42 (bt bc_Mod_clears_2 1 rfl)) rfl rfl ?_
  refine EJ_ck (fun h3 => ?_)
  refine EJ_getR cf12 79 (by decide) 69 tw_1277 (fun _ _ _ => rfl) (dk_180 (bt bc_Mod_clears_2 2 rfl) (bt bc_Mod_clears_2 3 rfl) (bt bc_Mod_clears_2 4 rfl) (n := 164) rfl) rfl (of_decide_eq_true h3) (fun b4 => ?_)
  refine EJ_iload_n 70 1 (dk_27 (bt bc_Mod_clears_2 5 rfl)) rfl rfl ?_
  refine EJ_ck (fun h5 => ?_)
  refine EJ_iald 71 h5 (dk_46 (bt bc_Mod_clears_2 6 rfl)) rfl ?_
  refine EJ_icmp_ge 188 74 (dk_162 (bt bc_Mod_clears_2 7 rfl) (bt bc_Mod_clears_2 8 rfl) (bt bc_Mod_clears_2 9 rfl) (n := 117) rfl) (by decide) rfl (fun _ => ?_) (fun _ => ?_)
  · refine EJ_aload_n 189 0 (dk_42 (bt bc_Mod_clears_5 28 rfl)) rfl rfl ?_
    refine EJ_bipush 191 (dk_16 (bt bc_Mod_clears_5 29 rfl) (bt bc_Mod_clears_5 30 rfl) (n := 7) rfl) rfl (v := 7) kB_7 ?_
    refine EJ_callVi (Y2 := Y_Mod_asked) 194 cf12 (s_Mod_asked G _ _ _) (of_decide_eq_true h3) rfl (dk_182 (bt bc_Mod_clears_5 31 rfl) (bt bc_Mod_clears_6 0 rfl) (bt bc_Mod_clears_6 1 rfl) (n := 302) rfl) rfl tw_1608 tw_1610 ts_44 tw_1611 hd_Mod_asked rfl (by decide) (Nat.le_of_ble_eq_true rfl) (fun r6 M7 => ?_)
    refine EJ_istore 196 (lv2 := [(4, .int _), (0, .ref _), (1, .int _), (3, .int _)]) (dk_54 (bt bc_Mod_clears_6 2 rfl) (bt bc_Mod_clears_6 3 rfl)) rfl (by decide) rfl ?_
    refine EJ_iconst 197 (dk_3 (bt bc_Mod_clears_6 4 rfl)) rfl (v := 0) kI_0 ?_
    refine EJ_istore 199 (lv2 := [(5, .int _), (4, .int _), (0, .ref _), (1, .int _), (3, .int _)]) (dk_54 (bt bc_Mod_clears_6 5 rfl) (bt bc_Mod_clears_6 6 rfl)) rfl (by decide) rfl ?_
    exact EJ_pick (lv2 := [(0, .ref _), (4, .int _), (5, .int _)]) [2, 1, 0] rfl (e_Mod_clears_L199 fu _ _ _ _)
  · refine EJ_bipush 76 (dk_16 (bt bc_Mod_clears_2 10 rfl) (bt bc_Mod_clears_2 11 rfl) (n := 60) rfl) rfl (v := 60) kB_60 ?_
    refine EJ_iload_n 77 1 (dk_27 (bt bc_Mod_clears_2 12 rfl)) rfl rfl ?_
    refine EJ_imul 78 (dk_104 (bt bc_Mod_clears_2 13 rfl)) rfl ?_
    refine EJ_iload 80 3 (dk_21 (bt bc_Mod_clears_2 14 rfl) (bt bc_Mod_clears_2 15 rfl)) rfl rfl ?_
    refine EJ_iadd 81 (dk_96 (bt bc_Mod_clears_2 16 rfl)) rfl ?_
    refine EJ_istore 83 (lv2 := [(5, .int _), (0, .ref _), (1, .int _), (3, .int _), (4, .int _)]) (dk_54 (bt bc_Mod_clears_2 17 rfl) (bt bc_Mod_clears_2 18 rfl)) rfl (by decide) rfl ?_
    refine EJ_aload_n 84 1 (dk_42 (bt bc_Mod_clears_2 19 rfl)) rfl rfl ?_
    refine EJ_getR cf12 94 (by decide) 87 tw_1292 (fun _ _ _ => rfl) (dk_180 (bt bc_Mod_clears_2 20 rfl) (bt bc_Mod_clears_2 21 rfl) (bt bc_Mod_clears_2 22 rfl) (n := 209) rfl) rfl (of_decide_eq_true h3) (fun b28 => ?_)
    refine EJ_iload 89 0 (dk_21 (bt bc_Mod_clears_2 23 rfl) (bt bc_Mod_clears_2 24 rfl)) rfl rfl ?_
    refine EJ_ck (fun h29 => ?_)
    refine EJ_iald 90 h29 (dk_46 (bt bc_Mod_clears_2 25 rfl)) rfl ?_
    refine EJ_i2l 91 (dk_133 (bt bc_Mod_clears_2 26 rfl)) rfl ?_
    refine EJ_iload_n 92 3 (dk_29 (bt bc_Mod_clears_2 27 rfl)) rfl rfl ?_
    refine EJ_aload_n 93 1 (dk_42 (bt bc_Mod_clears_2 28 rfl)) rfl rfl ?_
    refine EJ_getR cf12 95 (by decide) 96 tw_1293 (fun _ _ _ => rfl) (dk_180 (bt bc_Mod_clears_2 29 rfl) (bt bc_Mod_clears_2 30 rfl) (bt bc_Mod_clears_2 31 rfl) (n := 212) rfl) rfl (of_decide_eq_true h3) (fun b30 => ?_)
    refine EJ_iload 98 0 (dk_21 (bt bc_Mod_clears_3 0 rfl) (bt bc_Mod_clears_3 1 rfl)) rfl rfl ?_
    refine EJ_ck (fun h31 => ?_)
    refine EJ_iald 99 h31 (dk_46 (bt bc_Mod_clears_3 2 rfl)) rfl ?_
    refine EJ_isub 100 (dk_100 (bt bc_Mod_clears_3 3 rfl)) rfl ?_
    refine EJ_i2l 101 (dk_133 (bt bc_Mod_clears_3 4 rfl)) rfl ?_
    refine EJ_lmul 102 (dk_105 (bt bc_Mod_clears_3 5 rfl)) rfl ?_
    refine EJ_lstore 104 (lv2 := [(6, .long _), (5, .int _), (0, .ref _), (1, .int _), (3, .int _), (4, .int _)]) (dk_55 (bt bc_Mod_clears_3 6 rfl) (bt bc_Mod_clears_3 7 rfl)) rfl (by decide) rfl ?_
    refine EJ_aload_n 105 2 (dk_42 (bt bc_Mod_clears_3 8 rfl)) rfl rfl ?_
    refine EJ_getR cf12 11 (by decide) 108 tw_1209 (fun _ _ _ => rfl) (dk_180 (bt bc_Mod_clears_3 9 rfl) (bt bc_Mod_clears_3 10 rfl) (bt bc_Mod_clears_3 11 rfl) (n := 36) rfl) rfl (of_decide_eq_true h3) (fun b33 => ?_)
    refine EJ_aload_n 109 2 (dk_42 (bt bc_Mod_clears_3 12 rfl)) rfl rfl ?_
    refine EJ_getR cf12 89 (by decide) 112 tw_1287 (fun _ _ _ => rfl) (dk_180 (bt bc_Mod_clears_3 13 rfl) (bt bc_Mod_clears_3 14 rfl) (bt bc_Mod_clears_3 15 rfl) (n := 194) rfl) rfl (of_decide_eq_true h3) (fun b34 => ?_)
    refine EJ_iload 114 1 (dk_21 (bt bc_Mod_clears_3 16 rfl) (bt bc_Mod_clears_3 17 rfl)) rfl rfl ?_
    refine EJ_ck (fun h35 => ?_)
    refine EJ_iald 115 h35 (dk_46 (bt bc_Mod_clears_3 18 rfl)) rfl ?_
    refine EJ_dup2 116 (dk_92 (bt bc_Mod_clears_3 19 rfl)) rfl rfl rfl ?_
    refine EJ_ck (fun h36 => ?_)
    refine EJ_iald 117 h36 (dk_46 (bt bc_Mod_clears_3 20 rfl)) rfl ?_
    refine EJ_aload_n 118 2 (dk_42 (bt bc_Mod_clears_3 21 rfl)) rfl rfl ?_
    refine EJ_getR cf12 94 (by decide) 121 tw_1292 (fun _ _ _ => rfl) (dk_180 (bt bc_Mod_clears_3 22 rfl) (bt bc_Mod_clears_3 23 rfl) (bt bc_Mod_clears_3 24 rfl) (n := 209) rfl) rfl (of_decide_eq_true h3) (fun b37 => ?_)
    refine EJ_iload 123 1 (dk_21 (bt bc_Mod_clears_3 25 rfl) (bt bc_Mod_clears_3 26 rfl)) rfl rfl ?_
    refine EJ_ck (fun h38 => ?_)
    refine EJ_iald 124 h38 (dk_46 (bt bc_Mod_clears_3 27 rfl)) rfl ?_
    refine EJ_iadd 125 (dk_96 (bt bc_Mod_clears_3 28 rfl)) rfl ?_
    refine EJ_iast 126 h36 (dk_79 (bt bc_Mod_clears_3 29 rfl)) rfl ?_
    refine EJ_aload_n 127 2 (dk_42 (bt bc_Mod_clears_3 30 rfl)) rfl rfl ?_
    refine EJ_getR cf12 16 (by decide) 130 tw_1214 (fun _ _ _ => rfl) (dk_180 (bt bc_Mod_clears_3 31 rfl) (bt bc_Mod_clears_4 0 rfl) (bt bc_Mod_clears_4 1 rfl) (n := 51) rfl) rfl (kp_I (of_decide_eq_true h3)) (fun b40 => ?_)
    refine EJ_aload_n 131 2 (dk_42 (bt bc_Mod_clears_4 2 rfl)) rfl rfl ?_
    refine EJ_getR cf12 89 (by decide) 134 tw_1287 (fun _ _ _ => rfl) (dk_180 (bt bc_Mod_clears_4 3 rfl) (bt bc_Mod_clears_4 4 rfl) (bt bc_Mod_clears_4 5 rfl) (n := 194) rfl) rfl (kp_I (of_decide_eq_true h3)) (fun b41 => ?_)
    refine EJ_iload 136 1 (dk_21 (bt bc_Mod_clears_4 6 rfl) (bt bc_Mod_clears_4 7 rfl)) rfl rfl ?_
    refine EJ_ck (fun h42 => ?_)
    refine EJ_iald 137 h42 (dk_46 (bt bc_Mod_clears_4 8 rfl)) rfl ?_
    refine EJ_dup2 138 (dk_92 (bt bc_Mod_clears_4 9 rfl)) rfl rfl rfl ?_
    refine EJ_ck (fun h43 => ?_)
    refine EJ_lald 139 h43 (dk_47 (bt bc_Mod_clears_4 10 rfl)) rfl ?_
    refine EJ_lload 141 0 (dk_22 (bt bc_Mod_clears_4 11 rfl) (bt bc_Mod_clears_4 12 rfl)) rfl rfl ?_
    refine EJ_ladd 142 (dk_97 (bt bc_Mod_clears_4 13 rfl)) rfl ?_
    refine EJ_last 143 h43 (dk_80 (bt bc_Mod_clears_4 14 rfl)) rfl ?_
    refine EJ_aload_n 144 2 (dk_42 (bt bc_Mod_clears_4 15 rfl)) rfl rfl ?_
    refine EJ_getR cf12 11 (by decide) 147 tw_1209 (fun _ _ _ => rfl) (dk_180 (bt bc_Mod_clears_4 16 rfl) (bt bc_Mod_clears_4 17 rfl) (bt bc_Mod_clears_4 18 rfl) (n := 36) rfl) rfl (kp_L (kp_I (of_decide_eq_true h3))) (fun b45 => ?_)
    refine EJ_aload_n 148 2 (dk_42 (bt bc_Mod_clears_4 19 rfl)) rfl rfl ?_
    refine EJ_getR cf12 90 (by decide) 151 tw_1288 (fun _ _ _ => rfl) (dk_180 (bt bc_Mod_clears_4 20 rfl) (bt bc_Mod_clears_4 21 rfl) (bt bc_Mod_clears_4 22 rfl) (n := 197) rfl) rfl (kp_L (kp_I (of_decide_eq_true h3))) (fun b46 => ?_)
    refine EJ_iload 153 1 (dk_21 (bt bc_Mod_clears_4 23 rfl) (bt bc_Mod_clears_4 24 rfl)) rfl rfl ?_
    refine EJ_ck (fun h47 => ?_)
    refine EJ_iald 154 h47 (dk_46 (bt bc_Mod_clears_4 25 rfl)) rfl ?_
    refine EJ_dup2 155 (dk_92 (bt bc_Mod_clears_4 26 rfl)) rfl rfl rfl ?_
    refine EJ_ck (fun h48 => ?_)
    refine EJ_iald 156 h48 (dk_46 (bt bc_Mod_clears_4 27 rfl)) rfl ?_
    refine EJ_aload_n 157 2 (dk_42 (bt bc_Mod_clears_4 28 rfl)) rfl rfl ?_
    refine EJ_getR cf12 94 (by decide) 160 tw_1292 (fun _ _ _ => rfl) (dk_180 (bt bc_Mod_clears_4 29 rfl) (bt bc_Mod_clears_4 30 rfl) (bt bc_Mod_clears_4 31 rfl) (n := 209) rfl) rfl (kp_L (kp_I (of_decide_eq_true h3))) (fun b49 => ?_)
    refine EJ_iload 162 1 (dk_21 (bt bc_Mod_clears_5 0 rfl) (bt bc_Mod_clears_5 1 rfl)) rfl rfl ?_
    refine EJ_ck (fun h50 => ?_)
    refine EJ_iald 163 h50 (dk_46 (bt bc_Mod_clears_5 2 rfl)) rfl ?_
    refine EJ_isub 164 (dk_100 (bt bc_Mod_clears_5 3 rfl)) rfl ?_
    refine EJ_iast 165 h48 (dk_79 (bt bc_Mod_clears_5 4 rfl)) rfl ?_
    refine EJ_aload_n 166 2 (dk_42 (bt bc_Mod_clears_5 5 rfl)) rfl rfl ?_
    refine EJ_getR cf12 16 (by decide) 169 tw_1214 (fun _ _ _ => rfl) (dk_180 (bt bc_Mod_clears_5 6 rfl) (bt bc_Mod_clears_5 7 rfl) (bt bc_Mod_clears_5 8 rfl) (n := 51) rfl) rfl (kp_I (kp_L (kp_I (of_decide_eq_true h3)))) (fun b52 => ?_)
    refine EJ_aload_n 170 2 (dk_42 (bt bc_Mod_clears_5 9 rfl)) rfl rfl ?_
    refine EJ_getR cf12 90 (by decide) 173 tw_1288 (fun _ _ _ => rfl) (dk_180 (bt bc_Mod_clears_5 10 rfl) (bt bc_Mod_clears_5 11 rfl) (bt bc_Mod_clears_5 12 rfl) (n := 197) rfl) rfl (kp_I (kp_L (kp_I (of_decide_eq_true h3)))) (fun b53 => ?_)
    refine EJ_iload 175 1 (dk_21 (bt bc_Mod_clears_5 13 rfl) (bt bc_Mod_clears_5 14 rfl)) rfl rfl ?_
    refine EJ_ck (fun h54 => ?_)
    refine EJ_iald 176 h54 (dk_46 (bt bc_Mod_clears_5 15 rfl)) rfl ?_
    refine EJ_dup2 177 (dk_92 (bt bc_Mod_clears_5 16 rfl)) rfl rfl rfl ?_
    refine EJ_ck (fun h55 => ?_)
    refine EJ_lald 178 h55 (dk_47 (bt bc_Mod_clears_5 17 rfl)) rfl ?_
    refine EJ_lload 180 0 (dk_22 (bt bc_Mod_clears_5 18 rfl) (bt bc_Mod_clears_5 19 rfl)) rfl rfl ?_
    refine EJ_lsub 181 (dk_101 (bt bc_Mod_clears_5 20 rfl)) rfl ?_
    refine EJ_last 182 h55 (dk_80 (bt bc_Mod_clears_5 21 rfl)) rfl ?_
    refine EJ_iinc 185 5 (lv2 := [(4, .int _), (6, .long _), (5, .int _), (0, .ref _), (1, .int _), (3, .int _)]) (dk_132 (bt bc_Mod_clears_5 22 rfl) (bt bc_Mod_clears_5 23 rfl) (bt bc_Mod_clears_5 24 rfl) (n := 1) rfl) rfl (by decide) rfl (v := 1) kI_1 rfl ?_
    refine EJ_goto 63 (dk_167 (bt bc_Mod_clears_5 25 rfl) (bt bc_Mod_clears_5 26 rfl) (bt bc_Mod_clears_5 27 rfl) (n := -122) rfl) (by decide) ?_
    exact EJ_pick (lv2 := [(0, .ref _), (1, .int _), (3, .int _), (4, .int _)]) [3, 4, 5, 0] rfl (hk63 _ _ _ _ _)
def Mod_clears_L63 (n : Nat) : Nat → Int32 → Int32 → Int32 → Mm → Option (Unit × Mm) :=
  match n with
  | 0 => fun _ _ _ _ _ => none
  | n + 1 => Mod_clears_B63 (Mod_clears_L63 n)
theorem e_Mod_clears_L63 {G : Gx} : ∀ (n : Nat) (x0 : Nat) (x1 : Int32) (x3 : Int32) (x4 : Int32) (M : Mm), EJ G Y_Mod_clears cvV 7 63 [(0, .ref x0), (1, .int x1), (3, .int x3), (4, .int x4)] [] M (Mod_clears_L63 n x0 x1 x3 x4 M) := by
  intro n
  induction n with
  | zero => intros; exact EJ_none
  | succ n ih => intro x0 x1 x3 x4 M; exact e_Mod_clears_B63 _ ih x0 x1 x3 x4 M
def Mod_clears_B3 (k3 : Nat → Int32 → Int32 → Int32 → Int32 → Mm → Option (Unit × Mm)) (x0 : Nat) (x1 : Int32) (x2 : Int32) (x3 : Int32) (x4 : Int32) (M : Mm) : Option (Unit × Mm) :=
  ck (kO M x0 12 107) (
  if (mI M x0 9) ≤ x4 then (
    let M2 := sL M x0 18 ((mL M x0 18) + ((Int32.toInt64 (mI M x0 21)) * (Int32.toInt64 (x3 - x2))))
    Mod_clears_L63 fu x0 x1 x3 0 M2)
  else (
    nn (mR M x0 16) (fun b58 =>
    ck (kA M b58 23 x4) (
    nn (mR M x0 11) (fun b60 =>
    ck (kA M b60 20 x4) (
    let M62 := sL M b58 (ix x4) ((mL M b58 (ix x4)) + ((Int32.toInt64 (mI M b60 (ix x4))) * (Int32.toInt64 (x3 - x2))))
    let v63 : Int32 := x4 + 1
    k3 x0 x1 x2 x3 v63 M62))))))
set_option maxRecDepth 100000 in
set_option maxHeartbeats 4000000 in
theorem e_Mod_clears_B3 {G : Gx} (k3 : Nat → Int32 → Int32 → Int32 → Int32 → Mm → Option (Unit × Mm)) (hk3 : ∀ (x0 : Nat) (x1 : Int32) (x2 : Int32) (x3 : Int32) (x4 : Int32) (M : Mm), EJ G Y_Mod_clears cvV 7 3 [(0, .ref x0), (1, .int x1), (2, .int x2), (3, .int x3), (4, .int x4)] [] M (k3 x0 x1 x2 x3 x4 M)) (x0 : Nat) (x1 : Int32) (x2 : Int32) (x3 : Int32) (x4 : Int32) (M : Mm) : EJ G Y_Mod_clears cvV 7 3 [(0, .ref x0), (1, .int x1), (2, .int x2), (3, .int x3), (4, .int x4)] [] M (Mod_clears_B3 k3 x0 x1 x2 x3 x4 M) := by
  unfold Mod_clears_B3
  refine EJ_iload 5 4 (dk_21 (bt bc_Mod_clears_0 3 rfl) (bt bc_Mod_clears_0 4 rfl)) rfl rfl ?_
  refine EJ_aload_n 6 0 (dk_42 (bt bc_Mod_clears_0 5 rfl)) rfl rfl ?_
  refine EJ_ck (fun h1 => ?_)
  refine EJ_getI cf12 9 (by decide) 9 tw_1207 (fun _ _ _ => rfl) (dk_180 (bt bc_Mod_clears_0 6 rfl) (bt bc_Mod_clears_0 7 rfl) (bt bc_Mod_clears_0 8 rfl) (n := 269) rfl) rfl (of_decide_eq_true h1) ?_
  refine EJ_icmp_ge 41 12 (dk_162 (bt bc_Mod_clears_0 9 rfl) (bt bc_Mod_clears_0 10 rfl) (bt bc_Mod_clears_0 11 rfl) (n := 32) rfl) (by decide) rfl (fun _ => ?_) (fun _ => ?_)
  · refine EJ_aload_n 42 0 (dk_42 (bt bc_Mod_clears_1 9 rfl)) rfl rfl ?_
    refine EJ_dup 43 (dk_89 (bt bc_Mod_clears_1 10 rfl)) rfl rfl ?_
    refine EJ_getL cf12 18 (by decide) 46 tw_1216 (fun _ _ _ => rfl) (dk_180 (bt bc_Mod_clears_1 11 rfl) (bt bc_Mod_clears_1 12 rfl) (bt bc_Mod_clears_1 13 rfl) (n := 327) rfl) rfl (of_decide_eq_true h1) ?_
    refine EJ_aload_n 47 0 (dk_42 (bt bc_Mod_clears_1 14 rfl)) rfl rfl ?_
    refine EJ_getI cf12 21 (by decide) 50 tw_1219 (fun _ _ _ => rfl) (dk_180 (bt bc_Mod_clears_1 15 rfl) (bt bc_Mod_clears_1 16 rfl) (bt bc_Mod_clears_1 17 rfl) (n := 532) rfl) rfl (of_decide_eq_true h1) ?_
    refine EJ_i2l 51 (dk_133 (bt bc_Mod_clears_1 18 rfl)) rfl ?_
    refine EJ_iload_n 52 3 (dk_29 (bt bc_Mod_clears_1 19 rfl)) rfl rfl ?_
    refine EJ_iload_n 53 2 (dk_28 (bt bc_Mod_clears_1 20 rfl)) rfl rfl ?_
    refine EJ_isub 54 (dk_100 (bt bc_Mod_clears_1 21 rfl)) rfl ?_
    refine EJ_i2l 55 (dk_133 (bt bc_Mod_clears_1 22 rfl)) rfl ?_
    refine EJ_lmul 56 (dk_105 (bt bc_Mod_clears_1 23 rfl)) rfl ?_
    refine EJ_ladd 57 (dk_97 (bt bc_Mod_clears_1 24 rfl)) rfl ?_
    refine EJ_putL cf12 18 (by decide) 60 tw_1216 rfl (Or.inl rfl) (dk_181 (bt bc_Mod_clears_1 25 rfl) (bt bc_Mod_clears_1 26 rfl) (bt bc_Mod_clears_1 27 rfl) (n := 327) rfl) rfl (of_decide_eq_true h1) ?_
    refine EJ_iconst 61 (dk_3 (bt bc_Mod_clears_1 28 rfl)) rfl (v := 0) kI_0 ?_
    refine EJ_istore 63 (lv2 := [(4, .int _), (0, .ref _), (1, .int _), (2, .int _), (3, .int _)]) (dk_54 (bt bc_Mod_clears_1 29 rfl) (bt bc_Mod_clears_1 30 rfl)) rfl (by decide) rfl ?_
    exact EJ_pick (lv2 := [(0, .ref _), (1, .int _), (3, .int _), (4, .int _)]) [1, 2, 4, 0] rfl (e_Mod_clears_L63 fu _ _ _ _ _)
  · refine EJ_aload_n 13 0 (dk_42 (bt bc_Mod_clears_0 12 rfl)) rfl rfl ?_
    refine EJ_getR cf12 16 (by decide) 16 tw_1214 (fun _ _ _ => rfl) (dk_180 (bt bc_Mod_clears_0 13 rfl) (bt bc_Mod_clears_0 14 rfl) (bt bc_Mod_clears_0 15 rfl) (n := 51) rfl) rfl (of_decide_eq_true h1) (fun b58 => ?_)
    refine EJ_iload 18 4 (dk_21 (bt bc_Mod_clears_0 16 rfl) (bt bc_Mod_clears_0 17 rfl)) rfl rfl ?_
    refine EJ_dup2 19 (dk_92 (bt bc_Mod_clears_0 18 rfl)) rfl rfl rfl ?_
    refine EJ_ck (fun h59 => ?_)
    refine EJ_lald 20 h59 (dk_47 (bt bc_Mod_clears_0 19 rfl)) rfl ?_
    refine EJ_aload_n 21 0 (dk_42 (bt bc_Mod_clears_0 20 rfl)) rfl rfl ?_
    refine EJ_getR cf12 11 (by decide) 24 tw_1209 (fun _ _ _ => rfl) (dk_180 (bt bc_Mod_clears_0 21 rfl) (bt bc_Mod_clears_0 22 rfl) (bt bc_Mod_clears_0 23 rfl) (n := 36) rfl) rfl (of_decide_eq_true h1) (fun b60 => ?_)
    refine EJ_iload 26 4 (dk_21 (bt bc_Mod_clears_0 24 rfl) (bt bc_Mod_clears_0 25 rfl)) rfl rfl ?_
    refine EJ_ck (fun h61 => ?_)
    refine EJ_iald 27 h61 (dk_46 (bt bc_Mod_clears_0 26 rfl)) rfl ?_
    refine EJ_i2l 28 (dk_133 (bt bc_Mod_clears_0 27 rfl)) rfl ?_
    refine EJ_iload_n 29 3 (dk_29 (bt bc_Mod_clears_0 28 rfl)) rfl rfl ?_
    refine EJ_iload_n 30 2 (dk_28 (bt bc_Mod_clears_0 29 rfl)) rfl rfl ?_
    refine EJ_isub 31 (dk_100 (bt bc_Mod_clears_0 30 rfl)) rfl ?_
    refine EJ_i2l 32 (dk_133 (bt bc_Mod_clears_0 31 rfl)) rfl ?_
    refine EJ_lmul 33 (dk_105 (bt bc_Mod_clears_1 0 rfl)) rfl ?_
    refine EJ_ladd 34 (dk_97 (bt bc_Mod_clears_1 1 rfl)) rfl ?_
    refine EJ_last 35 h59 (dk_80 (bt bc_Mod_clears_1 2 rfl)) rfl ?_
    refine EJ_iinc 38 4 (lv2 := [(4, .int _), (0, .ref _), (1, .int _), (2, .int _), (3, .int _)]) (dk_132 (bt bc_Mod_clears_1 3 rfl) (bt bc_Mod_clears_1 4 rfl) (bt bc_Mod_clears_1 5 rfl) (n := 1) rfl) rfl (by decide) rfl (v := 1) kI_1 rfl ?_
    refine EJ_goto 3 (dk_167 (bt bc_Mod_clears_1 6 rfl) (bt bc_Mod_clears_1 7 rfl) (bt bc_Mod_clears_1 8 rfl) (n := -35) rfl) (by decide) ?_
    exact EJ_pick (lv2 := [(0, .ref _), (1, .int _), (2, .int _), (3, .int _), (4, .int _)]) [1, 2, 3, 4, 0] rfl (hk3 _ _ _ _ _ _)
def Mod_clears_L3 (n : Nat) : Nat → Int32 → Int32 → Int32 → Int32 → Mm → Option (Unit × Mm) :=
  match n with
  | 0 => fun _ _ _ _ _ _ => none
  | n + 1 => Mod_clears_B3 (Mod_clears_L3 n)
theorem e_Mod_clears_L3 {G : Gx} : ∀ (n : Nat) (x0 : Nat) (x1 : Int32) (x2 : Int32) (x3 : Int32) (x4 : Int32) (M : Mm), EJ G Y_Mod_clears cvV 7 3 [(0, .ref x0), (1, .int x1), (2, .int x2), (3, .int x3), (4, .int x4)] [] M (Mod_clears_L3 n x0 x1 x2 x3 x4 M) := by
  intro n
  induction n with
  | zero => intros; exact EJ_none
  | succ n ih => intro x0 x1 x2 x3 x4 M; exact e_Mod_clears_B3 _ ih x0 x1 x2 x3 x4 M
def Mod_clears (M : Mm) (a0 : Nat) (a1 : Int32) (a2 : Int32) (a3 : Int32) : Option (Unit × Mm) :=
  Mod_clears_L3 fu a0 a1 a2 a3 0 M
set_option maxRecDepth 100000 in
set_option maxHeartbeats 4000000 in
theorem s_Mod_clears (G : Gx) (M : Mm) (a0 : Nat) (a1 : Int32) (a2 : Int32) (a3 : Int32) : FnS G Y_Mod_clears cvV 7 [.ref a0, .int a1, .int a2, .int a3] M (Mod_clears M a0 a1 a2 a3) := by
  refine FnS.ofE (by decide) (Nat.le_of_ble_eq_true rfl) ?_
  show EJ G Y_Mod_clears cvV 7 0 [(0, .ref a0), (1, .int a1), (2, .int a2), (3, .int a3)] [] M _
  unfold Mod_clears
  refine EJ_iconst 1 (dk_3 (bt bc_Mod_clears_0 0 rfl)) rfl (v := 0) kI_0 ?_
  refine EJ_istore 3 (lv2 := [(4, .int _), (0, .ref _), (1, .int _), (2, .int _), (3, .int _)]) (dk_54 (bt bc_Mod_clears_0 1 rfl) (bt bc_Mod_clears_0 2 rfl)) rfl (by decide) rfl ?_
  exact EJ_pick (lv2 := [(0, .ref _), (1, .int _), (2, .int _), (3, .int _), (4, .int _)]) [1, 2, 3, 4, 0] rfl (e_Mod_clears_L3 fu _ _ _ _ _ _)
