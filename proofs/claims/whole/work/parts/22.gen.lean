abbrev Y_Mod_come : Ym := (⟨"RiceHallModel", "come", "(II)I"⟩, prog_14_method_25_code, 3, (some FieldType.int))
theorem bc_Mod_come_0 : bts prog_14_method_25_code 0 [42, 27, 182, 1, 19, 153, 0, 28, 28, 4, 17, 39, 15, 184, 0, 252, 153, 0, 17, 42, 180, 0, 58, 27, 46, 28, 96, 19, 1, 45, 164, 0] := bts_of (by decide +kernel)
theorem bc_Mod_come_1 : bts prog_14_method_25_code 32 [5, 2, 172, 42, 180, 0, 58, 27, 92, 46, 28, 96, 79, 42, 27, 182, 1, 42, 172] := bts_of (by decide +kernel)
theorem hd_Mod_come : Y_Mod_come.1.cls = RX12 ∧ Y_Mod_come.1.cls ≠ "java/lang/invoke/MethodHandle" ∧ Y_Mod_come.1.cls ≠ "java/lang/invoke/VarHandle" ∧ (parseMethodDescriptor Y_Mod_come.1.desc).map (fun d => d.parameters.length) = some 2 := by decide +kernel
def Mod_come (M : Mm) (a0 : Nat) (a1 : Int32) (a2 : Int32) : Option (Int32 × Mm) :=
  ck (kO M a0 12 107) (
  bd (Mod_isStore M a0 a1) (fun r2 M3 =>
  if r2 = 0 then (
    some ((-1), M3))
  else (
    bd (Mod_in M3 a2 1 9999) (fun r4 M5 =>
    if r4 = 0 then (
      some ((-1), M5))
    else (
      ck (kO M5 a0 12 107) (
      nn (mR M5 a0 25) (fun b7 =>
      ck (kA M5 b7 20 a1) (
      if ((mI M5 b7 (ix a1)) + a2) ≤ 99999 then (
        nn (mR M5 a0 25) (fun b9 =>
        ck (kA M5 b9 20 a1) (
        let M11 := sI M5 b9 (ix a1) ((mI M5 b9 (ix a1)) + a2)
        bd (Mod_serves M11 a0 a1) (fun r12 M13 =>
        some (r12, M13)))))
      else (
        some ((-1), M5))))))))))
set_option maxRecDepth 100000 in
set_option maxHeartbeats 4000000 in
theorem s_Mod_come (G : Gx) (M : Mm) (a0 : Nat) (a1 : Int32) (a2 : Int32) : FnS G Y_Mod_come cvI 3 [.ref a0, .int a1, .int a2] M (Mod_come M a0 a1 a2) := by
  refine FnS.ofE (by decide) (Nat.le_of_ble_eq_true rfl) ?_
  show EJ G Y_Mod_come cvI 3 0 [(0, .ref a0), (1, .int a1), (2, .int a2)] [] M _
  unfold Mod_come
  refine EJ_aload_n 1 0 (dk_42 (bt bc_Mod_come_0 0 rfl)) rfl rfl ?_
  refine EJ_iload_n 2 1 (dk_27 (bt bc_Mod_come_0 1 rfl)) rfl rfl ?_
  refine EJ_ck (fun h1 => ?_)
  refine EJ_callVi (Y2 := Y_Mod_isStore) 5 cf12 (s_Mod_isStore G _ _ _) (of_decide_eq_true h1) rfl (dk_182 (bt bc_Mod_come_0 2 rfl) (bt bc_Mod_come_0 3 rfl) (bt bc_Mod_come_0 4 rfl) (n := 275) rfl) rfl tw_1572 tw_1574 ts_40 tw_1575 hd_Mod_isStore rfl (by decide) (Nat.le_of_ble_eq_true rfl) (fun r2 M3 => ?_)
  refine EJ_if_eq 33 8 (dk_153 (bt bc_Mod_come_0 5 rfl) (bt bc_Mod_come_0 6 rfl) (bt bc_Mod_come_0 7 rfl) (n := 28) rfl) (by decide) rfl (fun _ => ?_) (fun _ => ?_)
  · refine EJ_iconst 34 (dk_2 (bt bc_Mod_come_1 1 rfl)) rfl (v := (-1)) kI_m1 ?_
    exact EJ_iret rfl (dk_172 (bt bc_Mod_come_1 2 rfl))
  · refine EJ_iload_n 9 2 (dk_28 (bt bc_Mod_come_0 8 rfl)) rfl rfl ?_
    refine EJ_iconst 10 (dk_4 (bt bc_Mod_come_0 9 rfl)) rfl (v := 1) kI_1 ?_
    refine EJ_sipush 13 (dk_17 (bt bc_Mod_come_0 10 rfl) (bt bc_Mod_come_0 11 rfl) (bt bc_Mod_come_0 12 rfl) (n := 9999) rfl) rfl (v := 9999) kS_9999 ?_
    refine EJ_callSi (Y2 := Y_Mod_in) 16 (s_Mod_in G _ _ _ _) rfl (dk_184 (bt bc_Mod_come_0 13 rfl) (bt bc_Mod_come_0 14 rfl) (bt bc_Mod_come_0 15 rfl) (n := 252) rfl) rfl tw_1532 tw_1533 tw_8 tw_1534 hd_Mod_in rfl (by decide) (Nat.le_of_ble_eq_true rfl) (fun r4 M5 => ?_)
    refine EJ_if_eq 33 19 (dk_153 (bt bc_Mod_come_0 16 rfl) (bt bc_Mod_come_0 17 rfl) (bt bc_Mod_come_0 18 rfl) (n := 17) rfl) (by decide) rfl (fun _ => ?_) (fun _ => ?_)
    · refine EJ_iconst 34 (dk_2 (bt bc_Mod_come_1 1 rfl)) rfl (v := (-1)) kI_m1 ?_
      exact EJ_iret rfl (dk_172 (bt bc_Mod_come_1 2 rfl))
    · refine EJ_aload_n 20 0 (dk_42 (bt bc_Mod_come_0 19 rfl)) rfl rfl ?_
      refine EJ_ck (fun h6 => ?_)
      refine EJ_getR cf12 25 (by decide) 23 tw_1223 (fun _ _ _ => rfl) (dk_180 (bt bc_Mod_come_0 20 rfl) (bt bc_Mod_come_0 21 rfl) (bt bc_Mod_come_0 22 rfl) (n := 58) rfl) rfl (of_decide_eq_true h6) (fun b7 => ?_)
      refine EJ_iload_n 24 1 (dk_27 (bt bc_Mod_come_0 23 rfl)) rfl rfl ?_
      refine EJ_ck (fun h8 => ?_)
      refine EJ_iald 25 h8 (dk_46 (bt bc_Mod_come_0 24 rfl)) rfl ?_
      refine EJ_iload_n 26 2 (dk_28 (bt bc_Mod_come_0 25 rfl)) rfl rfl ?_
      refine EJ_iadd 27 (dk_96 (bt bc_Mod_come_0 26 rfl)) rfl ?_
      refine EJ_ldcw 30 (dk_19 (bt bc_Mod_come_0 27 rfl) (bt bc_Mod_come_0 28 rfl) (bt bc_Mod_come_0 29 rfl) (n := 301) rfl) rfl tw_1603 ?_
      refine EJ_icmp_le 35 33 (dk_164 (bt bc_Mod_come_0 30 rfl) (bt bc_Mod_come_0 31 rfl) (bt bc_Mod_come_1 0 rfl) (n := 5) rfl) (by decide) rfl (fun _ => ?_) (fun _ => ?_)
      · refine EJ_aload_n 36 0 (dk_42 (bt bc_Mod_come_1 3 rfl)) rfl rfl ?_
        refine EJ_getR cf12 25 (by decide) 39 tw_1223 (fun _ _ _ => rfl) (dk_180 (bt bc_Mod_come_1 4 rfl) (bt bc_Mod_come_1 5 rfl) (bt bc_Mod_come_1 6 rfl) (n := 58) rfl) rfl (of_decide_eq_true h6) (fun b9 => ?_)
        refine EJ_iload_n 40 1 (dk_27 (bt bc_Mod_come_1 7 rfl)) rfl rfl ?_
        refine EJ_dup2 41 (dk_92 (bt bc_Mod_come_1 8 rfl)) rfl rfl rfl ?_
        refine EJ_ck (fun h10 => ?_)
        refine EJ_iald 42 h10 (dk_46 (bt bc_Mod_come_1 9 rfl)) rfl ?_
        refine EJ_iload_n 43 2 (dk_28 (bt bc_Mod_come_1 10 rfl)) rfl rfl ?_
        refine EJ_iadd 44 (dk_96 (bt bc_Mod_come_1 11 rfl)) rfl ?_
        refine EJ_iast 45 h10 (dk_79 (bt bc_Mod_come_1 12 rfl)) rfl ?_
        refine EJ_aload_n 46 0 (dk_42 (bt bc_Mod_come_1 13 rfl)) rfl rfl ?_
        refine EJ_iload_n 47 1 (dk_27 (bt bc_Mod_come_1 14 rfl)) rfl rfl ?_
        refine EJ_callVi (Y2 := Y_Mod_serves) 50 cf12 (s_Mod_serves G _ _ _) (kp_I (of_decide_eq_true h6)) rfl (dk_182 (bt bc_Mod_come_1 15 rfl) (bt bc_Mod_come_1 16 rfl) (bt bc_Mod_come_1 17 rfl) (n := 298) rfl) rfl tw_1592 tw_1594 ts_43 tw_1595 hd_Mod_serves rfl (by decide) (Nat.le_of_ble_eq_true rfl) (fun r12 M13 => ?_)
        exact EJ_iret rfl (dk_172 (bt bc_Mod_come_1 18 rfl))
      · refine EJ_iconst 34 (dk_2 (bt bc_Mod_come_1 1 rfl)) rfl (v := (-1)) kI_m1 ?_
        exact EJ_iret rfl (dk_172 (bt bc_Mod_come_1 2 rfl))
abbrev Y_Mod_bare : Ym := (⟨"RiceHallModel", "bare", "(I)I"⟩, prog_14_method_59_code, 1, (some FieldType.int))
theorem bc_Mod_bare_0 : bts prog_14_method_59_code 0 [26, 170, 0, 0, 0, 0, 0, 72, 0, 0, 0, 1, 0, 0, 0, 8, 0, 0, 0, 47, 0, 0, 0, 51, 0, 0, 0, 54, 0, 0, 0, 58] := bts_of (by decide +kernel)
theorem bc_Mod_bare_1 : bts prog_14_method_59_code 32 [0, 0, 0, 61, 0, 0, 0, 63, 0, 0, 0, 66, 0, 0, 0, 70, 19, 1, 45, 172, 16, 10, 172, 17, 2, 88, 172, 16, 10, 172, 4, 172] := bts_of (by decide +kernel)
theorem bc_Mod_bare_2 : bts prog_14_method_59_code 64 [16, 10, 172, 17, 5, 160, 172, 7, 172, 3, 172] := bts_of (by decide +kernel)
theorem hd_Mod_bare : Y_Mod_bare.1.cls ≠ "java/lang/invoke/MethodHandle" ∧ Y_Mod_bare.1.cls ≠ "java/lang/invoke/VarHandle" ∧ (parseMethodDescriptor Y_Mod_bare.1.desc).map (fun d => d.parameters.length) = some 1 := by decide +kernel
set_option maxRecDepth 100000 in
theorem ds_Mod_bare_1 : decode prog_14_method_59_code 1 = .ok (.tableswitch (72) (1) (8) #[47, 51, 54, 58, 61, 63, 66, 70], 47) := by decide +kernel
def Mod_bare (M : Mm) (a0 : Int32) : Option (Int32 × Mm) :=
  if a0 = 1 then (
    some (99999, M))
  else (
  if a0 = 2 then (
    some (10, M))
  else (
  if a0 = 3 then (
    some (600, M))
  else (
  if a0 = 4 then (
    some (10, M))
  else (
  if a0 = 5 then (
    some (1, M))
  else (
  if a0 = 6 then (
    some (10, M))
  else (
  if a0 = 7 then (
    some (1440, M))
  else (
  if a0 = 8 then (
    some (4, M))
  else (
  some (0, M)))))))))
set_option maxRecDepth 100000 in
set_option maxHeartbeats 4000000 in
theorem s_Mod_bare (G : Gx) (M : Mm) (a0 : Int32) : FnS G Y_Mod_bare cvI 1 [.int a0] M (Mod_bare M a0) := by
  refine FnS.ofE (by decide) (Nat.le_of_ble_eq_true rfl) ?_
  show EJ G Y_Mod_bare cvI 1 0 [(0, .int a0)] [] M _
  unfold Mod_bare
  refine EJ_iload_n 1 0 (dk_26 (bt bc_Mod_bare_0 0 rfl)) rfl rfl ?_
  refine EJ_case 1 48 ds_Mod_bare_1 (by decide) rfl (by decide) (fun _ => ?_) (fun hc1_1 => ?_)
  · refine EJ_ldcw 51 (dk_19 (bt bc_Mod_bare_1 16 rfl) (bt bc_Mod_bare_1 17 rfl) (bt bc_Mod_bare_1 18 rfl) (n := 301) rfl) rfl tw_1603 ?_
    exact EJ_iret rfl (dk_172 (bt bc_Mod_bare_1 19 rfl))
  refine EJ_case 2 52 ds_Mod_bare_1 (by decide) rfl (by decide) (fun _ => ?_) (fun hc1_2 => ?_)
  · refine EJ_bipush 54 (dk_16 (bt bc_Mod_bare_1 20 rfl) (bt bc_Mod_bare_1 21 rfl) (n := 10) rfl) rfl (v := 10) kB_10 ?_
    exact EJ_iret rfl (dk_172 (bt bc_Mod_bare_1 22 rfl))
  refine EJ_case 3 55 ds_Mod_bare_1 (by decide) rfl (by decide) (fun _ => ?_) (fun hc1_3 => ?_)
  · refine EJ_sipush 58 (dk_17 (bt bc_Mod_bare_1 23 rfl) (bt bc_Mod_bare_1 24 rfl) (bt bc_Mod_bare_1 25 rfl) (n := 600) rfl) rfl (v := 600) kS_600 ?_
    exact EJ_iret rfl (dk_172 (bt bc_Mod_bare_1 26 rfl))
  refine EJ_case 4 59 ds_Mod_bare_1 (by decide) rfl (by decide) (fun _ => ?_) (fun hc1_4 => ?_)
  · refine EJ_bipush 61 (dk_16 (bt bc_Mod_bare_1 27 rfl) (bt bc_Mod_bare_1 28 rfl) (n := 10) rfl) rfl (v := 10) kB_10 ?_
    exact EJ_iret rfl (dk_172 (bt bc_Mod_bare_1 29 rfl))
  refine EJ_case 5 62 ds_Mod_bare_1 (by decide) rfl (by decide) (fun _ => ?_) (fun hc1_5 => ?_)
  · refine EJ_iconst 63 (dk_4 (bt bc_Mod_bare_1 30 rfl)) rfl (v := 1) kI_1 ?_
    exact EJ_iret rfl (dk_172 (bt bc_Mod_bare_1 31 rfl))
  refine EJ_case 6 64 ds_Mod_bare_1 (by decide) rfl (by decide) (fun _ => ?_) (fun hc1_6 => ?_)
  · refine EJ_bipush 66 (dk_16 (bt bc_Mod_bare_2 0 rfl) (bt bc_Mod_bare_2 1 rfl) (n := 10) rfl) rfl (v := 10) kB_10 ?_
    exact EJ_iret rfl (dk_172 (bt bc_Mod_bare_2 2 rfl))
  refine EJ_case 7 67 ds_Mod_bare_1 (by decide) rfl (by decide) (fun _ => ?_) (fun hc1_7 => ?_)
  · refine EJ_sipush 70 (dk_17 (bt bc_Mod_bare_2 3 rfl) (bt bc_Mod_bare_2 4 rfl) (bt bc_Mod_bare_2 5 rfl) (n := 1440) rfl) rfl (v := 1440) kS_1440 ?_
    exact EJ_iret rfl (dk_172 (bt bc_Mod_bare_2 6 rfl))
  refine EJ_case 8 71 ds_Mod_bare_1 (by decide) rfl (by decide) (fun _ => ?_) (fun hc1_8 => ?_)
  · refine EJ_iconst 72 (dk_7 (bt bc_Mod_bare_2 7 rfl)) rfl (v := 4) kI_4 ?_
    exact EJ_iret rfl (dk_172 (bt bc_Mod_bare_2 8 rfl))
  refine EJ_tabOut 73 ds_Mod_bare_1 (tabOut (fun k k1 k2 => by
      rcases (show k = 1 ∨ k = 2 ∨ k = 3 ∨ k = 4 ∨ k = 5 ∨ k = 6 ∨ k = 7 ∨ k = 8 by omega) with rfl | rfl | rfl | rfl | rfl | rfl | rfl | rfl
      · exact hc1_1
      · exact hc1_2
      · exact hc1_3
      · exact hc1_4
      · exact hc1_5
      · exact hc1_6
      · exact hc1_7
      · exact hc1_8)) (by decide) ?_
  refine EJ_iconst 74 (dk_3 (bt bc_Mod_bare_2 9 rfl)) rfl (v := 0) kI_0 ?_
  exact EJ_iret rfl (dk_172 (bt bc_Mod_bare_2 10 rfl))
abbrev Y_Mod_inForce : Ym := (⟨"RiceHallModel", "inForce", "()I"⟩, prog_14_method_56_code, 3, (some FieldType.int))
theorem bc_Mod_inForce_0 : bts prog_14_method_56_code 0 [2, 60, 3, 61, 28, 42, 180, 1, 227, 162, 0, 43, 42, 180, 0, 100, 28, 46, 42, 180, 1, 28, 163, 0, 24, 27, 155, 0, 18, 42, 180, 0] := bts_of (by decide +kernel)
theorem bc_Mod_inForce_1 : bts prog_14_method_56_code 32 [100, 28, 46, 42, 180, 0, 100, 27, 46, 161, 0, 5, 28, 60, 132, 2, 1, 167, 255, 211, 27, 172] := bts_of (by decide +kernel)
theorem hd_Mod_inForce : Y_Mod_inForce.1.cls = RX12 ∧ Y_Mod_inForce.1.cls ≠ "java/lang/invoke/MethodHandle" ∧ Y_Mod_inForce.1.cls ≠ "java/lang/invoke/VarHandle" ∧ (parseMethodDescriptor Y_Mod_inForce.1.desc).map (fun d => d.parameters.length) = some 0 := by decide +kernel
def Mod_inForce_J46 (k4 : Nat → Int32 → Int32 → Mm → Option (Int32 × Mm)) (x0 : Nat) (x1 : Int32) (x2 : Int32) (M : Mm) : Option (Int32 × Mm) :=
  let v4 : Int32 := x2 + 1
  k4 x0 x1 v4 M
set_option maxRecDepth 100000 in
set_option maxHeartbeats 4000000 in
theorem e_Mod_inForce_J46 {G : Gx} (k4 : Nat → Int32 → Int32 → Mm → Option (Int32 × Mm)) (hk4 : ∀ (x0 : Nat) (x1 : Int32) (x2 : Int32) (M : Mm), EJ G Y_Mod_inForce cvI 1 4 [(0, .ref x0), (1, .int x1), (2, .int x2)] [] M (k4 x0 x1 x2 M)) (x0 : Nat) (x1 : Int32) (x2 : Int32) (M : Mm) : EJ G Y_Mod_inForce cvI 1 46 [(0, .ref x0), (1, .int x1), (2, .int x2)] [] M (Mod_inForce_J46 k4 x0 x1 x2 M) := by
  unfold Mod_inForce_J46
  refine EJ_iinc 49 2 (lv2 := [(2, .int _), (0, .ref _), (1, .int _)]) (dk_132 (bt bc_Mod_inForce_1 14 rfl) (bt bc_Mod_inForce_1 15 rfl) (bt bc_Mod_inForce_1 16 rfl) (n := 1) rfl) rfl (by decide) rfl (v := 1) kI_1 rfl ?_
  refine EJ_goto 4 (dk_167 (bt bc_Mod_inForce_1 17 rfl) (bt bc_Mod_inForce_1 18 rfl) (bt bc_Mod_inForce_1 19 rfl) (n := -45) rfl) (by decide) ?_
  exact EJ_pick (lv2 := [(0, .ref _), (1, .int _), (2, .int _)]) [1, 2, 0] rfl (hk4 _ _ _ _)
def Mod_inForce_J44 (k4 : Nat → Int32 → Int32 → Mm → Option (Int32 × Mm)) (x0 : Nat) (x2 : Int32) (M : Mm) : Option (Int32 × Mm) :=
  Mod_inForce_J46 k4 x0 x2 x2 M
set_option maxRecDepth 100000 in
set_option maxHeartbeats 4000000 in
theorem e_Mod_inForce_J44 {G : Gx} (k4 : Nat → Int32 → Int32 → Mm → Option (Int32 × Mm)) (hk4 : ∀ (x0 : Nat) (x1 : Int32) (x2 : Int32) (M : Mm), EJ G Y_Mod_inForce cvI 1 4 [(0, .ref x0), (1, .int x1), (2, .int x2)] [] M (k4 x0 x1 x2 M)) (x0 : Nat) (x2 : Int32) (M : Mm) : EJ G Y_Mod_inForce cvI 1 44 [(0, .ref x0), (2, .int x2)] [] M (Mod_inForce_J44 k4 x0 x2 M) := by
  unfold Mod_inForce_J44
  refine EJ_iload_n 45 1 (dk_28 (bt bc_Mod_inForce_1 12 rfl)) rfl rfl ?_
  refine EJ_istore_n 46 (lv2 := [(1, .int _), (0, .ref _), (2, .int _)]) (dk_60 (bt bc_Mod_inForce_1 13 rfl)) rfl (by decide) rfl ?_
  exact EJ_pick (lv2 := [(0, .ref _), (1, .int _), (2, .int _)]) [1, 0, 2] rfl (e_Mod_inForce_J46 k4 hk4 _ _ _ _)
def Mod_inForce_B4 (k4 : Nat → Int32 → Int32 → Mm → Option (Int32 × Mm)) (x0 : Nat) (x1 : Int32) (x2 : Int32) (M : Mm) : Option (Int32 × Mm) :=
  ck (kO M x0 12 107) (
  if (mI M x0 37) ≤ x2 then (
    some (x1, M))
  else (
    nn (mR M x0 40) (fun b2 =>
    ck (kA M b2 20 x2) (
    if (mI M x0 0) < (mI M b2 (ix x2)) then (
      Mod_inForce_J46 k4 x0 x1 x2 M)
    else (
      if x1 < 0 then (
        Mod_inForce_J44 k4 x0 x2 M)
      else (
        nn (mR M x0 40) (fun b5 =>
        ck (kA M b5 20 x2) (
        nn (mR M x0 40) (fun b7 =>
        ck (kA M b7 20 x1) (
        if (mI M b5 (ix x2)) < (mI M b7 (ix x1)) then (
          Mod_inForce_J46 k4 x0 x1 x2 M)
        else (
          Mod_inForce_J44 k4 x0 x2 M)))))))))))
set_option maxRecDepth 100000 in
set_option maxHeartbeats 4000000 in
theorem e_Mod_inForce_B4 {G : Gx} (k4 : Nat → Int32 → Int32 → Mm → Option (Int32 × Mm)) (hk4 : ∀ (x0 : Nat) (x1 : Int32) (x2 : Int32) (M : Mm), EJ G Y_Mod_inForce cvI 1 4 [(0, .ref x0), (1, .int x1), (2, .int x2)] [] M (k4 x0 x1 x2 M)) (x0 : Nat) (x1 : Int32) (x2 : Int32) (M : Mm) : EJ G Y_Mod_inForce cvI 1 4 [(0, .ref x0), (1, .int x1), (2, .int x2)] [] M (Mod_inForce_B4 k4 x0 x1 x2 M) := by
  unfold Mod_inForce_B4
  refine EJ_iload_n 5 2 (dk_28 (bt bc_Mod_inForce_0 4 rfl)) rfl rfl ?_
  refine EJ_aload_n 6 0 (dk_42 (bt bc_Mod_inForce_0 5 rfl)) rfl rfl ?_
  refine EJ_ck (fun h1 => ?_)
  refine EJ_getI cf12 37 (by decide) 9 tw_1235 (fun _ _ _ => rfl) (dk_180 (bt bc_Mod_inForce_0 6 rfl) (bt bc_Mod_inForce_0 7 rfl) (bt bc_Mod_inForce_0 8 rfl) (n := 483) rfl) rfl (of_decide_eq_true h1) ?_
  refine EJ_icmp_ge 52 12 (dk_162 (bt bc_Mod_inForce_0 9 rfl) (bt bc_Mod_inForce_0 10 rfl) (bt bc_Mod_inForce_0 11 rfl) (n := 43) rfl) (by decide) rfl (fun _ => ?_) (fun _ => ?_)
  · refine EJ_iload_n 53 1 (dk_27 (bt bc_Mod_inForce_1 20 rfl)) rfl rfl ?_
    exact EJ_iret rfl (dk_172 (bt bc_Mod_inForce_1 21 rfl))
  · refine EJ_aload_n 13 0 (dk_42 (bt bc_Mod_inForce_0 12 rfl)) rfl rfl ?_
    refine EJ_getR cf12 40 (by decide) 16 tw_1238 (fun _ _ _ => rfl) (dk_180 (bt bc_Mod_inForce_0 13 rfl) (bt bc_Mod_inForce_0 14 rfl) (bt bc_Mod_inForce_0 15 rfl) (n := 100) rfl) rfl (of_decide_eq_true h1) (fun b2 => ?_)
    refine EJ_iload_n 17 2 (dk_28 (bt bc_Mod_inForce_0 16 rfl)) rfl rfl ?_
    refine EJ_ck (fun h3 => ?_)
    refine EJ_iald 18 h3 (dk_46 (bt bc_Mod_inForce_0 17 rfl)) rfl ?_
    refine EJ_aload_n 19 0 (dk_42 (bt bc_Mod_inForce_0 18 rfl)) rfl rfl ?_
    refine EJ_getI cf12 0 (by decide) 22 tw_1198 (fun _ _ _ => rfl) (dk_180 (bt bc_Mod_inForce_0 19 rfl) (bt bc_Mod_inForce_0 20 rfl) (bt bc_Mod_inForce_0 21 rfl) (n := 284) rfl) rfl (of_decide_eq_true h1) ?_
    refine EJ_icmp_gt 46 25 (dk_163 (bt bc_Mod_inForce_0 22 rfl) (bt bc_Mod_inForce_0 23 rfl) (bt bc_Mod_inForce_0 24 rfl) (n := 24) rfl) (by decide) rfl (fun _ => ?_) (fun _ => ?_)
    · exact EJ_pick (lv2 := [(0, .ref _), (1, .int _), (2, .int _)]) [0, 1, 2] rfl (e_Mod_inForce_J46 k4 hk4 _ _ _ _)
    · refine EJ_iload_n 26 1 (dk_27 (bt bc_Mod_inForce_0 25 rfl)) rfl rfl ?_
      refine EJ_if_lt 44 29 (dk_155 (bt bc_Mod_inForce_0 26 rfl) (bt bc_Mod_inForce_0 27 rfl) (bt bc_Mod_inForce_0 28 rfl) (n := 18) rfl) (by decide) rfl (fun _ => ?_) (fun _ => ?_)
      · exact EJ_pick (lv2 := [(0, .ref _), (2, .int _)]) [0, 2] rfl (e_Mod_inForce_J44 k4 hk4 _ _ _)
      · refine EJ_aload_n 30 0 (dk_42 (bt bc_Mod_inForce_0 29 rfl)) rfl rfl ?_
        refine EJ_getR cf12 40 (by decide) 33 tw_1238 (fun _ _ _ => rfl) (dk_180 (bt bc_Mod_inForce_0 30 rfl) (bt bc_Mod_inForce_0 31 rfl) (bt bc_Mod_inForce_1 0 rfl) (n := 100) rfl) rfl (of_decide_eq_true h1) (fun b5 => ?_)
        refine EJ_iload_n 34 2 (dk_28 (bt bc_Mod_inForce_1 1 rfl)) rfl rfl ?_
        refine EJ_ck (fun h6 => ?_)
        refine EJ_iald 35 h6 (dk_46 (bt bc_Mod_inForce_1 2 rfl)) rfl ?_
        refine EJ_aload_n 36 0 (dk_42 (bt bc_Mod_inForce_1 3 rfl)) rfl rfl ?_
        refine EJ_getR cf12 40 (by decide) 39 tw_1238 (fun _ _ _ => rfl) (dk_180 (bt bc_Mod_inForce_1 4 rfl) (bt bc_Mod_inForce_1 5 rfl) (bt bc_Mod_inForce_1 6 rfl) (n := 100) rfl) rfl (of_decide_eq_true h1) (fun b7 => ?_)
        refine EJ_iload_n 40 1 (dk_27 (bt bc_Mod_inForce_1 7 rfl)) rfl rfl ?_
        refine EJ_ck (fun h8 => ?_)
        refine EJ_iald 41 h8 (dk_46 (bt bc_Mod_inForce_1 8 rfl)) rfl ?_
        refine EJ_icmp_lt 46 44 (dk_161 (bt bc_Mod_inForce_1 9 rfl) (bt bc_Mod_inForce_1 10 rfl) (bt bc_Mod_inForce_1 11 rfl) (n := 5) rfl) (by decide) rfl (fun _ => ?_) (fun _ => ?_)
        · exact EJ_pick (lv2 := [(0, .ref _), (1, .int _), (2, .int _)]) [0, 1, 2] rfl (e_Mod_inForce_J46 k4 hk4 _ _ _ _)
        · exact EJ_pick (lv2 := [(0, .ref _), (2, .int _)]) [0, 2] rfl (e_Mod_inForce_J44 k4 hk4 _ _ _)
def Mod_inForce_L4 (n : Nat) : Nat → Int32 → Int32 → Mm → Option (Int32 × Mm) :=
  match n with
  | 0 => fun _ _ _ _ => none
  | n + 1 => Mod_inForce_B4 (Mod_inForce_L4 n)
theorem e_Mod_inForce_L4 {G : Gx} : ∀ (n : Nat) (x0 : Nat) (x1 : Int32) (x2 : Int32) (M : Mm), EJ G Y_Mod_inForce cvI 1 4 [(0, .ref x0), (1, .int x1), (2, .int x2)] [] M (Mod_inForce_L4 n x0 x1 x2 M) := by
  intro n
  induction n with
  | zero => intros; exact EJ_none
  | succ n ih => intro x0 x1 x2 M; exact e_Mod_inForce_B4 _ ih x0 x1 x2 M
def Mod_inForce (M : Mm) (a0 : Nat) : Option (Int32 × Mm) :=
  Mod_inForce_L4 fu a0 (-1) 0 M
set_option maxRecDepth 100000 in
set_option maxHeartbeats 4000000 in
theorem s_Mod_inForce (G : Gx) (M : Mm) (a0 : Nat) : FnS G Y_Mod_inForce cvI 1 [.ref a0] M (Mod_inForce M a0) := by
  refine FnS.ofE (by decide) (Nat.le_of_ble_eq_true rfl) ?_
  show EJ G Y_Mod_inForce cvI 1 0 [(0, .ref a0)] [] M _
  unfold Mod_inForce
  refine EJ_iconst 1 (dk_2 (bt bc_Mod_inForce_0 0 rfl)) rfl (v := (-1)) kI_m1 ?_
  refine EJ_istore_n 2 (lv2 := [(1, .int _), (0, .ref _)]) (dk_60 (bt bc_Mod_inForce_0 1 rfl)) rfl (by decide) rfl ?_
  refine EJ_iconst 3 (dk_3 (bt bc_Mod_inForce_0 2 rfl)) rfl (v := 0) kI_0 ?_
  refine EJ_istore_n 4 (lv2 := [(2, .int _), (1, .int _), (0, .ref _)]) (dk_61 (bt bc_Mod_inForce_0 3 rfl)) rfl (by decide) rfl ?_
  exact EJ_pick (lv2 := [(0, .ref _), (1, .int _), (2, .int _)]) [2, 1, 0] rfl (e_Mod_inForce_L4 fu _ _ _ _)
abbrev Y_Mod_known : Ym := (⟨"RiceHallModel", "known", "(I)I"⟩, prog_14_method_57_code, 4, (some FieldType.int))
theorem bc_Mod_known_0 : bts prog_14_method_57_code 0 [27, 154, 0, 12, 42, 180, 1, 28, 17, 5, 160, 108, 172, 27, 4, 160, 0, 12, 42, 180, 1, 28, 17, 5, 160, 112, 172, 27, 5, 160, 0, 8] := bts_of (by decide +kernel)
theorem bc_Mod_known_1 : bts prog_14_method_57_code 32 [42, 180, 1, 236, 172, 27, 6, 160, 0, 26, 42, 180, 1, 239, 154, 0, 7, 3, 167, 0, 14, 42, 180, 0, 173, 42, 180, 1, 239, 4, 100, 46] := bts_of (by decide +kernel)
theorem bc_Mod_known_2 : bts prog_14_method_57_code 64 [172, 27, 7, 160, 0, 8, 42, 180, 1, 239, 172, 3, 61, 3, 62, 29, 42, 180, 1, 16, 162, 0, 31, 28, 27, 8, 160, 0, 12, 42, 180, 0] := bts_of (by decide +kernel)
theorem bc_Mod_known_3 : bts prog_14_method_57_code 96 [58, 29, 46, 167, 0, 8, 42, 29, 182, 1, 31, 96, 61, 132, 3, 1, 167, 255, 223, 28, 172] := bts_of (by decide +kernel)
theorem hd_Mod_known : Y_Mod_known.1.cls = RX12 ∧ Y_Mod_known.1.cls ≠ "java/lang/invoke/MethodHandle" ∧ Y_Mod_known.1.cls ≠ "java/lang/invoke/VarHandle" ∧ (parseMethodDescriptor Y_Mod_known.1.desc).map (fun d => d.parameters.length) = some 1 := by decide +kernel
def Mod_known_J107 (k79 : Nat → Int32 → Int32 → Int32 → Mm → Option (Int32 × Mm)) (x0 : Nat) (x1 : Int32) (x3 : Int32) (s0 : Int32) (s1 : Int32) (M : Mm) : Option (Int32 × Mm) :=
  let v4 : Int32 := s1 + s0
  let v5 : Int32 := x3 + 1
  k79 x0 x1 v4 v5 M
set_option maxRecDepth 100000 in
set_option maxHeartbeats 4000000 in
theorem e_Mod_known_J107 {G : Gx} (k79 : Nat → Int32 → Int32 → Int32 → Mm → Option (Int32 × Mm)) (hk79 : ∀ (x0 : Nat) (x1 : Int32) (x2 : Int32) (x3 : Int32) (M : Mm), EJ G Y_Mod_known cvI 2 79 [(0, .ref x0), (1, .int x1), (2, .int x2), (3, .int x3)] [] M (k79 x0 x1 x2 x3 M)) (x0 : Nat) (x1 : Int32) (x3 : Int32) (s0 : Int32) (s1 : Int32) (M : Mm) : EJ G Y_Mod_known cvI 2 107 [(0, .ref x0), (1, .int x1), (3, .int x3)] [.int s0, .int s1] M (Mod_known_J107 k79 x0 x1 x3 s0 s1 M) := by
  unfold Mod_known_J107
  refine EJ_iadd 108 (dk_96 (bt bc_Mod_known_3 11 rfl)) rfl ?_
  refine EJ_istore_n 109 (lv2 := [(2, .int _), (0, .ref _), (1, .int _), (3, .int _)]) (dk_61 (bt bc_Mod_known_3 12 rfl)) rfl (by decide) rfl ?_
  refine EJ_iinc 112 3 (lv2 := [(3, .int _), (2, .int _), (0, .ref _), (1, .int _)]) (dk_132 (bt bc_Mod_known_3 13 rfl) (bt bc_Mod_known_3 14 rfl) (bt bc_Mod_known_3 15 rfl) (n := 1) rfl) rfl (by decide) rfl (v := 1) kI_1 rfl ?_
  refine EJ_goto 79 (dk_167 (bt bc_Mod_known_3 16 rfl) (bt bc_Mod_known_3 17 rfl) (bt bc_Mod_known_3 18 rfl) (n := -33) rfl) (by decide) ?_
  exact EJ_pick (lv2 := [(0, .ref _), (1, .int _), (2, .int _), (3, .int _)]) [2, 3, 1, 0] rfl (hk79 _ _ _ _ _)
def Mod_known_B79 (k79 : Nat → Int32 → Int32 → Int32 → Mm → Option (Int32 × Mm)) (x0 : Nat) (x1 : Int32) (x2 : Int32) (x3 : Int32) (M : Mm) : Option (Int32 × Mm) :=
  ck (kO M x0 12 107) (
  if (mI M x0 22) ≤ x3 then (
    some (x2, M))
  else (
    if x1 = 5 then (
      nn (mR M x0 25) (fun b6 =>
      ck (kA M b6 20 x3) (
      Mod_known_J107 k79 x0 x1 x3 (mI M b6 (ix x3)) x2 M)))
    else (
      bd (Mod_outOf M x0 x3) (fun r2 M3 =>
      Mod_known_J107 k79 x0 x1 x3 r2 x2 M3))))
set_option maxRecDepth 100000 in
set_option maxHeartbeats 4000000 in
theorem e_Mod_known_B79 {G : Gx} (k79 : Nat → Int32 → Int32 → Int32 → Mm → Option (Int32 × Mm)) (hk79 : ∀ (x0 : Nat) (x1 : Int32) (x2 : Int32) (x3 : Int32) (M : Mm), EJ G Y_Mod_known cvI 2 79 [(0, .ref x0), (1, .int x1), (2, .int x2), (3, .int x3)] [] M (k79 x0 x1 x2 x3 M)) (x0 : Nat) (x1 : Int32) (x2 : Int32) (x3 : Int32) (M : Mm) : EJ G Y_Mod_known cvI 2 79 [(0, .ref x0), (1, .int x1), (2, .int x2), (3, .int x3)] [] M (Mod_known_B79 k79 x0 x1 x2 x3 M) := by
  unfold Mod_known_B79
  refine EJ_iload_n 80 3 (dk_29 (bt bc_Mod_known_2 15 rfl)) rfl rfl ?_
  refine EJ_aload_n 81 0 (dk_42 (bt bc_Mod_known_2 16 rfl)) rfl rfl ?_
  refine EJ_ck (fun h1 => ?_)
  refine EJ_getI cf12 22 (by decide) 84 tw_1220 (fun _ _ _ => rfl) (dk_180 (bt bc_Mod_known_2 17 rfl) (bt bc_Mod_known_2 18 rfl) (bt bc_Mod_known_2 19 rfl) (n := 272) rfl) rfl (of_decide_eq_true h1) ?_
  refine EJ_icmp_ge 115 87 (dk_162 (bt bc_Mod_known_2 20 rfl) (bt bc_Mod_known_2 21 rfl) (bt bc_Mod_known_2 22 rfl) (n := 31) rfl) (by decide) rfl (fun _ => ?_) (fun _ => ?_)
  · refine EJ_iload_n 116 2 (dk_28 (bt bc_Mod_known_3 19 rfl)) rfl rfl ?_
    exact EJ_iret rfl (dk_172 (bt bc_Mod_known_3 20 rfl))
  · refine EJ_iload_n 88 2 (dk_28 (bt bc_Mod_known_2 23 rfl)) rfl rfl ?_
    refine EJ_iload_n 89 1 (dk_27 (bt bc_Mod_known_2 24 rfl)) rfl rfl ?_
    refine EJ_iconst 90 (dk_8 (bt bc_Mod_known_2 25 rfl)) rfl (v := 5) kI_5 ?_
    refine EJ_icmp_ne 102 93 (dk_160 (bt bc_Mod_known_2 26 rfl) (bt bc_Mod_known_2 27 rfl) (bt bc_Mod_known_2 28 rfl) (n := 12) rfl) (by decide) rfl (fun _ => ?_) (fun _ => ?_)
    · refine EJ_aload_n 103 0 (dk_42 (bt bc_Mod_known_3 6 rfl)) rfl rfl ?_
      refine EJ_iload_n 104 3 (dk_29 (bt bc_Mod_known_3 7 rfl)) rfl rfl ?_
      refine EJ_callVi (Y2 := Y_Mod_outOf) 107 cf12 (s_Mod_outOf G _ _ _) (of_decide_eq_true h1) rfl (dk_182 (bt bc_Mod_known_3 8 rfl) (bt bc_Mod_known_3 9 rfl) (bt bc_Mod_known_3 10 rfl) (n := 287) rfl) rfl tw_1580 tw_1582 ts_42 tw_1583 hd_Mod_outOf rfl (by decide) (Nat.le_of_ble_eq_true rfl) (fun r2 M3 => ?_)
      exact EJ_pick (lv2 := [(0, .ref _), (1, .int _), (3, .int _)]) [0, 1, 3] rfl (e_Mod_known_J107 k79 hk79 _ _ _ _ _ _)
    · refine EJ_aload_n 94 0 (dk_42 (bt bc_Mod_known_2 29 rfl)) rfl rfl ?_
      refine EJ_getR cf12 25 (by decide) 97 tw_1223 (fun _ _ _ => rfl) (dk_180 (bt bc_Mod_known_2 30 rfl) (bt bc_Mod_known_2 31 rfl) (bt bc_Mod_known_3 0 rfl) (n := 58) rfl) rfl (of_decide_eq_true h1) (fun b6 => ?_)
      refine EJ_iload_n 98 3 (dk_29 (bt bc_Mod_known_3 1 rfl)) rfl rfl ?_
      refine EJ_ck (fun h7 => ?_)
      refine EJ_iald 99 h7 (dk_46 (bt bc_Mod_known_3 2 rfl)) rfl ?_
      refine EJ_goto 107 (dk_167 (bt bc_Mod_known_3 3 rfl) (bt bc_Mod_known_3 4 rfl) (bt bc_Mod_known_3 5 rfl) (n := 8) rfl) (by decide) ?_
      exact EJ_pick (lv2 := [(0, .ref _), (1, .int _), (3, .int _)]) [0, 1, 3] rfl (e_Mod_known_J107 k79 hk79 _ _ _ _ _ _)
def Mod_known_L79 (n : Nat) : Nat → Int32 → Int32 → Int32 → Mm → Option (Int32 × Mm) :=
  match n with
  | 0 => fun _ _ _ _ _ => none
  | n + 1 => Mod_known_B79 (Mod_known_L79 n)
theorem e_Mod_known_L79 {G : Gx} : ∀ (n : Nat) (x0 : Nat) (x1 : Int32) (x2 : Int32) (x3 : Int32) (M : Mm), EJ G Y_Mod_known cvI 2 79 [(0, .ref x0), (1, .int x1), (2, .int x2), (3, .int x3)] [] M (Mod_known_L79 n x0 x1 x2 x3 M) := by
  intro n
  induction n with
  | zero => intros; exact EJ_none
  | succ n ih => intro x0 x1 x2 x3 M; exact e_Mod_known_B79 _ ih x0 x1 x2 x3 M
def Mod_known (M : Mm) (a0 : Nat) (a1 : Int32) : Option (Int32 × Mm) :=
  if a1 = 0 then (
    ck (kO M a0 12 107) (
    some ((mI M a0 0) / 1440, M)))
  else (
    if a1 = 1 then (
      ck (kO M a0 12 107) (
      some (rm (mI M a0 0) 1440, M)))
    else (
      if a1 = 2 then (
        ck (kO M a0 12 107) (
        some (mI M a0 1, M)))
      else (
        if a1 = 3 then (
          ck (kO M a0 12 107) (
          if (mI M a0 71) = 0 then (
            some (0, M))
          else (
            nn (mR M a0 82) (fun b10 =>
            ck (kA M b10 20 ((mI M a0 71) - 1)) (
            some (mI M b10 (ix ((mI M a0 71) - 1)), M))))))
        else (
          if a1 = 4 then (
            ck (kO M a0 12 107) (
            some (mI M a0 71, M)))
          else (
            Mod_known_L79 fu a0 a1 0 0 M)))))
set_option maxRecDepth 100000 in
set_option maxHeartbeats 4000000 in
theorem s_Mod_known (G : Gx) (M : Mm) (a0 : Nat) (a1 : Int32) : FnS G Y_Mod_known cvI 2 [.ref a0, .int a1] M (Mod_known M a0 a1) := by
  refine FnS.ofE (by decide) (Nat.le_of_ble_eq_true rfl) ?_
  show EJ G Y_Mod_known cvI 2 0 [(0, .ref a0), (1, .int a1)] [] M _
  unfold Mod_known
  refine EJ_iload_n 1 1 (dk_27 (bt bc_Mod_known_0 0 rfl)) rfl rfl ?_
  refine EJ_if_ne 13 4 (dk_154 (bt bc_Mod_known_0 1 rfl) (bt bc_Mod_known_0 2 rfl) (bt bc_Mod_known_0 3 rfl) (n := 12) rfl) (by decide) rfl (fun _ => ?_) (fun _ => ?_)
  · refine EJ_iload_n 14 1 (dk_27 (bt bc_Mod_known_0 13 rfl)) rfl rfl ?_
    refine EJ_iconst 15 (dk_4 (bt bc_Mod_known_0 14 rfl)) rfl (v := 1) kI_1 ?_
    refine EJ_icmp_ne 27 18 (dk_160 (bt bc_Mod_known_0 15 rfl) (bt bc_Mod_known_0 16 rfl) (bt bc_Mod_known_0 17 rfl) (n := 12) rfl) (by decide) rfl (fun _ => ?_) (fun _ => ?_)
    · refine EJ_iload_n 28 1 (dk_27 (bt bc_Mod_known_0 27 rfl)) rfl rfl ?_
      refine EJ_iconst 29 (dk_5 (bt bc_Mod_known_0 28 rfl)) rfl (v := 2) kI_2 ?_
      refine EJ_icmp_ne 37 32 (dk_160 (bt bc_Mod_known_0 29 rfl) (bt bc_Mod_known_0 30 rfl) (bt bc_Mod_known_0 31 rfl) (n := 8) rfl) (by decide) rfl (fun _ => ?_) (fun _ => ?_)
      · refine EJ_iload_n 38 1 (dk_27 (bt bc_Mod_known_1 5 rfl)) rfl rfl ?_
        refine EJ_iconst 39 (dk_6 (bt bc_Mod_known_1 6 rfl)) rfl (v := 3) kI_3 ?_
        refine EJ_icmp_ne 65 42 (dk_160 (bt bc_Mod_known_1 7 rfl) (bt bc_Mod_known_1 8 rfl) (bt bc_Mod_known_1 9 rfl) (n := 26) rfl) (by decide) rfl (fun _ => ?_) (fun _ => ?_)
        · refine EJ_iload_n 66 1 (dk_27 (bt bc_Mod_known_2 1 rfl)) rfl rfl ?_
          refine EJ_iconst 67 (dk_7 (bt bc_Mod_known_2 2 rfl)) rfl (v := 4) kI_4 ?_
          refine EJ_icmp_ne 75 70 (dk_160 (bt bc_Mod_known_2 3 rfl) (bt bc_Mod_known_2 4 rfl) (bt bc_Mod_known_2 5 rfl) (n := 8) rfl) (by decide) rfl (fun _ => ?_) (fun _ => ?_)
          · refine EJ_iconst 76 (dk_3 (bt bc_Mod_known_2 11 rfl)) rfl (v := 0) kI_0 ?_
            refine EJ_istore_n 77 (lv2 := [(2, .int _), (0, .ref _), (1, .int _)]) (dk_61 (bt bc_Mod_known_2 12 rfl)) rfl (by decide) rfl ?_
            refine EJ_iconst 78 (dk_3 (bt bc_Mod_known_2 13 rfl)) rfl (v := 0) kI_0 ?_
            refine EJ_istore_n 79 (lv2 := [(3, .int _), (2, .int _), (0, .ref _), (1, .int _)]) (dk_62 (bt bc_Mod_known_2 14 rfl)) rfl (by decide) rfl ?_
            exact EJ_pick (lv2 := [(0, .ref _), (1, .int _), (2, .int _), (3, .int _)]) [2, 3, 1, 0] rfl (e_Mod_known_L79 fu _ _ _ _ _)
          · refine EJ_aload_n 71 0 (dk_42 (bt bc_Mod_known_2 6 rfl)) rfl rfl ?_
            refine EJ_ck (fun h8 => ?_)
            refine EJ_getI cf12 71 (by decide) 74 tw_1269 (fun _ _ _ => rfl) (dk_180 (bt bc_Mod_known_2 7 rfl) (bt bc_Mod_known_2 8 rfl) (bt bc_Mod_known_2 9 rfl) (n := 495) rfl) rfl (of_decide_eq_true h8) ?_
            exact EJ_iret rfl (dk_172 (bt bc_Mod_known_2 10 rfl))
        · refine EJ_aload_n 43 0 (dk_42 (bt bc_Mod_known_1 10 rfl)) rfl rfl ?_
          refine EJ_ck (fun h9 => ?_)
          refine EJ_getI cf12 71 (by decide) 46 tw_1269 (fun _ _ _ => rfl) (dk_180 (bt bc_Mod_known_1 11 rfl) (bt bc_Mod_known_1 12 rfl) (bt bc_Mod_known_1 13 rfl) (n := 495) rfl) rfl (of_decide_eq_true h9) ?_
          refine EJ_if_ne 53 49 (dk_154 (bt bc_Mod_known_1 14 rfl) (bt bc_Mod_known_1 15 rfl) (bt bc_Mod_known_1 16 rfl) (n := 7) rfl) (by decide) rfl (fun _ => ?_) (fun _ => ?_)
          · refine EJ_aload_n 54 0 (dk_42 (bt bc_Mod_known_1 21 rfl)) rfl rfl ?_
            refine EJ_getR cf12 82 (by decide) 57 tw_1280 (fun _ _ _ => rfl) (dk_180 (bt bc_Mod_known_1 22 rfl) (bt bc_Mod_known_1 23 rfl) (bt bc_Mod_known_1 24 rfl) (n := 173) rfl) rfl (of_decide_eq_true h9) (fun b10 => ?_)
            refine EJ_aload_n 58 0 (dk_42 (bt bc_Mod_known_1 25 rfl)) rfl rfl ?_
            refine EJ_getI cf12 71 (by decide) 61 tw_1269 (fun _ _ _ => rfl) (dk_180 (bt bc_Mod_known_1 26 rfl) (bt bc_Mod_known_1 27 rfl) (bt bc_Mod_known_1 28 rfl) (n := 495) rfl) rfl (of_decide_eq_true h9) ?_
            refine EJ_iconst 62 (dk_4 (bt bc_Mod_known_1 29 rfl)) rfl (v := 1) kI_1 ?_
            refine EJ_isub 63 (dk_100 (bt bc_Mod_known_1 30 rfl)) rfl ?_
            refine EJ_ck (fun h11 => ?_)
            refine EJ_iald 64 h11 (dk_46 (bt bc_Mod_known_1 31 rfl)) rfl ?_
            exact EJ_iret rfl (dk_172 (bt bc_Mod_known_2 0 rfl))
          · refine EJ_iconst 50 (dk_3 (bt bc_Mod_known_1 17 rfl)) rfl (v := 0) kI_0 ?_
            refine EJ_goto 64 (dk_167 (bt bc_Mod_known_1 18 rfl) (bt bc_Mod_known_1 19 rfl) (bt bc_Mod_known_1 20 rfl) (n := 14) rfl) (by decide) ?_
            exact EJ_iret rfl (dk_172 (bt bc_Mod_known_2 0 rfl))
      · refine EJ_aload_n 33 0 (dk_42 (bt bc_Mod_known_1 0 rfl)) rfl rfl ?_
        refine EJ_ck (fun h12 => ?_)
        refine EJ_getI cf12 1 (by decide) 36 tw_1199 (fun _ _ _ => rfl) (dk_180 (bt bc_Mod_known_1 1 rfl) (bt bc_Mod_known_1 2 rfl) (bt bc_Mod_known_1 3 rfl) (n := 492) rfl) rfl (of_decide_eq_true h12) ?_
        exact EJ_iret rfl (dk_172 (bt bc_Mod_known_1 4 rfl))
    · refine EJ_aload_n 19 0 (dk_42 (bt bc_Mod_known_0 18 rfl)) rfl rfl ?_
      refine EJ_ck (fun h13 => ?_)
      refine EJ_getI cf12 0 (by decide) 22 tw_1198 (fun _ _ _ => rfl) (dk_180 (bt bc_Mod_known_0 19 rfl) (bt bc_Mod_known_0 20 rfl) (bt bc_Mod_known_0 21 rfl) (n := 284) rfl) rfl (of_decide_eq_true h13) ?_
      refine EJ_sipush 25 (dk_17 (bt bc_Mod_known_0 22 rfl) (bt bc_Mod_known_0 23 rfl) (bt bc_Mod_known_0 24 rfl) (n := 1440) rfl) rfl (v := 1440) kS_1440 ?_
      refine EJ_irem 26 (dk_112 (bt bc_Mod_known_0 25 rfl)) rfl (by decide) ?_
      exact EJ_iret rfl (dk_172 (bt bc_Mod_known_0 26 rfl))
  · refine EJ_aload_n 5 0 (dk_42 (bt bc_Mod_known_0 4 rfl)) rfl rfl ?_
    refine EJ_ck (fun h14 => ?_)
    refine EJ_getI cf12 0 (by decide) 8 tw_1198 (fun _ _ _ => rfl) (dk_180 (bt bc_Mod_known_0 5 rfl) (bt bc_Mod_known_0 6 rfl) (bt bc_Mod_known_0 7 rfl) (n := 284) rfl) rfl (of_decide_eq_true h14) ?_
    refine EJ_sipush 11 (dk_17 (bt bc_Mod_known_0 8 rfl) (bt bc_Mod_known_0 9 rfl) (bt bc_Mod_known_0 10 rfl) (n := 1440) rfl) rfl (v := 1440) kS_1440 ?_
    refine EJ_idiv 12 (dk_108 (bt bc_Mod_known_0 11 rfl)) rfl (by decide) ?_
    exact EJ_iret rfl (dk_172 (bt bc_Mod_known_0 12 rfl))
abbrev Y_Mod_holds : Ym := (⟨"RiceHallModel", "holds", "(I)Z"⟩, prog_14_method_58_code, 5, (some FieldType.boolean))
theorem bc_Mod_holds_0 : bts prog_14_method_58_code 0 [42, 180, 0, 109, 27, 46, 156, 0, 5, 4, 172, 42, 180, 0, 112, 27, 46, 61, 28, 42, 180, 0, 115, 27, 46, 162, 0, 230, 42, 180, 0, 118] := bts_of (by decide +kernel)
theorem bc_Mod_holds_1 : bts prog_14_method_58_code 32 [28, 46, 62, 29, 154, 0, 100, 42, 42, 180, 0, 121, 28, 46, 182, 1, 242, 54, 4, 42, 180, 0, 130, 28, 42, 180, 0, 124, 28, 46, 16, 60] := bts_of (by decide +kernel)
theorem bc_Mod_holds_2 : bts prog_14_method_58_code 64 [160, 0, 22, 21, 4, 42, 180, 0, 127, 28, 46, 162, 0, 7, 4, 167, 0, 53, 3, 167, 0, 49, 42, 180, 0, 124, 28, 46, 16, 62, 160, 0] := bts_of (by decide +kernel)
theorem bc_Mod_holds_3 : bts prog_14_method_58_code 96 [22, 21, 4, 42, 180, 0, 127, 28, 46, 164, 0, 7, 4, 167, 0, 23, 3, 167, 0, 19, 21, 4, 42, 180, 0, 127, 28, 46, 160, 0, 7, 4] := bts_of (by decide +kernel)
theorem bc_Mod_holds_4 : bts prog_14_method_58_code 128 [167, 0, 4, 3, 84, 167, 0, 116, 29, 4, 160, 0, 31, 42, 180, 0, 130, 28, 42, 180, 0, 130, 42, 180, 0, 121, 28, 46, 51, 154, 0, 7] := bts_of (by decide +kernel)
theorem bc_Mod_holds_5 : bts prog_14_method_58_code 160 [4, 167, 0, 4, 3, 84, 167, 0, 83, 42, 180, 0, 130, 28, 29, 5, 160, 0, 39, 42, 180, 0, 130, 42, 180, 0, 121, 28, 46, 51, 153, 0] := bts_of (by decide +kernel)
theorem bc_Mod_holds_6 : bts prog_14_method_58_code 192 [21, 42, 180, 0, 130, 42, 180, 0, 124, 28, 46, 51, 153, 0, 7, 4, 167, 0, 40, 3, 167, 0, 36, 42, 180, 0, 130, 42, 180, 0, 121, 28] := bts_of (by decide +kernel)
theorem bc_Mod_holds_7 : bts prog_14_method_58_code 224 [46, 51, 154, 0, 17, 42, 180, 0, 130, 42, 180, 0, 124, 28, 46, 51, 153, 0, 7, 4, 167, 0, 4, 3, 84, 132, 2, 1, 167, 255, 22, 42] := bts_of (by decide +kernel)
theorem bc_Mod_holds_8 : bts prog_14_method_58_code 256 [180, 0, 130, 42, 180, 0, 109, 27, 46, 51, 172] := bts_of (by decide +kernel)
theorem hd_Mod_holds : Y_Mod_holds.1.cls = RX12 ∧ Y_Mod_holds.1.cls ≠ "java/lang/invoke/MethodHandle" ∧ Y_Mod_holds.1.cls ≠ "java/lang/invoke/VarHandle" ∧ (parseMethodDescriptor Y_Mod_holds.1.desc).map (fun d => d.parameters.length) = some 1 := by decide +kernel
def Mod_holds_J249 (k18 : Nat → Int32 → Int32 → Mm → Option (Int32 × Mm)) (x0 : Nat) (x1 : Int32) (x2 : Int32) (M : Mm) : Option (Int32 × Mm) :=
  let v26 : Int32 := x2 + 1
  k18 x0 x1 v26 M
set_option maxRecDepth 100000 in
set_option maxHeartbeats 4000000 in
theorem e_Mod_holds_J249 {G : Gx} (k18 : Nat → Int32 → Int32 → Mm → Option (Int32 × Mm)) (hk18 : ∀ (x0 : Nat) (x1 : Int32) (x2 : Int32) (M : Mm), EJ G Y_Mod_holds cvI 3 18 [(0, .ref x0), (1, .int x1), (2, .int x2)] [] M (k18 x0 x1 x2 M)) (x0 : Nat) (x1 : Int32) (x2 : Int32) (M : Mm) : EJ G Y_Mod_holds cvI 3 249 [(0, .ref x0), (1, .int x1), (2, .int x2)] [] M (Mod_holds_J249 k18 x0 x1 x2 M) := by
  unfold Mod_holds_J249
  refine EJ_iinc 252 2 (lv2 := [(2, .int _), (0, .ref _), (1, .int _)]) (dk_132 (bt bc_Mod_holds_7 25 rfl) (bt bc_Mod_holds_7 26 rfl) (bt bc_Mod_holds_7 27 rfl) (n := 1) rfl) rfl (by decide) rfl (v := 1) kI_1 rfl ?_
  refine EJ_goto 18 (dk_167 (bt bc_Mod_holds_7 28 rfl) (bt bc_Mod_holds_7 29 rfl) (bt bc_Mod_holds_7 30 rfl) (n := -234) rfl) (by decide) ?_
  exact EJ_pick (lv2 := [(0, .ref _), (1, .int _), (2, .int _)]) [1, 2, 0] rfl (hk18 _ _ _ _)
def Mod_holds_J248 (k18 : Nat → Int32 → Int32 → Mm → Option (Int32 × Mm)) (x0 : Nat) (x1 : Int32) (x2 : Int32) (s0 : Int32) (s1 : Int32) (s2 : Nat) (M : Mm) : Option (Int32 × Mm) :=
  ck (kA M s2 22 s1) (
  ck (kZ s0) (
  let M25 := sI M s2 (ix s1) s0
  Mod_holds_J249 k18 x0 x1 x2 M25))
set_option maxRecDepth 100000 in
set_option maxHeartbeats 4000000 in
theorem e_Mod_holds_J248 {G : Gx} (k18 : Nat → Int32 → Int32 → Mm → Option (Int32 × Mm)) (hk18 : ∀ (x0 : Nat) (x1 : Int32) (x2 : Int32) (M : Mm), EJ G Y_Mod_holds cvI 3 18 [(0, .ref x0), (1, .int x1), (2, .int x2)] [] M (k18 x0 x1 x2 M)) (x0 : Nat) (x1 : Int32) (x2 : Int32) (s0 : Int32) (s1 : Int32) (s2 : Nat) (M : Mm) : EJ G Y_Mod_holds cvI 3 248 [(0, .ref x0), (1, .int x1), (2, .int x2)] [.int s0, .int s1, .ref s2] M (Mod_holds_J248 k18 x0 x1 x2 s0 s1 s2 M) := by
  unfold Mod_holds_J248
  refine EJ_ck (fun h23 => ?_)
  refine EJ_ck (fun h24 => ?_)
  refine EJ_zast 249 h23 (narZ h24) (dk_84 (bt bc_Mod_holds_7 24 rfl)) rfl ?_
  exact EJ_pick (lv2 := [(0, .ref _), (1, .int _), (2, .int _)]) [0, 1, 2] rfl (e_Mod_holds_J249 k18 hk18 _ _ _ _)
def Mod_holds_J243 (k18 : Nat → Int32 → Int32 → Mm → Option (Int32 × Mm)) (x0 : Nat) (x1 : Int32) (x2 : Int32) (s0 : Int32) (s1 : Nat) (M : Mm) : Option (Int32 × Mm) :=
  Mod_holds_J248 k18 x0 x1 x2 1 s0 s1 M
set_option maxRecDepth 100000 in
set_option maxHeartbeats 4000000 in
theorem e_Mod_holds_J243 {G : Gx} (k18 : Nat → Int32 → Int32 → Mm → Option (Int32 × Mm)) (hk18 : ∀ (x0 : Nat) (x1 : Int32) (x2 : Int32) (M : Mm), EJ G Y_Mod_holds cvI 3 18 [(0, .ref x0), (1, .int x1), (2, .int x2)] [] M (k18 x0 x1 x2 M)) (x0 : Nat) (x1 : Int32) (x2 : Int32) (s0 : Int32) (s1 : Nat) (M : Mm) : EJ G Y_Mod_holds cvI 3 243 [(0, .ref x0), (1, .int x1), (2, .int x2)] [.int s0, .ref s1] M (Mod_holds_J243 k18 x0 x1 x2 s0 s1 M) := by
  unfold Mod_holds_J243
  refine EJ_iconst 244 (dk_4 (bt bc_Mod_holds_7 19 rfl)) rfl (v := 1) kI_1 ?_
  refine EJ_goto 248 (dk_167 (bt bc_Mod_holds_7 20 rfl) (bt bc_Mod_holds_7 21 rfl) (bt bc_Mod_holds_7 22 rfl) (n := 4) rfl) (by decide) ?_
  exact EJ_pick (lv2 := [(0, .ref _), (1, .int _), (2, .int _)]) [0, 1, 2] rfl (e_Mod_holds_J248 k18 hk18 _ _ _ _ _ _ _)
def Mod_holds_J211 (k18 : Nat → Int32 → Int32 → Mm → Option (Int32 × Mm)) (x0 : Nat) (x1 : Int32) (x2 : Int32) (s0 : Int32) (s1 : Nat) (M : Mm) : Option (Int32 × Mm) :=
  Mod_holds_J248 k18 x0 x1 x2 0 s0 s1 M
set_option maxRecDepth 100000 in
set_option maxHeartbeats 4000000 in
theorem e_Mod_holds_J211 {G : Gx} (k18 : Nat → Int32 → Int32 → Mm → Option (Int32 × Mm)) (hk18 : ∀ (x0 : Nat) (x1 : Int32) (x2 : Int32) (M : Mm), EJ G Y_Mod_holds cvI 3 18 [(0, .ref x0), (1, .int x1), (2, .int x2)] [] M (k18 x0 x1 x2 M)) (x0 : Nat) (x1 : Int32) (x2 : Int32) (s0 : Int32) (s1 : Nat) (M : Mm) : EJ G Y_Mod_holds cvI 3 211 [(0, .ref x0), (1, .int x1), (2, .int x2)] [.int s0, .ref s1] M (Mod_holds_J211 k18 x0 x1 x2 s0 s1 M) := by
  unfold Mod_holds_J211
  refine EJ_iconst 212 (dk_3 (bt bc_Mod_holds_6 19 rfl)) rfl (v := 0) kI_0 ?_
  refine EJ_goto 248 (dk_167 (bt bc_Mod_holds_6 20 rfl) (bt bc_Mod_holds_6 21 rfl) (bt bc_Mod_holds_6 22 rfl) (n := 36) rfl) (by decide) ?_
  exact EJ_pick (lv2 := [(0, .ref _), (1, .int _), (2, .int _)]) [0, 1, 2] rfl (e_Mod_holds_J248 k18 hk18 _ _ _ _ _ _ _)
def Mod_holds_J165 (k18 : Nat → Int32 → Int32 → Mm → Option (Int32 × Mm)) (x0 : Nat) (x1 : Int32) (x2 : Int32) (s0 : Int32) (s1 : Int32) (s2 : Nat) (M : Mm) : Option (Int32 × Mm) :=
  ck (kA M s2 22 s1) (
  ck (kZ s0) (
  let M46 := sI M s2 (ix s1) s0
  Mod_holds_J249 k18 x0 x1 x2 M46))
set_option maxRecDepth 100000 in
set_option maxHeartbeats 4000000 in
theorem e_Mod_holds_J165 {G : Gx} (k18 : Nat → Int32 → Int32 → Mm → Option (Int32 × Mm)) (hk18 : ∀ (x0 : Nat) (x1 : Int32) (x2 : Int32) (M : Mm), EJ G Y_Mod_holds cvI 3 18 [(0, .ref x0), (1, .int x1), (2, .int x2)] [] M (k18 x0 x1 x2 M)) (x0 : Nat) (x1 : Int32) (x2 : Int32) (s0 : Int32) (s1 : Int32) (s2 : Nat) (M : Mm) : EJ G Y_Mod_holds cvI 3 165 [(0, .ref x0), (1, .int x1), (2, .int x2)] [.int s0, .int s1, .ref s2] M (Mod_holds_J165 k18 x0 x1 x2 s0 s1 s2 M) := by
  unfold Mod_holds_J165
  refine EJ_ck (fun h44 => ?_)
  refine EJ_ck (fun h45 => ?_)
  refine EJ_zast 166 h44 (narZ h45) (dk_84 (bt bc_Mod_holds_5 5 rfl)) rfl ?_
  refine EJ_goto 249 (dk_167 (bt bc_Mod_holds_5 6 rfl) (bt bc_Mod_holds_5 7 rfl) (bt bc_Mod_holds_5 8 rfl) (n := 83) rfl) (by decide) ?_
  exact EJ_pick (lv2 := [(0, .ref _), (1, .int _), (2, .int _)]) [0, 1, 2] rfl (e_Mod_holds_J249 k18 hk18 _ _ _ _)
def Mod_holds_J132 (k18 : Nat → Int32 → Int32 → Mm → Option (Int32 × Mm)) (x0 : Nat) (x1 : Int32) (x2 : Int32) (s0 : Int32) (s1 : Int32) (s2 : Nat) (M : Mm) : Option (Int32 × Mm) :=
  ck (kA M s2 22 s1) (
  ck (kZ s0) (
  let M61 := sI M s2 (ix s1) s0
  Mod_holds_J249 k18 x0 x1 x2 M61))
set_option maxRecDepth 100000 in
set_option maxHeartbeats 4000000 in
theorem e_Mod_holds_J132 {G : Gx} (k18 : Nat → Int32 → Int32 → Mm → Option (Int32 × Mm)) (hk18 : ∀ (x0 : Nat) (x1 : Int32) (x2 : Int32) (M : Mm), EJ G Y_Mod_holds cvI 3 18 [(0, .ref x0), (1, .int x1), (2, .int x2)] [] M (k18 x0 x1 x2 M)) (x0 : Nat) (x1 : Int32) (x2 : Int32) (s0 : Int32) (s1 : Int32) (s2 : Nat) (M : Mm) : EJ G Y_Mod_holds cvI 3 132 [(0, .ref x0), (1, .int x1), (2, .int x2)] [.int s0, .int s1, .ref s2] M (Mod_holds_J132 k18 x0 x1 x2 s0 s1 s2 M) := by
  unfold Mod_holds_J132
  refine EJ_ck (fun h59 => ?_)
  refine EJ_ck (fun h60 => ?_)
  refine EJ_zast 133 h59 (narZ h60) (dk_84 (bt bc_Mod_holds_4 4 rfl)) rfl ?_
  refine EJ_goto 249 (dk_167 (bt bc_Mod_holds_4 5 rfl) (bt bc_Mod_holds_4 6 rfl) (bt bc_Mod_holds_4 7 rfl) (n := 116) rfl) (by decide) ?_
  exact EJ_pick (lv2 := [(0, .ref _), (1, .int _), (2, .int _)]) [0, 1, 2] rfl (e_Mod_holds_J249 k18 hk18 _ _ _ _)
def Mod_holds_B18 (k18 : Nat → Int32 → Int32 → Mm → Option (Int32 × Mm)) (x0 : Nat) (x1 : Int32) (x2 : Int32) (M : Mm) : Option (Int32 × Mm) :=
  ck (kO M x0 12 107) (
  nn (mR M x0 45) (fun b8 =>
  ck (kA M b8 20 x1) (
  if (mI M b8 (ix x1)) ≤ x2 then (
    nn (mR M x0 51) (fun b10 =>
    nn (mR M x0 43) (fun b11 =>
    ck (kA M b11 20 x1) (
    ck (kA M b10 22 (mI M b11 (ix x1))) (
    ck (kZ (mI M b10 (ix (mI M b11 (ix x1))))) (
    some (mI M b10 (ix (mI M b11 (ix x1))), M)))))))
  else (
    nn (mR M x0 47) (fun b15 =>
    ck (kA M b15 20 x2) (
    let v17 : Int32 := mI M b15 (ix x2)
    if v17 = 0 then (
      nn (mR M x0 48) (fun b47 =>
      ck (kA M b47 20 x2) (
      bd (Mod_known M x0 (mI M b47 (ix x2))) (fun r49 M50 =>
      ck (kO M50 x0 12 107) (
      nn (mR M50 x0 51) (fun b52 =>
      nn (mR M50 x0 49) (fun b53 =>
      ck (kA M50 b53 20 x2) (
      if (mI M50 b53 (ix x2)) = 60 then (
        nn (mR M50 x0 50) (fun b64 =>
        ck (kA M50 b64 20 x2) (
        if (mI M50 b64 (ix x2)) ≤ r49 then (
          Mod_holds_J132 k18 x0 x1 x2 0 x2 b52 M50)
        else (
          Mod_holds_J132 k18 x0 x1 x2 1 x2 b52 M50))))
      else (
        nn (mR M50 x0 49) (fun b55 =>
        ck (kA M50 b55 20 x2) (
        if (mI M50 b55 (ix x2)) = 62 then (
          nn (mR M50 x0 50) (fun b62 =>
          ck (kA M50 b62 20 x2) (
          if r49 ≤ (mI M50 b62 (ix x2)) then (
            Mod_holds_J132 k18 x0 x1 x2 0 x2 b52 M50)
          else (
            Mod_holds_J132 k18 x0 x1 x2 1 x2 b52 M50))))
        else (
          nn (mR M50 x0 50) (fun b57 =>
          ck (kA M50 b57 20 x2) (
          if r49 = (mI M50 b57 (ix x2)) then (
            Mod_holds_J132 k18 x0 x1 x2 1 x2 b52 M50)
          else (
            Mod_holds_J132 k18 x0 x1 x2 0 x2 b52 M50)))))))))))))))
    else (
      if v17 = 1 then (
        nn (mR M x0 51) (fun b39 =>
        nn (mR M x0 51) (fun b40 =>
        nn (mR M x0 48) (fun b41 =>
        ck (kA M b41 20 x2) (
        ck (kA M b40 22 (mI M b41 (ix x2))) (
        if (mI M b40 (ix (mI M b41 (ix x2)))) = 0 then (
          Mod_holds_J165 k18 x0 x1 x2 1 x2 b39 M)
        else (
          Mod_holds_J165 k18 x0 x1 x2 0 x2 b39 M)))))))
      else (
        nn (mR M x0 51) (fun b18 =>
        if v17 = 2 then (
          nn (mR M x0 51) (fun b31 =>
          nn (mR M x0 48) (fun b32 =>
          ck (kA M b32 20 x2) (
          ck (kA M b31 22 (mI M b32 (ix x2))) (
          if (mI M b31 (ix (mI M b32 (ix x2)))) = 0 then (
            Mod_holds_J211 k18 x0 x1 x2 x2 b18 M)
          else (
            nn (mR M x0 51) (fun b35 =>
            nn (mR M x0 49) (fun b36 =>
            ck (kA M b36 20 x2) (
            ck (kA M b35 22 (mI M b36 (ix x2))) (
            if (mI M b35 (ix (mI M b36 (ix x2)))) = 0 then (
              Mod_holds_J211 k18 x0 x1 x2 x2 b18 M)
            else (
              Mod_holds_J248 k18 x0 x1 x2 1 x2 b18 M)))))))))))
        else (
          nn (mR M x0 51) (fun b19 =>
          nn (mR M x0 48) (fun b20 =>
          ck (kA M b20 20 x2) (
          ck (kA M b19 22 (mI M b20 (ix x2))) (
          if (mI M b19 (ix (mI M b20 (ix x2)))) = 0 then (
            nn (mR M x0 51) (fun b27 =>
            nn (mR M x0 49) (fun b28 =>
            ck (kA M b28 20 x2) (
            ck (kA M b27 22 (mI M b28 (ix x2))) (
            if (mI M b27 (ix (mI M b28 (ix x2)))) = 0 then (
              Mod_holds_J248 k18 x0 x1 x2 0 x2 b18 M)
            else (
              Mod_holds_J243 k18 x0 x1 x2 x2 b18 M))))))
          else (
            Mod_holds_J243 k18 x0 x1 x2 x2 b18 M)))))))))))))))
set_option maxRecDepth 100000 in
set_option maxHeartbeats 4000000 in
theorem e_Mod_holds_B18 {G : Gx} (k18 : Nat → Int32 → Int32 → Mm → Option (Int32 × Mm)) (hk18 : ∀ (x0 : Nat) (x1 : Int32) (x2 : Int32) (M : Mm), EJ G Y_Mod_holds cvI 3 18 [(0, .ref x0), (1, .int x1), (2, .int x2)] [] M (k18 x0 x1 x2 M)) (x0 : Nat) (x1 : Int32) (x2 : Int32) (M : Mm) : EJ G Y_Mod_holds cvI 3 18 [(0, .ref x0), (1, .int x1), (2, .int x2)] [] M (Mod_holds_B18 k18 x0 x1 x2 M) := by
  unfold Mod_holds_B18
  refine EJ_iload_n 19 2 (dk_28 (bt bc_Mod_holds_0 18 rfl)) rfl rfl ?_
  refine EJ_aload_n 20 0 (dk_42 (bt bc_Mod_holds_0 19 rfl)) rfl rfl ?_
  refine EJ_ck (fun h7 => ?_)
  refine EJ_getR cf12 45 (by decide) 23 tw_1243 (fun _ _ _ => rfl) (dk_180 (bt bc_Mod_holds_0 20 rfl) (bt bc_Mod_holds_0 21 rfl) (bt bc_Mod_holds_0 22 rfl) (n := 115) rfl) rfl (of_decide_eq_true h7) (fun b8 => ?_)
  refine EJ_iload_n 24 1 (dk_27 (bt bc_Mod_holds_0 23 rfl)) rfl rfl ?_
  refine EJ_ck (fun h9 => ?_)
  refine EJ_iald 25 h9 (dk_46 (bt bc_Mod_holds_0 24 rfl)) rfl ?_
  refine EJ_icmp_ge 255 28 (dk_162 (bt bc_Mod_holds_0 25 rfl) (bt bc_Mod_holds_0 26 rfl) (bt bc_Mod_holds_0 27 rfl) (n := 230) rfl) (by decide) rfl (fun _ => ?_) (fun _ => ?_)
  · refine EJ_aload_n 256 0 (dk_42 (bt bc_Mod_holds_7 31 rfl)) rfl rfl ?_
    refine EJ_getR cf12 51 (by decide) 259 tw_1249 (fun _ _ _ => rfl) (dk_180 (bt bc_Mod_holds_8 0 rfl) (bt bc_Mod_holds_8 1 rfl) (bt bc_Mod_holds_8 2 rfl) (n := 130) rfl) rfl (of_decide_eq_true h7) (fun b10 => ?_)
    refine EJ_aload_n 260 0 (dk_42 (bt bc_Mod_holds_8 3 rfl)) rfl rfl ?_
    refine EJ_getR cf12 43 (by decide) 263 tw_1241 (fun _ _ _ => rfl) (dk_180 (bt bc_Mod_holds_8 4 rfl) (bt bc_Mod_holds_8 5 rfl) (bt bc_Mod_holds_8 6 rfl) (n := 109) rfl) rfl (of_decide_eq_true h7) (fun b11 => ?_)
    refine EJ_iload_n 264 1 (dk_27 (bt bc_Mod_holds_8 7 rfl)) rfl rfl ?_
    refine EJ_ck (fun h12 => ?_)
    refine EJ_iald 265 h12 (dk_46 (bt bc_Mod_holds_8 8 rfl)) rfl ?_
    refine EJ_ck (fun h13 => ?_)
    refine EJ_zald 266 h13 (dk_51 (bt bc_Mod_holds_8 9 rfl)) rfl ?_
    refine EJ_ck (fun h14 => ?_)
    exact EJ_zret rfl h14 (dk_172 (bt bc_Mod_holds_8 10 rfl))
  · refine EJ_aload_n 29 0 (dk_42 (bt bc_Mod_holds_0 28 rfl)) rfl rfl ?_
    refine EJ_getR cf12 47 (by decide) 32 tw_1245 (fun _ _ _ => rfl) (dk_180 (bt bc_Mod_holds_0 29 rfl) (bt bc_Mod_holds_0 30 rfl) (bt bc_Mod_holds_0 31 rfl) (n := 118) rfl) rfl (of_decide_eq_true h7) (fun b15 => ?_)
    refine EJ_iload_n 33 2 (dk_28 (bt bc_Mod_holds_1 0 rfl)) rfl rfl ?_
    refine EJ_ck (fun h16 => ?_)
    refine EJ_iald 34 h16 (dk_46 (bt bc_Mod_holds_1 1 rfl)) rfl ?_
    refine EJ_istore_n 35 (lv2 := [(3, .int _), (0, .ref _), (1, .int _), (2, .int _)]) (dk_62 (bt bc_Mod_holds_1 2 rfl)) rfl (by decide) rfl ?_
    refine EJ_iload_n 36 0 (dk_29 (bt bc_Mod_holds_1 3 rfl)) rfl rfl ?_
    refine EJ_if_ne 136 39 (dk_154 (bt bc_Mod_holds_1 4 rfl) (bt bc_Mod_holds_1 5 rfl) (bt bc_Mod_holds_1 6 rfl) (n := 100) rfl) (by decide) rfl (fun _ => ?_) (fun _ => ?_)
    · refine EJ_iload_n 137 0 (dk_29 (bt bc_Mod_holds_4 8 rfl)) rfl rfl ?_
      refine EJ_iconst 138 (dk_4 (bt bc_Mod_holds_4 9 rfl)) rfl (v := 1) kI_1 ?_
      refine EJ_icmp_ne 169 141 (dk_160 (bt bc_Mod_holds_4 10 rfl) (bt bc_Mod_holds_4 11 rfl) (bt bc_Mod_holds_4 12 rfl) (n := 31) rfl) (by decide) rfl (fun _ => ?_) (fun _ => ?_)
      · refine EJ_aload_n 170 1 (dk_42 (bt bc_Mod_holds_5 9 rfl)) rfl rfl ?_
        refine EJ_getR cf12 51 (by decide) 173 tw_1249 (fun _ _ _ => rfl) (dk_180 (bt bc_Mod_holds_5 10 rfl) (bt bc_Mod_holds_5 11 rfl) (bt bc_Mod_holds_5 12 rfl) (n := 130) rfl) rfl (of_decide_eq_true h7) (fun b18 => ?_)
        refine EJ_iload_n 174 3 (dk_28 (bt bc_Mod_holds_5 13 rfl)) rfl rfl ?_
        refine EJ_iload_n 175 0 (dk_29 (bt bc_Mod_holds_5 14 rfl)) rfl rfl ?_
        refine EJ_iconst 176 (dk_5 (bt bc_Mod_holds_5 15 rfl)) rfl (v := 2) kI_2 ?_
        refine EJ_icmp_ne 215 179 (dk_160 (bt bc_Mod_holds_5 16 rfl) (bt bc_Mod_holds_5 17 rfl) (bt bc_Mod_holds_5 18 rfl) (n := 39) rfl) (by decide) rfl (fun _ => ?_) (fun _ => ?_)
        · refine EJ_aload_n 216 1 (dk_42 (bt bc_Mod_holds_6 23 rfl)) rfl rfl ?_
          refine EJ_getR cf12 51 (by decide) 219 tw_1249 (fun _ _ _ => rfl) (dk_180 (bt bc_Mod_holds_6 24 rfl) (bt bc_Mod_holds_6 25 rfl) (bt bc_Mod_holds_6 26 rfl) (n := 130) rfl) rfl (of_decide_eq_true h7) (fun b19 => ?_)
          refine EJ_aload_n 220 1 (dk_42 (bt bc_Mod_holds_6 27 rfl)) rfl rfl ?_
          refine EJ_getR cf12 48 (by decide) 223 tw_1246 (fun _ _ _ => rfl) (dk_180 (bt bc_Mod_holds_6 28 rfl) (bt bc_Mod_holds_6 29 rfl) (bt bc_Mod_holds_6 30 rfl) (n := 121) rfl) rfl (of_decide_eq_true h7) (fun b20 => ?_)
          refine EJ_iload_n 224 3 (dk_28 (bt bc_Mod_holds_6 31 rfl)) rfl rfl ?_
          refine EJ_ck (fun h21 => ?_)
          refine EJ_iald 225 h21 (dk_46 (bt bc_Mod_holds_7 0 rfl)) rfl ?_
          refine EJ_ck (fun h22 => ?_)
          refine EJ_zald 226 h22 (dk_51 (bt bc_Mod_holds_7 1 rfl)) rfl ?_
          refine EJ_if_ne 243 229 (dk_154 (bt bc_Mod_holds_7 2 rfl) (bt bc_Mod_holds_7 3 rfl) (bt bc_Mod_holds_7 4 rfl) (n := 17) rfl) (by decide) rfl (fun _ => ?_) (fun _ => ?_)
          · exact EJ_pick (lv2 := [(0, .ref _), (1, .int _), (2, .int _)]) [1, 2, 3] rfl (e_Mod_holds_J243 k18 hk18 _ _ _ _ _ _)
          · refine EJ_aload_n 230 1 (dk_42 (bt bc_Mod_holds_7 5 rfl)) rfl rfl ?_
            refine EJ_getR cf12 51 (by decide) 233 tw_1249 (fun _ _ _ => rfl) (dk_180 (bt bc_Mod_holds_7 6 rfl) (bt bc_Mod_holds_7 7 rfl) (bt bc_Mod_holds_7 8 rfl) (n := 130) rfl) rfl (of_decide_eq_true h7) (fun b27 => ?_)
            refine EJ_aload_n 234 1 (dk_42 (bt bc_Mod_holds_7 9 rfl)) rfl rfl ?_
            refine EJ_getR cf12 49 (by decide) 237 tw_1247 (fun _ _ _ => rfl) (dk_180 (bt bc_Mod_holds_7 10 rfl) (bt bc_Mod_holds_7 11 rfl) (bt bc_Mod_holds_7 12 rfl) (n := 124) rfl) rfl (of_decide_eq_true h7) (fun b28 => ?_)
            refine EJ_iload_n 238 3 (dk_28 (bt bc_Mod_holds_7 13 rfl)) rfl rfl ?_
            refine EJ_ck (fun h29 => ?_)
            refine EJ_iald 239 h29 (dk_46 (bt bc_Mod_holds_7 14 rfl)) rfl ?_
            refine EJ_ck (fun h30 => ?_)
            refine EJ_zald 240 h30 (dk_51 (bt bc_Mod_holds_7 15 rfl)) rfl ?_
            refine EJ_if_eq 247 243 (dk_153 (bt bc_Mod_holds_7 16 rfl) (bt bc_Mod_holds_7 17 rfl) (bt bc_Mod_holds_7 18 rfl) (n := 7) rfl) (by decide) rfl (fun _ => ?_) (fun _ => ?_)
            · refine EJ_iconst 248 (dk_3 (bt bc_Mod_holds_7 23 rfl)) rfl (v := 0) kI_0 ?_
              exact EJ_pick (lv2 := [(0, .ref _), (1, .int _), (2, .int _)]) [1, 2, 3] rfl (e_Mod_holds_J248 k18 hk18 _ _ _ _ _ _ _)
            · exact EJ_pick (lv2 := [(0, .ref _), (1, .int _), (2, .int _)]) [1, 2, 3] rfl (e_Mod_holds_J243 k18 hk18 _ _ _ _ _ _)
        · refine EJ_aload_n 180 1 (dk_42 (bt bc_Mod_holds_5 19 rfl)) rfl rfl ?_
          refine EJ_getR cf12 51 (by decide) 183 tw_1249 (fun _ _ _ => rfl) (dk_180 (bt bc_Mod_holds_5 20 rfl) (bt bc_Mod_holds_5 21 rfl) (bt bc_Mod_holds_5 22 rfl) (n := 130) rfl) rfl (of_decide_eq_true h7) (fun b31 => ?_)
          refine EJ_aload_n 184 1 (dk_42 (bt bc_Mod_holds_5 23 rfl)) rfl rfl ?_
          refine EJ_getR cf12 48 (by decide) 187 tw_1246 (fun _ _ _ => rfl) (dk_180 (bt bc_Mod_holds_5 24 rfl) (bt bc_Mod_holds_5 25 rfl) (bt bc_Mod_holds_5 26 rfl) (n := 121) rfl) rfl (of_decide_eq_true h7) (fun b32 => ?_)
          refine EJ_iload_n 188 3 (dk_28 (bt bc_Mod_holds_5 27 rfl)) rfl rfl ?_
          refine EJ_ck (fun h33 => ?_)
          refine EJ_iald 189 h33 (dk_46 (bt bc_Mod_holds_5 28 rfl)) rfl ?_
          refine EJ_ck (fun h34 => ?_)
          refine EJ_zald 190 h34 (dk_51 (bt bc_Mod_holds_5 29 rfl)) rfl ?_
          refine EJ_if_eq 211 193 (dk_153 (bt bc_Mod_holds_5 30 rfl) (bt bc_Mod_holds_5 31 rfl) (bt bc_Mod_holds_6 0 rfl) (n := 21) rfl) (by decide) rfl (fun _ => ?_) (fun _ => ?_)
          · exact EJ_pick (lv2 := [(0, .ref _), (1, .int _), (2, .int _)]) [1, 2, 3] rfl (e_Mod_holds_J211 k18 hk18 _ _ _ _ _ _)
          · refine EJ_aload_n 194 1 (dk_42 (bt bc_Mod_holds_6 1 rfl)) rfl rfl ?_
            refine EJ_getR cf12 51 (by decide) 197 tw_1249 (fun _ _ _ => rfl) (dk_180 (bt bc_Mod_holds_6 2 rfl) (bt bc_Mod_holds_6 3 rfl) (bt bc_Mod_holds_6 4 rfl) (n := 130) rfl) rfl (of_decide_eq_true h7) (fun b35 => ?_)
            refine EJ_aload_n 198 1 (dk_42 (bt bc_Mod_holds_6 5 rfl)) rfl rfl ?_
            refine EJ_getR cf12 49 (by decide) 201 tw_1247 (fun _ _ _ => rfl) (dk_180 (bt bc_Mod_holds_6 6 rfl) (bt bc_Mod_holds_6 7 rfl) (bt bc_Mod_holds_6 8 rfl) (n := 124) rfl) rfl (of_decide_eq_true h7) (fun b36 => ?_)
            refine EJ_iload_n 202 3 (dk_28 (bt bc_Mod_holds_6 9 rfl)) rfl rfl ?_
            refine EJ_ck (fun h37 => ?_)
            refine EJ_iald 203 h37 (dk_46 (bt bc_Mod_holds_6 10 rfl)) rfl ?_
            refine EJ_ck (fun h38 => ?_)
            refine EJ_zald 204 h38 (dk_51 (bt bc_Mod_holds_6 11 rfl)) rfl ?_
            refine EJ_if_eq 211 207 (dk_153 (bt bc_Mod_holds_6 12 rfl) (bt bc_Mod_holds_6 13 rfl) (bt bc_Mod_holds_6 14 rfl) (n := 7) rfl) (by decide) rfl (fun _ => ?_) (fun _ => ?_)
            · exact EJ_pick (lv2 := [(0, .ref _), (1, .int _), (2, .int _)]) [1, 2, 3] rfl (e_Mod_holds_J211 k18 hk18 _ _ _ _ _ _)
            · refine EJ_iconst 208 (dk_4 (bt bc_Mod_holds_6 15 rfl)) rfl (v := 1) kI_1 ?_
              refine EJ_goto 248 (dk_167 (bt bc_Mod_holds_6 16 rfl) (bt bc_Mod_holds_6 17 rfl) (bt bc_Mod_holds_6 18 rfl) (n := 40) rfl) (by decide) ?_
              exact EJ_pick (lv2 := [(0, .ref _), (1, .int _), (2, .int _)]) [1, 2, 3] rfl (e_Mod_holds_J248 k18 hk18 _ _ _ _ _ _ _)
      · refine EJ_aload_n 142 1 (dk_42 (bt bc_Mod_holds_4 13 rfl)) rfl rfl ?_
        refine EJ_getR cf12 51 (by decide) 145 tw_1249 (fun _ _ _ => rfl) (dk_180 (bt bc_Mod_holds_4 14 rfl) (bt bc_Mod_holds_4 15 rfl) (bt bc_Mod_holds_4 16 rfl) (n := 130) rfl) rfl (of_decide_eq_true h7) (fun b39 => ?_)
        refine EJ_iload_n 146 3 (dk_28 (bt bc_Mod_holds_4 17 rfl)) rfl rfl ?_
        refine EJ_aload_n 147 1 (dk_42 (bt bc_Mod_holds_4 18 rfl)) rfl rfl ?_
        refine EJ_getR cf12 51 (by decide) 150 tw_1249 (fun _ _ _ => rfl) (dk_180 (bt bc_Mod_holds_4 19 rfl) (bt bc_Mod_holds_4 20 rfl) (bt bc_Mod_holds_4 21 rfl) (n := 130) rfl) rfl (of_decide_eq_true h7) (fun b40 => ?_)
        refine EJ_aload_n 151 1 (dk_42 (bt bc_Mod_holds_4 22 rfl)) rfl rfl ?_
        refine EJ_getR cf12 48 (by decide) 154 tw_1246 (fun _ _ _ => rfl) (dk_180 (bt bc_Mod_holds_4 23 rfl) (bt bc_Mod_holds_4 24 rfl) (bt bc_Mod_holds_4 25 rfl) (n := 121) rfl) rfl (of_decide_eq_true h7) (fun b41 => ?_)
        refine EJ_iload_n 155 3 (dk_28 (bt bc_Mod_holds_4 26 rfl)) rfl rfl ?_
        refine EJ_ck (fun h42 => ?_)
        refine EJ_iald 156 h42 (dk_46 (bt bc_Mod_holds_4 27 rfl)) rfl ?_
        refine EJ_ck (fun h43 => ?_)
        refine EJ_zald 157 h43 (dk_51 (bt bc_Mod_holds_4 28 rfl)) rfl ?_
        refine EJ_if_ne 164 160 (dk_154 (bt bc_Mod_holds_4 29 rfl) (bt bc_Mod_holds_4 30 rfl) (bt bc_Mod_holds_4 31 rfl) (n := 7) rfl) (by decide) rfl (fun _ => ?_) (fun _ => ?_)
        · refine EJ_iconst 165 (dk_3 (bt bc_Mod_holds_5 4 rfl)) rfl (v := 0) kI_0 ?_
          exact EJ_pick (lv2 := [(0, .ref _), (1, .int _), (2, .int _)]) [1, 2, 3] rfl (e_Mod_holds_J165 k18 hk18 _ _ _ _ _ _ _)
        · refine EJ_iconst 161 (dk_4 (bt bc_Mod_holds_5 0 rfl)) rfl (v := 1) kI_1 ?_
          refine EJ_goto 165 (dk_167 (bt bc_Mod_holds_5 1 rfl) (bt bc_Mod_holds_5 2 rfl) (bt bc_Mod_holds_5 3 rfl) (n := 4) rfl) (by decide) ?_
          exact EJ_pick (lv2 := [(0, .ref _), (1, .int _), (2, .int _)]) [1, 2, 3] rfl (e_Mod_holds_J165 k18 hk18 _ _ _ _ _ _ _)
    · refine EJ_aload_n 40 1 (dk_42 (bt bc_Mod_holds_1 7 rfl)) rfl rfl ?_
      refine EJ_aload_n 41 1 (dk_42 (bt bc_Mod_holds_1 8 rfl)) rfl rfl ?_
      refine EJ_getR cf12 48 (by decide) 44 tw_1246 (fun _ _ _ => rfl) (dk_180 (bt bc_Mod_holds_1 9 rfl) (bt bc_Mod_holds_1 10 rfl) (bt bc_Mod_holds_1 11 rfl) (n := 121) rfl) rfl (of_decide_eq_true h7) (fun b47 => ?_)
      refine EJ_iload_n 45 3 (dk_28 (bt bc_Mod_holds_1 12 rfl)) rfl rfl ?_
      refine EJ_ck (fun h48 => ?_)
      refine EJ_iald 46 h48 (dk_46 (bt bc_Mod_holds_1 13 rfl)) rfl ?_
      refine EJ_callVi (Y2 := Y_Mod_known) 49 cf12 (s_Mod_known G _ _ _) (of_decide_eq_true h7) rfl (dk_182 (bt bc_Mod_holds_1 14 rfl) (bt bc_Mod_holds_1 15 rfl) (bt bc_Mod_holds_1 16 rfl) (n := 498) rfl) rfl tw_1623 tw_1625 ts_47 tw_1626 hd_Mod_known rfl (by decide) (Nat.le_of_ble_eq_true rfl) (fun r49 M50 => ?_)
      refine EJ_istore 51 (lv2 := [(4, .int _), (3, .int _), (0, .ref _), (1, .int _), (2, .int _)]) (dk_54 (bt bc_Mod_holds_1 17 rfl) (bt bc_Mod_holds_1 18 rfl)) rfl (by decide) rfl ?_
      refine EJ_aload_n 52 2 (dk_42 (bt bc_Mod_holds_1 19 rfl)) rfl rfl ?_
      refine EJ_ck (fun h51 => ?_)
      refine EJ_getR cf12 51 (by decide) 55 tw_1249 (fun _ _ _ => rfl) (dk_180 (bt bc_Mod_holds_1 20 rfl) (bt bc_Mod_holds_1 21 rfl) (bt bc_Mod_holds_1 22 rfl) (n := 130) rfl) rfl (of_decide_eq_true h51) (fun b52 => ?_)
      refine EJ_iload_n 56 4 (dk_28 (bt bc_Mod_holds_1 23 rfl)) rfl rfl ?_
      refine EJ_aload_n 57 2 (dk_42 (bt bc_Mod_holds_1 24 rfl)) rfl rfl ?_
      refine EJ_getR cf12 49 (by decide) 60 tw_1247 (fun _ _ _ => rfl) (dk_180 (bt bc_Mod_holds_1 25 rfl) (bt bc_Mod_holds_1 26 rfl) (bt bc_Mod_holds_1 27 rfl) (n := 124) rfl) rfl (of_decide_eq_true h51) (fun b53 => ?_)
      refine EJ_iload_n 61 4 (dk_28 (bt bc_Mod_holds_1 28 rfl)) rfl rfl ?_
      refine EJ_ck (fun h54 => ?_)
      refine EJ_iald 62 h54 (dk_46 (bt bc_Mod_holds_1 29 rfl)) rfl ?_
      refine EJ_bipush 64 (dk_16 (bt bc_Mod_holds_1 30 rfl) (bt bc_Mod_holds_1 31 rfl) (n := 60) rfl) rfl (v := 60) kB_60 ?_
      refine EJ_icmp_ne 86 67 (dk_160 (bt bc_Mod_holds_2 0 rfl) (bt bc_Mod_holds_2 1 rfl) (bt bc_Mod_holds_2 2 rfl) (n := 22) rfl) (by decide) rfl (fun _ => ?_) (fun _ => ?_)
      · refine EJ_aload_n 87 2 (dk_42 (bt bc_Mod_holds_2 22 rfl)) rfl rfl ?_
        refine EJ_getR cf12 49 (by decide) 90 tw_1247 (fun _ _ _ => rfl) (dk_180 (bt bc_Mod_holds_2 23 rfl) (bt bc_Mod_holds_2 24 rfl) (bt bc_Mod_holds_2 25 rfl) (n := 124) rfl) rfl (of_decide_eq_true h51) (fun b55 => ?_)
        refine EJ_iload_n 91 4 (dk_28 (bt bc_Mod_holds_2 26 rfl)) rfl rfl ?_
        refine EJ_ck (fun h56 => ?_)
        refine EJ_iald 92 h56 (dk_46 (bt bc_Mod_holds_2 27 rfl)) rfl ?_
        refine EJ_bipush 94 (dk_16 (bt bc_Mod_holds_2 28 rfl) (bt bc_Mod_holds_2 29 rfl) (n := 62) rfl) rfl (v := 62) kB_62 ?_
        refine EJ_icmp_ne 116 97 (dk_160 (bt bc_Mod_holds_2 30 rfl) (bt bc_Mod_holds_2 31 rfl) (bt bc_Mod_holds_3 0 rfl) (n := 22) rfl) (by decide) rfl (fun _ => ?_) (fun _ => ?_)
        · refine EJ_iload 118 0 (dk_21 (bt bc_Mod_holds_3 20 rfl) (bt bc_Mod_holds_3 21 rfl)) rfl rfl ?_
          refine EJ_aload_n 119 2 (dk_42 (bt bc_Mod_holds_3 22 rfl)) rfl rfl ?_
          refine EJ_getR cf12 50 (by decide) 122 tw_1248 (fun _ _ _ => rfl) (dk_180 (bt bc_Mod_holds_3 23 rfl) (bt bc_Mod_holds_3 24 rfl) (bt bc_Mod_holds_3 25 rfl) (n := 127) rfl) rfl (of_decide_eq_true h51) (fun b57 => ?_)
          refine EJ_iload_n 123 4 (dk_28 (bt bc_Mod_holds_3 26 rfl)) rfl rfl ?_
          refine EJ_ck (fun h58 => ?_)
          refine EJ_iald 124 h58 (dk_46 (bt bc_Mod_holds_3 27 rfl)) rfl ?_
          refine EJ_icmp_ne 131 127 (dk_160 (bt bc_Mod_holds_3 28 rfl) (bt bc_Mod_holds_3 29 rfl) (bt bc_Mod_holds_3 30 rfl) (n := 7) rfl) (by decide) rfl (fun _ => ?_) (fun _ => ?_)
          · refine EJ_iconst 132 (dk_3 (bt bc_Mod_holds_4 3 rfl)) rfl (v := 0) kI_0 ?_
            exact EJ_pick (lv2 := [(0, .ref _), (1, .int _), (2, .int _)]) [2, 3, 4] rfl (e_Mod_holds_J132 k18 hk18 _ _ _ _ _ _ _)
          · refine EJ_iconst 128 (dk_4 (bt bc_Mod_holds_3 31 rfl)) rfl (v := 1) kI_1 ?_
            refine EJ_goto 132 (dk_167 (bt bc_Mod_holds_4 0 rfl) (bt bc_Mod_holds_4 1 rfl) (bt bc_Mod_holds_4 2 rfl) (n := 4) rfl) (by decide) ?_
            exact EJ_pick (lv2 := [(0, .ref _), (1, .int _), (2, .int _)]) [2, 3, 4] rfl (e_Mod_holds_J132 k18 hk18 _ _ _ _ _ _ _)
        · refine EJ_iload 99 0 (dk_21 (bt bc_Mod_holds_3 1 rfl) (bt bc_Mod_holds_3 2 rfl)) rfl rfl ?_
          refine EJ_aload_n 100 2 (dk_42 (bt bc_Mod_holds_3 3 rfl)) rfl rfl ?_
          refine EJ_getR cf12 50 (by decide) 103 tw_1248 (fun _ _ _ => rfl) (dk_180 (bt bc_Mod_holds_3 4 rfl) (bt bc_Mod_holds_3 5 rfl) (bt bc_Mod_holds_3 6 rfl) (n := 127) rfl) rfl (of_decide_eq_true h51) (fun b62 => ?_)
          refine EJ_iload_n 104 4 (dk_28 (bt bc_Mod_holds_3 7 rfl)) rfl rfl ?_
          refine EJ_ck (fun h63 => ?_)
          refine EJ_iald 105 h63 (dk_46 (bt bc_Mod_holds_3 8 rfl)) rfl ?_
          refine EJ_icmp_le 112 108 (dk_164 (bt bc_Mod_holds_3 9 rfl) (bt bc_Mod_holds_3 10 rfl) (bt bc_Mod_holds_3 11 rfl) (n := 7) rfl) (by decide) rfl (fun _ => ?_) (fun _ => ?_)
          · refine EJ_iconst 113 (dk_3 (bt bc_Mod_holds_3 16 rfl)) rfl (v := 0) kI_0 ?_
            refine EJ_goto 132 (dk_167 (bt bc_Mod_holds_3 17 rfl) (bt bc_Mod_holds_3 18 rfl) (bt bc_Mod_holds_3 19 rfl) (n := 19) rfl) (by decide) ?_
            exact EJ_pick (lv2 := [(0, .ref _), (1, .int _), (2, .int _)]) [2, 3, 4] rfl (e_Mod_holds_J132 k18 hk18 _ _ _ _ _ _ _)
          · refine EJ_iconst 109 (dk_4 (bt bc_Mod_holds_3 12 rfl)) rfl (v := 1) kI_1 ?_
            refine EJ_goto 132 (dk_167 (bt bc_Mod_holds_3 13 rfl) (bt bc_Mod_holds_3 14 rfl) (bt bc_Mod_holds_3 15 rfl) (n := 23) rfl) (by decide) ?_
            exact EJ_pick (lv2 := [(0, .ref _), (1, .int _), (2, .int _)]) [2, 3, 4] rfl (e_Mod_holds_J132 k18 hk18 _ _ _ _ _ _ _)
      · refine EJ_iload 69 0 (dk_21 (bt bc_Mod_holds_2 3 rfl) (bt bc_Mod_holds_2 4 rfl)) rfl rfl ?_
        refine EJ_aload_n 70 2 (dk_42 (bt bc_Mod_holds_2 5 rfl)) rfl rfl ?_
        refine EJ_getR cf12 50 (by decide) 73 tw_1248 (fun _ _ _ => rfl) (dk_180 (bt bc_Mod_holds_2 6 rfl) (bt bc_Mod_holds_2 7 rfl) (bt bc_Mod_holds_2 8 rfl) (n := 127) rfl) rfl (of_decide_eq_true h51) (fun b64 => ?_)
        refine EJ_iload_n 74 4 (dk_28 (bt bc_Mod_holds_2 9 rfl)) rfl rfl ?_
        refine EJ_ck (fun h65 => ?_)
        refine EJ_iald 75 h65 (dk_46 (bt bc_Mod_holds_2 10 rfl)) rfl ?_
        refine EJ_icmp_ge 82 78 (dk_162 (bt bc_Mod_holds_2 11 rfl) (bt bc_Mod_holds_2 12 rfl) (bt bc_Mod_holds_2 13 rfl) (n := 7) rfl) (by decide) rfl (fun _ => ?_) (fun _ => ?_)
        · refine EJ_iconst 83 (dk_3 (bt bc_Mod_holds_2 18 rfl)) rfl (v := 0) kI_0 ?_
          refine EJ_goto 132 (dk_167 (bt bc_Mod_holds_2 19 rfl) (bt bc_Mod_holds_2 20 rfl) (bt bc_Mod_holds_2 21 rfl) (n := 49) rfl) (by decide) ?_
          exact EJ_pick (lv2 := [(0, .ref _), (1, .int _), (2, .int _)]) [2, 3, 4] rfl (e_Mod_holds_J132 k18 hk18 _ _ _ _ _ _ _)
        · refine EJ_iconst 79 (dk_4 (bt bc_Mod_holds_2 14 rfl)) rfl (v := 1) kI_1 ?_
          refine EJ_goto 132 (dk_167 (bt bc_Mod_holds_2 15 rfl) (bt bc_Mod_holds_2 16 rfl) (bt bc_Mod_holds_2 17 rfl) (n := 53) rfl) (by decide) ?_
          exact EJ_pick (lv2 := [(0, .ref _), (1, .int _), (2, .int _)]) [2, 3, 4] rfl (e_Mod_holds_J132 k18 hk18 _ _ _ _ _ _ _)
def Mod_holds_L18 (n : Nat) : Nat → Int32 → Int32 → Mm → Option (Int32 × Mm) :=
  match n with
  | 0 => fun _ _ _ _ => none
  | n + 1 => Mod_holds_B18 (Mod_holds_L18 n)
theorem e_Mod_holds_L18 {G : Gx} : ∀ (n : Nat) (x0 : Nat) (x1 : Int32) (x2 : Int32) (M : Mm), EJ G Y_Mod_holds cvI 3 18 [(0, .ref x0), (1, .int x1), (2, .int x2)] [] M (Mod_holds_L18 n x0 x1 x2 M) := by
  intro n
  induction n with
  | zero => intros; exact EJ_none
  | succ n ih => intro x0 x1 x2 M; exact e_Mod_holds_B18 _ ih x0 x1 x2 M
def Mod_holds (M : Mm) (a0 : Nat) (a1 : Int32) : Option (Int32 × Mm) :=
  ck (kO M a0 12 107) (
  nn (mR M a0 43) (fun b2 =>
  ck (kA M b2 20 a1) (
  if 0 ≤ (mI M b2 (ix a1)) then (
    nn (mR M a0 44) (fun b4 =>
    ck (kA M b4 20 a1) (
    let v6 : Int32 := mI M b4 (ix a1)
    Mod_holds_L18 fu a0 a1 v6 M)))
  else (
    some (1, M)))))
set_option maxRecDepth 100000 in
set_option maxHeartbeats 4000000 in
theorem s_Mod_holds (G : Gx) (M : Mm) (a0 : Nat) (a1 : Int32) : FnS G Y_Mod_holds cvI 3 [.ref a0, .int a1] M (Mod_holds M a0 a1) := by
  refine FnS.ofE (by decide) (Nat.le_of_ble_eq_true rfl) ?_
  show EJ G Y_Mod_holds cvI 3 0 [(0, .ref a0), (1, .int a1)] [] M _
  unfold Mod_holds
  refine EJ_aload_n 1 0 (dk_42 (bt bc_Mod_holds_0 0 rfl)) rfl rfl ?_
  refine EJ_ck (fun h1 => ?_)
  refine EJ_getR cf12 43 (by decide) 4 tw_1241 (fun _ _ _ => rfl) (dk_180 (bt bc_Mod_holds_0 1 rfl) (bt bc_Mod_holds_0 2 rfl) (bt bc_Mod_holds_0 3 rfl) (n := 109) rfl) rfl (of_decide_eq_true h1) (fun b2 => ?_)
  refine EJ_iload_n 5 1 (dk_27 (bt bc_Mod_holds_0 4 rfl)) rfl rfl ?_
  refine EJ_ck (fun h3 => ?_)
  refine EJ_iald 6 h3 (dk_46 (bt bc_Mod_holds_0 5 rfl)) rfl ?_
  refine EJ_if_ge 11 9 (dk_156 (bt bc_Mod_holds_0 6 rfl) (bt bc_Mod_holds_0 7 rfl) (bt bc_Mod_holds_0 8 rfl) (n := 5) rfl) (by decide) rfl (fun _ => ?_) (fun _ => ?_)
  · refine EJ_aload_n 12 0 (dk_42 (bt bc_Mod_holds_0 11 rfl)) rfl rfl ?_
    refine EJ_getR cf12 44 (by decide) 15 tw_1242 (fun _ _ _ => rfl) (dk_180 (bt bc_Mod_holds_0 12 rfl) (bt bc_Mod_holds_0 13 rfl) (bt bc_Mod_holds_0 14 rfl) (n := 112) rfl) rfl (of_decide_eq_true h1) (fun b4 => ?_)
    refine EJ_iload_n 16 1 (dk_27 (bt bc_Mod_holds_0 15 rfl)) rfl rfl ?_
    refine EJ_ck (fun h5 => ?_)
    refine EJ_iald 17 h5 (dk_46 (bt bc_Mod_holds_0 16 rfl)) rfl ?_
    refine EJ_istore_n 18 (lv2 := [(2, .int _), (0, .ref _), (1, .int _)]) (dk_61 (bt bc_Mod_holds_0 17 rfl)) rfl (by decide) rfl ?_
    exact EJ_pick (lv2 := [(0, .ref _), (1, .int _), (2, .int _)]) [1, 2, 0] rfl (e_Mod_holds_L18 fu _ _ _ _)
  · refine EJ_iconst 10 (dk_4 (bt bc_Mod_holds_0 9 rfl)) rfl (v := 1) kI_1 ?_
    exact EJ_zret rfl (by decide) (dk_172 (bt bc_Mod_holds_0 10 rfl))
abbrev Y_Mod_asked : Ym := (⟨"RiceHallModel", "asked", "(I)I"⟩, prog_14_method_60_code, 5, (some FieldType.int))
theorem bc_Mod_asked_0 : bts prog_14_method_60_code 0 [27, 184, 1, 245, 61, 42, 182, 1, 248, 62, 29, 156, 0, 5, 28, 172, 42, 180, 0, 94, 29, 46, 54, 4, 21, 4, 42, 180, 0, 94, 29, 46] := bts_of (by decide +kernel)
theorem bc_Mod_asked_1 : bts prog_14_method_60_code 32 [42, 180, 0, 97, 29, 46, 96, 162, 0, 37, 42, 180, 0, 103, 21, 4, 46, 27, 160, 0, 20, 42, 21, 4, 182, 1, 251, 153, 0, 11, 42, 180] := bts_of (by decide +kernel)
theorem bc_Mod_asked_2 : bts prog_14_method_60_code 64 [0, 106, 21, 4, 46, 61, 132, 4, 1, 167, 255, 207, 28, 172] := bts_of (by decide +kernel)
theorem hd_Mod_asked : Y_Mod_asked.1.cls = RX12 ∧ Y_Mod_asked.1.cls ≠ "java/lang/invoke/MethodHandle" ∧ Y_Mod_asked.1.cls ≠ "java/lang/invoke/VarHandle" ∧ (parseMethodDescriptor Y_Mod_asked.1.desc).map (fun d => d.parameters.length) = some 1 := by decide +kernel
def Mod_asked_J70 (k24 : Nat → Int32 → Int32 → Int32 → Int32 → Mm → Option (Int32 × Mm)) (x0 : Nat) (x1 : Int32) (x2 : Int32) (x3 : Int32) (x4 : Int32) (M : Mm) : Option (Int32 × Mm) :=
  let v17 : Int32 := x4 + 1
  k24 x0 x1 x2 x3 v17 M
set_option maxRecDepth 100000 in
set_option maxHeartbeats 4000000 in
theorem e_Mod_asked_J70 {G : Gx} (k24 : Nat → Int32 → Int32 → Int32 → Int32 → Mm → Option (Int32 × Mm)) (hk24 : ∀ (x0 : Nat) (x1 : Int32) (x2 : Int32) (x3 : Int32) (x4 : Int32) (M : Mm), EJ G Y_Mod_asked cvI 4 24 [(0, .ref x0), (1, .int x1), (2, .int x2), (3, .int x3), (4, .int x4)] [] M (k24 x0 x1 x2 x3 x4 M)) (x0 : Nat) (x1 : Int32) (x2 : Int32) (x3 : Int32) (x4 : Int32) (M : Mm) : EJ G Y_Mod_asked cvI 4 70 [(0, .ref x0), (1, .int x1), (2, .int x2), (3, .int x3), (4, .int x4)] [] M (Mod_asked_J70 k24 x0 x1 x2 x3 x4 M) := by
  unfold Mod_asked_J70
  refine EJ_iinc 73 4 (lv2 := [(4, .int _), (0, .ref _), (1, .int _), (2, .int _), (3, .int _)]) (dk_132 (bt bc_Mod_asked_2 6 rfl) (bt bc_Mod_asked_2 7 rfl) (bt bc_Mod_asked_2 8 rfl) (n := 1) rfl) rfl (by decide) rfl (v := 1) kI_1 rfl ?_
  refine EJ_goto 24 (dk_167 (bt bc_Mod_asked_2 9 rfl) (bt bc_Mod_asked_2 10 rfl) (bt bc_Mod_asked_2 11 rfl) (n := -49) rfl) (by decide) ?_
  exact EJ_pick (lv2 := [(0, .ref _), (1, .int _), (2, .int _), (3, .int _), (4, .int _)]) [1, 2, 3, 4, 0] rfl (hk24 _ _ _ _ _ _)
def Mod_asked_B24 (k24 : Nat → Int32 → Int32 → Int32 → Int32 → Mm → Option (Int32 × Mm)) (x0 : Nat) (x1 : Int32) (x2 : Int32) (x3 : Int32) (x4 : Int32) (M : Mm) : Option (Int32 × Mm) :=
  ck (kO M x0 12 107) (
  nn (mR M x0 38) (fun b11 =>
  ck (kA M b11 20 x3) (
  nn (mR M x0 39) (fun b13 =>
  ck (kA M b13 20 x3) (
  if ((mI M b11 (ix x3)) + (mI M b13 (ix x3))) ≤ x4 then (
    some (x2, M))
  else (
    nn (mR M x0 41) (fun b15 =>
    ck (kA M b15 20 x4) (
    if (mI M b15 (ix x4)) = x1 then (
      bd (Mod_holds M x0 x4) (fun r18 M19 =>
      if r18 = 0 then (
        Mod_asked_J70 k24 x0 x1 x2 x3 x4 M19)
      else (
        ck (kO M19 x0 12 107) (
        nn (mR M19 x0 42) (fun b21 =>
        ck (kA M19 b21 20 x4) (
        let v23 : Int32 := mI M19 b21 (ix x4)
        Mod_asked_J70 k24 x0 x1 v23 x3 x4 M19))))))
    else (
      Mod_asked_J70 k24 x0 x1 x2 x3 x4 M)))))))))
set_option maxRecDepth 100000 in
set_option maxHeartbeats 4000000 in
theorem e_Mod_asked_B24 {G : Gx} (k24 : Nat → Int32 → Int32 → Int32 → Int32 → Mm → Option (Int32 × Mm)) (hk24 : ∀ (x0 : Nat) (x1 : Int32) (x2 : Int32) (x3 : Int32) (x4 : Int32) (M : Mm), EJ G Y_Mod_asked cvI 4 24 [(0, .ref x0), (1, .int x1), (2, .int x2), (3, .int x3), (4, .int x4)] [] M (k24 x0 x1 x2 x3 x4 M)) (x0 : Nat) (x1 : Int32) (x2 : Int32) (x3 : Int32) (x4 : Int32) (M : Mm) : EJ G Y_Mod_asked cvI 4 24 [(0, .ref x0), (1, .int x1), (2, .int x2), (3, .int x3), (4, .int x4)] [] M (Mod_asked_B24 k24 x0 x1 x2 x3 x4 M) := by
  unfold Mod_asked_B24
  refine EJ_iload 26 4 (dk_21 (bt bc_Mod_asked_0 24 rfl) (bt bc_Mod_asked_0 25 rfl)) rfl rfl ?_
  refine EJ_aload_n 27 0 (dk_42 (bt bc_Mod_asked_0 26 rfl)) rfl rfl ?_
  refine EJ_ck (fun h10 => ?_)
  refine EJ_getR cf12 38 (by decide) 30 tw_1236 (fun _ _ _ => rfl) (dk_180 (bt bc_Mod_asked_0 27 rfl) (bt bc_Mod_asked_0 28 rfl) (bt bc_Mod_asked_0 29 rfl) (n := 94) rfl) rfl (of_decide_eq_true h10) (fun b11 => ?_)
  refine EJ_iload_n 31 3 (dk_29 (bt bc_Mod_asked_0 30 rfl)) rfl rfl ?_
  refine EJ_ck (fun h12 => ?_)
  refine EJ_iald 32 h12 (dk_46 (bt bc_Mod_asked_0 31 rfl)) rfl ?_
  refine EJ_aload_n 33 0 (dk_42 (bt bc_Mod_asked_1 0 rfl)) rfl rfl ?_
  refine EJ_getR cf12 39 (by decide) 36 tw_1237 (fun _ _ _ => rfl) (dk_180 (bt bc_Mod_asked_1 1 rfl) (bt bc_Mod_asked_1 2 rfl) (bt bc_Mod_asked_1 3 rfl) (n := 97) rfl) rfl (of_decide_eq_true h10) (fun b13 => ?_)
  refine EJ_iload_n 37 3 (dk_29 (bt bc_Mod_asked_1 4 rfl)) rfl rfl ?_
  refine EJ_ck (fun h14 => ?_)
  refine EJ_iald 38 h14 (dk_46 (bt bc_Mod_asked_1 5 rfl)) rfl ?_
  refine EJ_iadd 39 (dk_96 (bt bc_Mod_asked_1 6 rfl)) rfl ?_
  refine EJ_icmp_ge 76 42 (dk_162 (bt bc_Mod_asked_1 7 rfl) (bt bc_Mod_asked_1 8 rfl) (bt bc_Mod_asked_1 9 rfl) (n := 37) rfl) (by decide) rfl (fun _ => ?_) (fun _ => ?_)
  · refine EJ_iload_n 77 2 (dk_28 (bt bc_Mod_asked_2 12 rfl)) rfl rfl ?_
    exact EJ_iret rfl (dk_172 (bt bc_Mod_asked_2 13 rfl))
  · refine EJ_aload_n 43 0 (dk_42 (bt bc_Mod_asked_1 10 rfl)) rfl rfl ?_
    refine EJ_getR cf12 41 (by decide) 46 tw_1239 (fun _ _ _ => rfl) (dk_180 (bt bc_Mod_asked_1 11 rfl) (bt bc_Mod_asked_1 12 rfl) (bt bc_Mod_asked_1 13 rfl) (n := 103) rfl) rfl (of_decide_eq_true h10) (fun b15 => ?_)
    refine EJ_iload 48 4 (dk_21 (bt bc_Mod_asked_1 14 rfl) (bt bc_Mod_asked_1 15 rfl)) rfl rfl ?_
    refine EJ_ck (fun h16 => ?_)
    refine EJ_iald 49 h16 (dk_46 (bt bc_Mod_asked_1 16 rfl)) rfl ?_
    refine EJ_iload_n 50 1 (dk_27 (bt bc_Mod_asked_1 17 rfl)) rfl rfl ?_
    refine EJ_icmp_ne 70 53 (dk_160 (bt bc_Mod_asked_1 18 rfl) (bt bc_Mod_asked_1 19 rfl) (bt bc_Mod_asked_1 20 rfl) (n := 20) rfl) (by decide) rfl (fun _ => ?_) (fun _ => ?_)
    · exact EJ_pick (lv2 := [(0, .ref _), (1, .int _), (2, .int _), (3, .int _), (4, .int _)]) [0, 1, 2, 3, 4] rfl (e_Mod_asked_J70 k24 hk24 _ _ _ _ _ _)
    · refine EJ_aload_n 54 0 (dk_42 (bt bc_Mod_asked_1 21 rfl)) rfl rfl ?_
      refine EJ_iload 56 4 (dk_21 (bt bc_Mod_asked_1 22 rfl) (bt bc_Mod_asked_1 23 rfl)) rfl rfl ?_
      refine EJ_callVi (Y2 := Y_Mod_holds) 59 cf12 (s_Mod_holds G _ _ _) (of_decide_eq_true h10) rfl (dk_182 (bt bc_Mod_asked_1 24 rfl) (bt bc_Mod_asked_1 25 rfl) (bt bc_Mod_asked_1 26 rfl) (n := 507) rfl) rfl tw_1619 tw_1621 ts_46 tw_1622 hd_Mod_holds rfl (by decide) (Nat.le_of_ble_eq_true rfl) (fun r18 M19 => ?_)
      refine EJ_if_eq 70 62 (dk_153 (bt bc_Mod_asked_1 27 rfl) (bt bc_Mod_asked_1 28 rfl) (bt bc_Mod_asked_1 29 rfl) (n := 11) rfl) (by decide) rfl (fun _ => ?_) (fun _ => ?_)
      · exact EJ_pick (lv2 := [(0, .ref _), (1, .int _), (2, .int _), (3, .int _), (4, .int _)]) [0, 1, 2, 3, 4] rfl (e_Mod_asked_J70 k24 hk24 _ _ _ _ _ _)
      · refine EJ_aload_n 63 0 (dk_42 (bt bc_Mod_asked_1 30 rfl)) rfl rfl ?_
        refine EJ_ck (fun h20 => ?_)
        refine EJ_getR cf12 42 (by decide) 66 tw_1240 (fun _ _ _ => rfl) (dk_180 (bt bc_Mod_asked_1 31 rfl) (bt bc_Mod_asked_2 0 rfl) (bt bc_Mod_asked_2 1 rfl) (n := 106) rfl) rfl (of_decide_eq_true h20) (fun b21 => ?_)
        refine EJ_iload 68 4 (dk_21 (bt bc_Mod_asked_2 2 rfl) (bt bc_Mod_asked_2 3 rfl)) rfl rfl ?_
        refine EJ_ck (fun h22 => ?_)
        refine EJ_iald 69 h22 (dk_46 (bt bc_Mod_asked_2 4 rfl)) rfl ?_
        refine EJ_istore_n 70 (lv2 := [(2, .int _), (0, .ref _), (1, .int _), (3, .int _), (4, .int _)]) (dk_61 (bt bc_Mod_asked_2 5 rfl)) rfl (by decide) rfl ?_
        exact EJ_pick (lv2 := [(0, .ref _), (1, .int _), (2, .int _), (3, .int _), (4, .int _)]) [1, 2, 0, 3, 4] rfl (e_Mod_asked_J70 k24 hk24 _ _ _ _ _ _)
def Mod_asked_L24 (n : Nat) : Nat → Int32 → Int32 → Int32 → Int32 → Mm → Option (Int32 × Mm) :=
  match n with
  | 0 => fun _ _ _ _ _ _ => none
  | n + 1 => Mod_asked_B24 (Mod_asked_L24 n)
theorem e_Mod_asked_L24 {G : Gx} : ∀ (n : Nat) (x0 : Nat) (x1 : Int32) (x2 : Int32) (x3 : Int32) (x4 : Int32) (M : Mm), EJ G Y_Mod_asked cvI 4 24 [(0, .ref x0), (1, .int x1), (2, .int x2), (3, .int x3), (4, .int x4)] [] M (Mod_asked_L24 n x0 x1 x2 x3 x4 M) := by
  intro n
  induction n with
  | zero => intros; exact EJ_none
  | succ n ih => intro x0 x1 x2 x3 x4 M; exact e_Mod_asked_B24 _ ih x0 x1 x2 x3 x4 M
def Mod_asked (M : Mm) (a0 : Nat) (a1 : Int32) : Option (Int32 × Mm) :=
  bd (Mod_bare M a1) (fun r1 M2 =>
  ck (kO M2 a0 12 107) (
  bd (Mod_inForce M2 a0) (fun r4 M5 =>
  if 0 ≤ r4 then (
    ck (kO M5 a0 12 107) (
    nn (mR M5 a0 38) (fun b7 =>
    ck (kA M5 b7 20 r4) (
    let v9 : Int32 := mI M5 b7 (ix r4)
    Mod_asked_L24 fu a0 a1 r1 r4 v9 M5))))
  else (
    some (r1, M5)))))
set_option maxRecDepth 100000 in
set_option maxHeartbeats 4000000 in
theorem s_Mod_asked (G : Gx) (M : Mm) (a0 : Nat) (a1 : Int32) : FnS G Y_Mod_asked cvI 4 [.ref a0, .int a1] M (Mod_asked M a0 a1) := by
  refine FnS.ofE (by decide) (Nat.le_of_ble_eq_true rfl) ?_
  show EJ G Y_Mod_asked cvI 4 0 [(0, .ref a0), (1, .int a1)] [] M _
  unfold Mod_asked
  refine EJ_iload_n 1 1 (dk_27 (bt bc_Mod_asked_0 0 rfl)) rfl rfl ?_
  refine EJ_callSi (Y2 := Y_Mod_bare) 4 (s_Mod_bare G _ _) rfl (dk_184 (bt bc_Mod_asked_0 1 rfl) (bt bc_Mod_asked_0 2 rfl) (bt bc_Mod_asked_0 3 rfl) (n := 501) rfl) rfl tw_1612 tw_1613 tw_8 tw_1614 hd_Mod_bare rfl (by decide) (Nat.le_of_ble_eq_true rfl) (fun r1 M2 => ?_)
  refine EJ_istore_n 5 (lv2 := [(2, .int _), (0, .ref _), (1, .int _)]) (dk_61 (bt bc_Mod_asked_0 4 rfl)) rfl (by decide) rfl ?_
  refine EJ_aload_n 6 1 (dk_42 (bt bc_Mod_asked_0 5 rfl)) rfl rfl ?_
  refine EJ_ck (fun h3 => ?_)
  refine EJ_callVi (Y2 := Y_Mod_inForce) 9 cf12 (s_Mod_inForce G _ _) (of_decide_eq_true h3) rfl (dk_182 (bt bc_Mod_asked_0 6 rfl) (bt bc_Mod_asked_0 7 rfl) (bt bc_Mod_asked_0 8 rfl) (n := 504) rfl) rfl tw_1615 tw_1617 ts_45 tw_1618 hd_Mod_inForce rfl (by decide) (Nat.le_of_ble_eq_true rfl) (fun r4 M5 => ?_)
  refine EJ_istore_n 10 (lv2 := [(3, .int _), (2, .int _), (0, .ref _), (1, .int _)]) (dk_62 (bt bc_Mod_asked_0 9 rfl)) rfl (by decide) rfl ?_
  refine EJ_iload_n 11 0 (dk_29 (bt bc_Mod_asked_0 10 rfl)) rfl rfl ?_
  refine EJ_if_ge 16 14 (dk_156 (bt bc_Mod_asked_0 11 rfl) (bt bc_Mod_asked_0 12 rfl) (bt bc_Mod_asked_0 13 rfl) (n := 5) rfl) (by decide) rfl (fun _ => ?_) (fun _ => ?_)
  · refine EJ_aload_n 17 2 (dk_42 (bt bc_Mod_asked_0 16 rfl)) rfl rfl ?_
    refine EJ_ck (fun h6 => ?_)
    refine EJ_getR cf12 38 (by decide) 20 tw_1236 (fun _ _ _ => rfl) (dk_180 (bt bc_Mod_asked_0 17 rfl) (bt bc_Mod_asked_0 18 rfl) (bt bc_Mod_asked_0 19 rfl) (n := 94) rfl) rfl (of_decide_eq_true h6) (fun b7 => ?_)
    refine EJ_iload_n 21 0 (dk_29 (bt bc_Mod_asked_0 20 rfl)) rfl rfl ?_
    refine EJ_ck (fun h8 => ?_)
    refine EJ_iald 22 h8 (dk_46 (bt bc_Mod_asked_0 21 rfl)) rfl ?_
    refine EJ_istore 24 (lv2 := [(4, .int _), (3, .int _), (2, .int _), (0, .ref _), (1, .int _)]) (dk_54 (bt bc_Mod_asked_0 22 rfl) (bt bc_Mod_asked_0 23 rfl)) rfl (by decide) rfl ?_
    exact EJ_pick (lv2 := [(0, .ref _), (1, .int _), (2, .int _), (3, .int _), (4, .int _)]) [3, 4, 2, 1, 0] rfl (e_Mod_asked_L24 fu _ _ _ _ _ _)
  · refine EJ_iload_n 15 1 (dk_28 (bt bc_Mod_asked_0 14 rfl)) rfl rfl ?_
    exact EJ_iret rfl (dk_172 (bt bc_Mod_asked_0 15 rfl))
abbrev Y_Mod_spoil : Ym := (⟨"RiceHallModel", "spoil", "(II)I"⟩, prog_14_method_26_code, 7, (some FieldType.int))
theorem bc_Mod_spoil_0 : bts prog_14_method_26_code 0 [42, 27, 182, 1, 19, 153, 0, 13, 28, 3, 16, 100, 184, 0, 252, 154, 0, 5, 2, 172, 42, 16, 9, 182, 1, 46, 4, 160, 0, 7, 4, 167] := bts_of (by decide +kernel)
theorem bc_Mod_spoil_1 : bts prog_14_method_26_code 32 [0, 4, 3, 62, 42, 180, 0, 58, 27, 46, 28, 104, 16, 100, 108, 54, 4, 42, 180, 0, 58, 27, 92, 46, 21, 4, 100, 79, 42, 180, 0, 70] := bts_of (by decide +kernel)
theorem bc_Mod_spoil_2 : bts prog_14_method_26_code 64 [27, 92, 46, 21, 4, 96, 79, 29, 153, 0, 66, 3, 54, 5, 21, 5, 42, 180, 1, 13, 162, 0, 54, 42, 180, 0, 55, 7, 21, 5, 104, 27] := bts_of (by decide +kernel)
theorem bc_Mod_spoil_3 : bts prog_14_method_26_code 96 [96, 46, 28, 104, 16, 100, 108, 54, 6, 42, 180, 0, 55, 7, 21, 5, 104, 27, 96, 92, 46, 21, 6, 100, 79, 42, 180, 0, 67, 27, 92, 46] := bts_of (by decide +kernel)
theorem bc_Mod_spoil_4 : bts prog_14_method_26_code 128 [21, 6, 96, 79, 132, 5, 1, 167, 255, 199, 21, 4, 172] := bts_of (by decide +kernel)
theorem hd_Mod_spoil : Y_Mod_spoil.1.cls = RX12 ∧ Y_Mod_spoil.1.cls ≠ "java/lang/invoke/MethodHandle" ∧ Y_Mod_spoil.1.cls ≠ "java/lang/invoke/VarHandle" ∧ (parseMethodDescriptor Y_Mod_spoil.1.desc).map (fun d => d.parameters.length) = some 2 := by decide +kernel
def Mod_spoil_B78 (k78 : Nat → Int32 → Int32 → Int32 → Int32 → Mm → Option (Int32 × Mm)) (x0 : Nat) (x1 : Int32) (x2 : Int32) (x4 : Int32) (x5 : Int32) (M : Mm) : Option (Int32 × Mm) :=
  ck (kO M x0 12 107) (
  if (mI M x0 9) ≤ x5 then (
    some (x4, M))
  else (
    nn (mR M x0 17) (fun b20 =>
    ck (kA M b20 20 ((4 * x5) + x1)) (
    let v22 : Int32 := ((mI M b20 (ix ((4 * x5) + x1))) * x2) / 100
    nn (mR M x0 17) (fun b23 =>
    ck (kA M b23 20 ((4 * x5) + x1)) (
    let M25 := sI M b23 (ix ((4 * x5) + x1)) ((mI M b23 (ix ((4 * x5) + x1))) - v22)
    nn (mR M25 x0 28) (fun b26 =>
    ck (kA M25 b26 20 x1) (
    let M28 := sI M25 b26 (ix x1) ((mI M25 b26 (ix x1)) + v22)
    let v29 : Int32 := x5 + 1
    k78 x0 x1 x2 x4 v29 M28))))))))
set_option maxRecDepth 100000 in
set_option maxHeartbeats 4000000 in
theorem e_Mod_spoil_B78 {G : Gx} (k78 : Nat → Int32 → Int32 → Int32 → Int32 → Mm → Option (Int32 × Mm)) (hk78 : ∀ (x0 : Nat) (x1 : Int32) (x2 : Int32) (x4 : Int32) (x5 : Int32) (M : Mm), EJ G Y_Mod_spoil cvI 5 78 [(0, .ref x0), (1, .int x1), (2, .int x2), (4, .int x4), (5, .int x5)] [] M (k78 x0 x1 x2 x4 x5 M)) (x0 : Nat) (x1 : Int32) (x2 : Int32) (x4 : Int32) (x5 : Int32) (M : Mm) : EJ G Y_Mod_spoil cvI 5 78 [(0, .ref x0), (1, .int x1), (2, .int x2), (4, .int x4), (5, .int x5)] [] M (Mod_spoil_B78 k78 x0 x1 x2 x4 x5 M) := by
  unfold Mod_spoil_B78
  refine EJ_iload 80 4 (dk_21 (bt bc_Mod_spoil_2 14 rfl) (bt bc_Mod_spoil_2 15 rfl)) rfl rfl ?_
  refine EJ_aload_n 81 0 (dk_42 (bt bc_Mod_spoil_2 16 rfl)) rfl rfl ?_
  refine EJ_ck (fun h19 => ?_)
  refine EJ_getI cf12 9 (by decide) 84 tw_1207 (fun _ _ _ => rfl) (dk_180 (bt bc_Mod_spoil_2 17 rfl) (bt bc_Mod_spoil_2 18 rfl) (bt bc_Mod_spoil_2 19 rfl) (n := 269) rfl) rfl (of_decide_eq_true h19) ?_
  refine EJ_icmp_ge 138 87 (dk_162 (bt bc_Mod_spoil_2 20 rfl) (bt bc_Mod_spoil_2 21 rfl) (bt bc_Mod_spoil_2 22 rfl) (n := 54) rfl) (by decide) rfl (fun _ => ?_) (fun _ => ?_)
  · refine EJ_iload 140 3 (dk_21 (bt bc_Mod_spoil_4 10 rfl) (bt bc_Mod_spoil_4 11 rfl)) rfl rfl ?_
    exact EJ_iret rfl (dk_172 (bt bc_Mod_spoil_4 12 rfl))
  · refine EJ_aload_n 88 0 (dk_42 (bt bc_Mod_spoil_2 23 rfl)) rfl rfl ?_
    refine EJ_getR cf12 17 (by decide) 91 tw_1215 (fun _ _ _ => rfl) (dk_180 (bt bc_Mod_spoil_2 24 rfl) (bt bc_Mod_spoil_2 25 rfl) (bt bc_Mod_spoil_2 26 rfl) (n := 55) rfl) rfl (of_decide_eq_true h19) (fun b20 => ?_)
    refine EJ_iconst 92 (dk_7 (bt bc_Mod_spoil_2 27 rfl)) rfl (v := 4) kI_4 ?_
    refine EJ_iload 94 4 (dk_21 (bt bc_Mod_spoil_2 28 rfl) (bt bc_Mod_spoil_2 29 rfl)) rfl rfl ?_
    refine EJ_imul 95 (dk_104 (bt bc_Mod_spoil_2 30 rfl)) rfl ?_
    refine EJ_iload_n 96 1 (dk_27 (bt bc_Mod_spoil_2 31 rfl)) rfl rfl ?_
    refine EJ_iadd 97 (dk_96 (bt bc_Mod_spoil_3 0 rfl)) rfl ?_
    refine EJ_ck (fun h21 => ?_)
    refine EJ_iald 98 h21 (dk_46 (bt bc_Mod_spoil_3 1 rfl)) rfl ?_
    refine EJ_iload_n 99 2 (dk_28 (bt bc_Mod_spoil_3 2 rfl)) rfl rfl ?_
    refine EJ_imul 100 (dk_104 (bt bc_Mod_spoil_3 3 rfl)) rfl ?_
    refine EJ_bipush 102 (dk_16 (bt bc_Mod_spoil_3 4 rfl) (bt bc_Mod_spoil_3 5 rfl) (n := 100) rfl) rfl (v := 100) kB_100 ?_
    refine EJ_idiv 103 (dk_108 (bt bc_Mod_spoil_3 6 rfl)) rfl (by decide) ?_
    refine EJ_istore 105 (lv2 := [(6, .int _), (0, .ref _), (1, .int _), (2, .int _), (4, .int _), (5, .int _)]) (dk_54 (bt bc_Mod_spoil_3 7 rfl) (bt bc_Mod_spoil_3 8 rfl)) rfl (by decide) rfl ?_
    refine EJ_aload_n 106 1 (dk_42 (bt bc_Mod_spoil_3 9 rfl)) rfl rfl ?_
    refine EJ_getR cf12 17 (by decide) 109 tw_1215 (fun _ _ _ => rfl) (dk_180 (bt bc_Mod_spoil_3 10 rfl) (bt bc_Mod_spoil_3 11 rfl) (bt bc_Mod_spoil_3 12 rfl) (n := 55) rfl) rfl (of_decide_eq_true h19) (fun b23 => ?_)
    refine EJ_iconst 110 (dk_7 (bt bc_Mod_spoil_3 13 rfl)) rfl (v := 4) kI_4 ?_
    refine EJ_iload 112 5 (dk_21 (bt bc_Mod_spoil_3 14 rfl) (bt bc_Mod_spoil_3 15 rfl)) rfl rfl ?_
    refine EJ_imul 113 (dk_104 (bt bc_Mod_spoil_3 16 rfl)) rfl ?_
    refine EJ_iload_n 114 2 (dk_27 (bt bc_Mod_spoil_3 17 rfl)) rfl rfl ?_
    refine EJ_iadd 115 (dk_96 (bt bc_Mod_spoil_3 18 rfl)) rfl ?_
    refine EJ_dup2 116 (dk_92 (bt bc_Mod_spoil_3 19 rfl)) rfl rfl rfl ?_
    refine EJ_ck (fun h24 => ?_)
    refine EJ_iald 117 h24 (dk_46 (bt bc_Mod_spoil_3 20 rfl)) rfl ?_
    refine EJ_iload 119 0 (dk_21 (bt bc_Mod_spoil_3 21 rfl) (bt bc_Mod_spoil_3 22 rfl)) rfl rfl ?_
    refine EJ_isub 120 (dk_100 (bt bc_Mod_spoil_3 23 rfl)) rfl ?_
    refine EJ_iast 121 h24 (dk_79 (bt bc_Mod_spoil_3 24 rfl)) rfl ?_
    refine EJ_aload_n 122 1 (dk_42 (bt bc_Mod_spoil_3 25 rfl)) rfl rfl ?_
    refine EJ_getR cf12 28 (by decide) 125 tw_1226 (fun _ _ _ => rfl) (dk_180 (bt bc_Mod_spoil_3 26 rfl) (bt bc_Mod_spoil_3 27 rfl) (bt bc_Mod_spoil_3 28 rfl) (n := 67) rfl) rfl (kp_I (of_decide_eq_true h19)) (fun b26 => ?_)
    refine EJ_iload_n 126 2 (dk_27 (bt bc_Mod_spoil_3 29 rfl)) rfl rfl ?_
    refine EJ_dup2 127 (dk_92 (bt bc_Mod_spoil_3 30 rfl)) rfl rfl rfl ?_
    refine EJ_ck (fun h27 => ?_)
    refine EJ_iald 128 h27 (dk_46 (bt bc_Mod_spoil_3 31 rfl)) rfl ?_
    refine EJ_iload 130 0 (dk_21 (bt bc_Mod_spoil_4 0 rfl) (bt bc_Mod_spoil_4 1 rfl)) rfl rfl ?_
    refine EJ_iadd 131 (dk_96 (bt bc_Mod_spoil_4 2 rfl)) rfl ?_
    refine EJ_iast 132 h27 (dk_79 (bt bc_Mod_spoil_4 3 rfl)) rfl ?_
    refine EJ_iinc 135 5 (lv2 := [(5, .int _), (6, .int _), (0, .ref _), (1, .int _), (2, .int _), (4, .int _)]) (dk_132 (bt bc_Mod_spoil_4 4 rfl) (bt bc_Mod_spoil_4 5 rfl) (bt bc_Mod_spoil_4 6 rfl) (n := 1) rfl) rfl (by decide) rfl (v := 1) kI_1 rfl ?_
    refine EJ_goto 78 (dk_167 (bt bc_Mod_spoil_4 7 rfl) (bt bc_Mod_spoil_4 8 rfl) (bt bc_Mod_spoil_4 9 rfl) (n := -57) rfl) (by decide) ?_
    exact EJ_pick (lv2 := [(0, .ref _), (1, .int _), (2, .int _), (4, .int _), (5, .int _)]) [2, 3, 4, 5, 0] rfl (hk78 _ _ _ _ _ _)
def Mod_spoil_L78 (n : Nat) : Nat → Int32 → Int32 → Int32 → Int32 → Mm → Option (Int32 × Mm) :=
  match n with
  | 0 => fun _ _ _ _ _ _ => none
  | n + 1 => Mod_spoil_B78 (Mod_spoil_L78 n)
theorem e_Mod_spoil_L78 {G : Gx} : ∀ (n : Nat) (x0 : Nat) (x1 : Int32) (x2 : Int32) (x4 : Int32) (x5 : Int32) (M : Mm), EJ G Y_Mod_spoil cvI 5 78 [(0, .ref x0), (1, .int x1), (2, .int x2), (4, .int x4), (5, .int x5)] [] M (Mod_spoil_L78 n x0 x1 x2 x4 x5 M) := by
  intro n
  induction n with
  | zero => intros; exact EJ_none
  | succ n ih => intro x0 x1 x2 x4 x5 M; exact e_Mod_spoil_B78 _ ih x0 x1 x2 x4 x5 M
def Mod_spoil_J35 (x0 : Nat) (x1 : Int32) (x2 : Int32) (s0 : Int32) (M : Mm) : Option (Int32 × Mm) :=
  ck (kO M x0 12 107) (
  nn (mR M x0 25) (fun b10 =>
  ck (kA M b10 20 x1) (
  let v12 : Int32 := ((mI M b10 (ix x1)) * x2) / 100
  nn (mR M x0 25) (fun b13 =>
  ck (kA M b13 20 x1) (
  let M15 := sI M b13 (ix x1) ((mI M b13 (ix x1)) - v12)
  nn (mR M15 x0 29) (fun b16 =>
  ck (kA M15 b16 20 x1) (
  let M18 := sI M15 b16 (ix x1) ((mI M15 b16 (ix x1)) + v12)
  if s0 = 0 then (
    some (v12, M18))
  else (
    Mod_spoil_L78 fu x0 x1 x2 v12 0 M18))))))))
set_option maxRecDepth 100000 in
set_option maxHeartbeats 4000000 in
theorem e_Mod_spoil_J35 {G : Gx} (x0 : Nat) (x1 : Int32) (x2 : Int32) (s0 : Int32) (M : Mm) : EJ G Y_Mod_spoil cvI 5 35 [(0, .ref x0), (1, .int x1), (2, .int x2)] [.int s0] M (Mod_spoil_J35 x0 x1 x2 s0 M) := by
  unfold Mod_spoil_J35
  refine EJ_istore_n 36 (lv2 := [(3, .int _), (0, .ref _), (1, .int _), (2, .int _)]) (dk_62 (bt bc_Mod_spoil_1 3 rfl)) rfl (by decide) rfl ?_
  refine EJ_aload_n 37 1 (dk_42 (bt bc_Mod_spoil_1 4 rfl)) rfl rfl ?_
  refine EJ_ck (fun h9 => ?_)
  refine EJ_getR cf12 25 (by decide) 40 tw_1223 (fun _ _ _ => rfl) (dk_180 (bt bc_Mod_spoil_1 5 rfl) (bt bc_Mod_spoil_1 6 rfl) (bt bc_Mod_spoil_1 7 rfl) (n := 58) rfl) rfl (of_decide_eq_true h9) (fun b10 => ?_)
  refine EJ_iload_n 41 2 (dk_27 (bt bc_Mod_spoil_1 8 rfl)) rfl rfl ?_
  refine EJ_ck (fun h11 => ?_)
  refine EJ_iald 42 h11 (dk_46 (bt bc_Mod_spoil_1 9 rfl)) rfl ?_
  refine EJ_iload_n 43 3 (dk_28 (bt bc_Mod_spoil_1 10 rfl)) rfl rfl ?_
  refine EJ_imul 44 (dk_104 (bt bc_Mod_spoil_1 11 rfl)) rfl ?_
  refine EJ_bipush 46 (dk_16 (bt bc_Mod_spoil_1 12 rfl) (bt bc_Mod_spoil_1 13 rfl) (n := 100) rfl) rfl (v := 100) kB_100 ?_
  refine EJ_idiv 47 (dk_108 (bt bc_Mod_spoil_1 14 rfl)) rfl (by decide) ?_
  refine EJ_istore 49 (lv2 := [(4, .int _), (3, .int _), (0, .ref _), (1, .int _), (2, .int _)]) (dk_54 (bt bc_Mod_spoil_1 15 rfl) (bt bc_Mod_spoil_1 16 rfl)) rfl (by decide) rfl ?_
  refine EJ_aload_n 50 2 (dk_42 (bt bc_Mod_spoil_1 17 rfl)) rfl rfl ?_
  refine EJ_getR cf12 25 (by decide) 53 tw_1223 (fun _ _ _ => rfl) (dk_180 (bt bc_Mod_spoil_1 18 rfl) (bt bc_Mod_spoil_1 19 rfl) (bt bc_Mod_spoil_1 20 rfl) (n := 58) rfl) rfl (of_decide_eq_true h9) (fun b13 => ?_)
  refine EJ_iload_n 54 3 (dk_27 (bt bc_Mod_spoil_1 21 rfl)) rfl rfl ?_
  refine EJ_dup2 55 (dk_92 (bt bc_Mod_spoil_1 22 rfl)) rfl rfl rfl ?_
  refine EJ_ck (fun h14 => ?_)
  refine EJ_iald 56 h14 (dk_46 (bt bc_Mod_spoil_1 23 rfl)) rfl ?_
  refine EJ_iload 58 0 (dk_21 (bt bc_Mod_spoil_1 24 rfl) (bt bc_Mod_spoil_1 25 rfl)) rfl rfl ?_
  refine EJ_isub 59 (dk_100 (bt bc_Mod_spoil_1 26 rfl)) rfl ?_
  refine EJ_iast 60 h14 (dk_79 (bt bc_Mod_spoil_1 27 rfl)) rfl ?_
  refine EJ_aload_n 61 2 (dk_42 (bt bc_Mod_spoil_1 28 rfl)) rfl rfl ?_
  refine EJ_getR cf12 29 (by decide) 64 tw_1227 (fun _ _ _ => rfl) (dk_180 (bt bc_Mod_spoil_1 29 rfl) (bt bc_Mod_spoil_1 30 rfl) (bt bc_Mod_spoil_1 31 rfl) (n := 70) rfl) rfl (kp_I (of_decide_eq_true h9)) (fun b16 => ?_)
  refine EJ_iload_n 65 3 (dk_27 (bt bc_Mod_spoil_2 0 rfl)) rfl rfl ?_
  refine EJ_dup2 66 (dk_92 (bt bc_Mod_spoil_2 1 rfl)) rfl rfl rfl ?_
  refine EJ_ck (fun h17 => ?_)
  refine EJ_iald 67 h17 (dk_46 (bt bc_Mod_spoil_2 2 rfl)) rfl ?_
  refine EJ_iload 69 0 (dk_21 (bt bc_Mod_spoil_2 3 rfl) (bt bc_Mod_spoil_2 4 rfl)) rfl rfl ?_
  refine EJ_iadd 70 (dk_96 (bt bc_Mod_spoil_2 5 rfl)) rfl ?_
  refine EJ_iast 71 h17 (dk_79 (bt bc_Mod_spoil_2 6 rfl)) rfl ?_
  refine EJ_iload_n 72 1 (dk_29 (bt bc_Mod_spoil_2 7 rfl)) rfl rfl ?_
  refine EJ_if_eq 138 75 (dk_153 (bt bc_Mod_spoil_2 8 rfl) (bt bc_Mod_spoil_2 9 rfl) (bt bc_Mod_spoil_2 10 rfl) (n := 66) rfl) (by decide) rfl (fun _ => ?_) (fun _ => ?_)
  · refine EJ_iload 140 0 (dk_21 (bt bc_Mod_spoil_4 10 rfl) (bt bc_Mod_spoil_4 11 rfl)) rfl rfl ?_
    exact EJ_iret rfl (dk_172 (bt bc_Mod_spoil_4 12 rfl))
  · refine EJ_iconst 76 (dk_3 (bt bc_Mod_spoil_2 11 rfl)) rfl (v := 0) kI_0 ?_
    refine EJ_istore 78 (lv2 := [(5, .int _), (4, .int _), (3, .int _), (0, .ref _), (1, .int _), (2, .int _)]) (dk_54 (bt bc_Mod_spoil_2 12 rfl) (bt bc_Mod_spoil_2 13 rfl)) rfl (by decide) rfl ?_
    exact EJ_pick (lv2 := [(0, .ref _), (1, .int _), (2, .int _), (4, .int _), (5, .int _)]) [3, 4, 5, 1, 0] rfl (e_Mod_spoil_L78 fu _ _ _ _ _ _)
def Mod_spoil (M : Mm) (a0 : Nat) (a1 : Int32) (a2 : Int32) : Option (Int32 × Mm) :=
  ck (kO M a0 12 107) (
  bd (Mod_isStore M a0 a1) (fun r2 M3 =>
  if r2 = 0 then (
    some ((-1), M3))
  else (
    bd (Mod_in M3 a2 0 100) (fun r4 M5 =>
    if r4 = 0 then (
      some ((-1), M5))
    else (
      ck (kO M5 a0 12 107) (
      bd (Mod_asked M5 a0 9) (fun r7 M8 =>
      if r7 = 1 then (
        Mod_spoil_J35 a0 a1 a2 1 M8)
      else (
        Mod_spoil_J35 a0 a1 a2 0 M8))))))))
set_option maxRecDepth 100000 in
set_option maxHeartbeats 4000000 in
theorem s_Mod_spoil (G : Gx) (M : Mm) (a0 : Nat) (a1 : Int32) (a2 : Int32) : FnS G Y_Mod_spoil cvI 5 [.ref a0, .int a1, .int a2] M (Mod_spoil M a0 a1 a2) := by
  refine FnS.ofE (by decide) (Nat.le_of_ble_eq_true rfl) ?_
  show EJ G Y_Mod_spoil cvI 5 0 [(0, .ref a0), (1, .int a1), (2, .int a2)] [] M _
  unfold Mod_spoil
  refine EJ_aload_n 1 0 (dk_42 (bt bc_Mod_spoil_0 0 rfl)) rfl rfl ?_
  refine EJ_iload_n 2 1 (dk_27 (bt bc_Mod_spoil_0 1 rfl)) rfl rfl ?_
  refine EJ_ck (fun h1 => ?_)
  refine EJ_callVi (Y2 := Y_Mod_isStore) 5 cf12 (s_Mod_isStore G _ _ _) (of_decide_eq_true h1) rfl (dk_182 (bt bc_Mod_spoil_0 2 rfl) (bt bc_Mod_spoil_0 3 rfl) (bt bc_Mod_spoil_0 4 rfl) (n := 275) rfl) rfl tw_1572 tw_1574 ts_40 tw_1575 hd_Mod_isStore rfl (by decide) (Nat.le_of_ble_eq_true rfl) (fun r2 M3 => ?_)
  refine EJ_if_eq 18 8 (dk_153 (bt bc_Mod_spoil_0 5 rfl) (bt bc_Mod_spoil_0 6 rfl) (bt bc_Mod_spoil_0 7 rfl) (n := 13) rfl) (by decide) rfl (fun _ => ?_) (fun _ => ?_)
  · refine EJ_iconst 19 (dk_2 (bt bc_Mod_spoil_0 18 rfl)) rfl (v := (-1)) kI_m1 ?_
    exact EJ_iret rfl (dk_172 (bt bc_Mod_spoil_0 19 rfl))
  · refine EJ_iload_n 9 2 (dk_28 (bt bc_Mod_spoil_0 8 rfl)) rfl rfl ?_
    refine EJ_iconst 10 (dk_3 (bt bc_Mod_spoil_0 9 rfl)) rfl (v := 0) kI_0 ?_
    refine EJ_bipush 12 (dk_16 (bt bc_Mod_spoil_0 10 rfl) (bt bc_Mod_spoil_0 11 rfl) (n := 100) rfl) rfl (v := 100) kB_100 ?_
    refine EJ_callSi (Y2 := Y_Mod_in) 15 (s_Mod_in G _ _ _ _) rfl (dk_184 (bt bc_Mod_spoil_0 12 rfl) (bt bc_Mod_spoil_0 13 rfl) (bt bc_Mod_spoil_0 14 rfl) (n := 252) rfl) rfl tw_1532 tw_1533 tw_8 tw_1534 hd_Mod_in rfl (by decide) (Nat.le_of_ble_eq_true rfl) (fun r4 M5 => ?_)
    refine EJ_if_ne 20 18 (dk_154 (bt bc_Mod_spoil_0 15 rfl) (bt bc_Mod_spoil_0 16 rfl) (bt bc_Mod_spoil_0 17 rfl) (n := 5) rfl) (by decide) rfl (fun _ => ?_) (fun _ => ?_)
    · refine EJ_aload_n 21 0 (dk_42 (bt bc_Mod_spoil_0 20 rfl)) rfl rfl ?_
      refine EJ_bipush 23 (dk_16 (bt bc_Mod_spoil_0 21 rfl) (bt bc_Mod_spoil_0 22 rfl) (n := 9) rfl) rfl (v := 9) kB_9 ?_
      refine EJ_ck (fun h6 => ?_)
      refine EJ_callVi (Y2 := Y_Mod_asked) 26 cf12 (s_Mod_asked G _ _ _) (of_decide_eq_true h6) rfl (dk_182 (bt bc_Mod_spoil_0 23 rfl) (bt bc_Mod_spoil_0 24 rfl) (bt bc_Mod_spoil_0 25 rfl) (n := 302) rfl) rfl tw_1608 tw_1610 ts_44 tw_1611 hd_Mod_asked rfl (by decide) (Nat.le_of_ble_eq_true rfl) (fun r7 M8 => ?_)
      refine EJ_iconst 27 (dk_4 (bt bc_Mod_spoil_0 26 rfl)) rfl (v := 1) kI_1 ?_
      refine EJ_icmp_ne 34 30 (dk_160 (bt bc_Mod_spoil_0 27 rfl) (bt bc_Mod_spoil_0 28 rfl) (bt bc_Mod_spoil_0 29 rfl) (n := 7) rfl) (by decide) rfl (fun _ => ?_) (fun _ => ?_)
      · refine EJ_iconst 35 (dk_3 (bt bc_Mod_spoil_1 2 rfl)) rfl (v := 0) kI_0 ?_
        exact EJ_pick (lv2 := [(0, .ref _), (1, .int _), (2, .int _)]) [0, 1, 2] rfl (e_Mod_spoil_J35 _ _ _ _ _)
      · refine EJ_iconst 31 (dk_4 (bt bc_Mod_spoil_0 30 rfl)) rfl (v := 1) kI_1 ?_
        refine EJ_goto 35 (dk_167 (bt bc_Mod_spoil_0 31 rfl) (bt bc_Mod_spoil_1 0 rfl) (bt bc_Mod_spoil_1 1 rfl) (n := 4) rfl) (by decide) ?_
        exact EJ_pick (lv2 := [(0, .ref _), (1, .int _), (2, .int _)]) [0, 1, 2] rfl (e_Mod_spoil_J35 _ _ _ _ _)
    · refine EJ_iconst 19 (dk_2 (bt bc_Mod_spoil_0 18 rfl)) rfl (v := (-1)) kI_m1 ?_
      exact EJ_iret rfl (dk_172 (bt bc_Mod_spoil_0 19 rfl))
abbrev Y_Mod_max : Ym := (⟨"RiceHallModel", "max", "(II)I"⟩, prog_14_method_6_code, 2, (some FieldType.int))
theorem bc_Mod_max_0 : bts prog_14_method_6_code 0 [26, 27, 164, 0, 7, 26, 167, 0, 4, 27, 172] := bts_of (by decide +kernel)
theorem hd_Mod_max : Y_Mod_max.1.cls ≠ "java/lang/invoke/MethodHandle" ∧ Y_Mod_max.1.cls ≠ "java/lang/invoke/VarHandle" ∧ (parseMethodDescriptor Y_Mod_max.1.desc).map (fun d => d.parameters.length) = some 2 := by decide +kernel
def Mod_max (M : Mm) (a0 : Int32) (a1 : Int32) : Option (Int32 × Mm) :=
  if a0 ≤ a1 then (
    some (a1, M))
  else (
    some (a0, M))
set_option maxRecDepth 100000 in
set_option maxHeartbeats 4000000 in
theorem s_Mod_max (G : Gx) (M : Mm) (a0 : Int32) (a1 : Int32) : FnS G Y_Mod_max cvI 1 [.int a0, .int a1] M (Mod_max M a0 a1) := by
  refine FnS.ofE (by decide) (Nat.le_of_ble_eq_true rfl) ?_
  show EJ G Y_Mod_max cvI 1 0 [(0, .int a0), (1, .int a1)] [] M _
  unfold Mod_max
  refine EJ_iload_n 1 0 (dk_26 (bt bc_Mod_max_0 0 rfl)) rfl rfl ?_
  refine EJ_iload_n 2 1 (dk_27 (bt bc_Mod_max_0 1 rfl)) rfl rfl ?_
  refine EJ_icmp_le 9 5 (dk_164 (bt bc_Mod_max_0 2 rfl) (bt bc_Mod_max_0 3 rfl) (bt bc_Mod_max_0 4 rfl) (n := 7) rfl) (by decide) rfl (fun _ => ?_) (fun _ => ?_)
  · refine EJ_iload_n 10 1 (dk_27 (bt bc_Mod_max_0 9 rfl)) rfl rfl ?_
    exact EJ_iret rfl (dk_172 (bt bc_Mod_max_0 10 rfl))
  · refine EJ_iload_n 6 0 (dk_26 (bt bc_Mod_max_0 5 rfl)) rfl rfl ?_
    refine EJ_goto 10 (dk_167 (bt bc_Mod_max_0 6 rfl) (bt bc_Mod_max_0 7 rfl) (bt bc_Mod_max_0 8 rfl) (n := 4) rfl) (by decide) ?_
    exact EJ_iret rfl (dk_172 (bt bc_Mod_max_0 10 rfl))
abbrev Y_Mod_over : Ym := (⟨"RiceHallModel", "over", "(II)I"⟩, prog_14_method_27_code, 5, (some FieldType.int))
theorem bc_Mod_over_0 : bts prog_14_method_27_code 0 [42, 27, 182, 1, 19, 153, 0, 15, 28, 3, 42, 180, 1, 28, 184, 0, 252, 154, 0, 5, 2, 172, 3, 62, 3, 54, 4, 21, 4, 42, 180, 1] := bts_of (by decide +kernel)
theorem bc_Mod_over_1 : bts prog_14_method_27_code 32 [25, 162, 0, 41, 42, 180, 0, 73, 21, 4, 46, 27, 160, 0, 24, 42, 180, 0, 79, 21, 4, 46, 28, 163, 0, 13, 29, 42, 180, 0, 76, 21] := bts_of (by decide +kernel)
theorem bc_Mod_over_2 : bts prog_14_method_27_code 64 [4, 46, 96, 62, 132, 4, 1, 167, 255, 212, 3, 29, 42, 180, 0, 64, 27, 46, 100, 42, 180, 0, 67, 27, 46, 100, 42, 180, 0, 58, 27, 46] := bts_of (by decide +kernel)
theorem bc_Mod_over_3 : bts prog_14_method_27_code 96 [100, 184, 1, 49, 172] := bts_of (by decide +kernel)
theorem hd_Mod_over : Y_Mod_over.1.cls = RX12 ∧ Y_Mod_over.1.cls ≠ "java/lang/invoke/MethodHandle" ∧ Y_Mod_over.1.cls ≠ "java/lang/invoke/VarHandle" ∧ (parseMethodDescriptor Y_Mod_over.1.desc).map (fun d => d.parameters.length) = some 2 := by decide +kernel
def Mod_over_J68 (k27 : Nat → Int32 → Int32 → Int32 → Int32 → Mm → Option (Int32 × Mm)) (x0 : Nat) (x1 : Int32) (x2 : Int32) (x3 : Int32) (x4 : Int32) (M : Mm) : Option (Int32 × Mm) :=
  let v18 : Int32 := x4 + 1
  k27 x0 x1 x2 x3 v18 M
set_option maxRecDepth 100000 in
set_option maxHeartbeats 4000000 in
theorem e_Mod_over_J68 {G : Gx} (k27 : Nat → Int32 → Int32 → Int32 → Int32 → Mm → Option (Int32 × Mm)) (hk27 : ∀ (x0 : Nat) (x1 : Int32) (x2 : Int32) (x3 : Int32) (x4 : Int32) (M : Mm), EJ G Y_Mod_over cvI 2 27 [(0, .ref x0), (1, .int x1), (2, .int x2), (3, .int x3), (4, .int x4)] [] M (k27 x0 x1 x2 x3 x4 M)) (x0 : Nat) (x1 : Int32) (x2 : Int32) (x3 : Int32) (x4 : Int32) (M : Mm) : EJ G Y_Mod_over cvI 2 68 [(0, .ref x0), (1, .int x1), (2, .int x2), (3, .int x3), (4, .int x4)] [] M (Mod_over_J68 k27 x0 x1 x2 x3 x4 M) := by
  unfold Mod_over_J68
  refine EJ_iinc 71 4 (lv2 := [(4, .int _), (0, .ref _), (1, .int _), (2, .int _), (3, .int _)]) (dk_132 (bt bc_Mod_over_2 4 rfl) (bt bc_Mod_over_2 5 rfl) (bt bc_Mod_over_2 6 rfl) (n := 1) rfl) rfl (by decide) rfl (v := 1) kI_1 rfl ?_
  refine EJ_goto 27 (dk_167 (bt bc_Mod_over_2 7 rfl) (bt bc_Mod_over_2 8 rfl) (bt bc_Mod_over_2 9 rfl) (n := -44) rfl) (by decide) ?_
  exact EJ_pick (lv2 := [(0, .ref _), (1, .int _), (2, .int _), (3, .int _), (4, .int _)]) [1, 2, 3, 4, 0] rfl (hk27 _ _ _ _ _ _)
def Mod_over_B27 (k27 : Nat → Int32 → Int32 → Int32 → Int32 → Mm → Option (Int32 × Mm)) (x0 : Nat) (x1 : Int32) (x2 : Int32) (x3 : Int32) (x4 : Int32) (M : Mm) : Option (Int32 × Mm) :=
  ck (kO M x0 12 107) (
  if (mI M x0 23) ≤ x4 then (
    nn (mR M x0 27) (fun b8 =>
    ck (kA M b8 20 x1) (
    nn (mR M x0 28) (fun b10 =>
    ck (kA M b10 20 x1) (
    nn (mR M x0 25) (fun b12 =>
    ck (kA M b12 20 x1) (
    bd (Mod_max M 0 (((x3 - (mI M b8 (ix x1))) - (mI M b10 (ix x1))) - (mI M b12 (ix x1)))) (fun r14 M15 =>
    some (r14, M15)))))))))
  else (
    nn (mR M x0 30) (fun b16 =>
    ck (kA M b16 20 x4) (
    if (mI M b16 (ix x4)) = x1 then (
      nn (mR M x0 32) (fun b19 =>
      ck (kA M b19 20 x4) (
      if x2 < (mI M b19 (ix x4)) then (
        Mod_over_J68 k27 x0 x1 x2 x3 x4 M)
      else (
        nn (mR M x0 31) (fun b21 =>
        ck (kA M b21 20 x4) (
        let v23 : Int32 := x3 + (mI M b21 (ix x4))
        Mod_over_J68 k27 x0 x1 x2 v23 x4 M))))))
    else (
      Mod_over_J68 k27 x0 x1 x2 x3 x4 M)))))
set_option maxRecDepth 100000 in
set_option maxHeartbeats 4000000 in
theorem e_Mod_over_B27 {G : Gx} (k27 : Nat → Int32 → Int32 → Int32 → Int32 → Mm → Option (Int32 × Mm)) (hk27 : ∀ (x0 : Nat) (x1 : Int32) (x2 : Int32) (x3 : Int32) (x4 : Int32) (M : Mm), EJ G Y_Mod_over cvI 2 27 [(0, .ref x0), (1, .int x1), (2, .int x2), (3, .int x3), (4, .int x4)] [] M (k27 x0 x1 x2 x3 x4 M)) (x0 : Nat) (x1 : Int32) (x2 : Int32) (x3 : Int32) (x4 : Int32) (M : Mm) : EJ G Y_Mod_over cvI 2 27 [(0, .ref x0), (1, .int x1), (2, .int x2), (3, .int x3), (4, .int x4)] [] M (Mod_over_B27 k27 x0 x1 x2 x3 x4 M) := by
  unfold Mod_over_B27
  refine EJ_iload 29 4 (dk_21 (bt bc_Mod_over_0 27 rfl) (bt bc_Mod_over_0 28 rfl)) rfl rfl ?_
  refine EJ_aload_n 30 0 (dk_42 (bt bc_Mod_over_0 29 rfl)) rfl rfl ?_
  refine EJ_ck (fun h7 => ?_)
  refine EJ_getI cf12 23 (by decide) 33 tw_1221 (fun _ _ _ => rfl) (dk_180 (bt bc_Mod_over_0 30 rfl) (bt bc_Mod_over_0 31 rfl) (bt bc_Mod_over_1 0 rfl) (n := 281) rfl) rfl (of_decide_eq_true h7) ?_
  refine EJ_icmp_ge 74 36 (dk_162 (bt bc_Mod_over_1 1 rfl) (bt bc_Mod_over_1 2 rfl) (bt bc_Mod_over_1 3 rfl) (n := 41) rfl) (by decide) rfl (fun _ => ?_) (fun _ => ?_)
  · refine EJ_iconst 75 (dk_3 (bt bc_Mod_over_2 10 rfl)) rfl (v := 0) kI_0 ?_
    refine EJ_iload_n 76 3 (dk_29 (bt bc_Mod_over_2 11 rfl)) rfl rfl ?_
    refine EJ_aload_n 77 0 (dk_42 (bt bc_Mod_over_2 12 rfl)) rfl rfl ?_
    refine EJ_getR cf12 27 (by decide) 80 tw_1225 (fun _ _ _ => rfl) (dk_180 (bt bc_Mod_over_2 13 rfl) (bt bc_Mod_over_2 14 rfl) (bt bc_Mod_over_2 15 rfl) (n := 64) rfl) rfl (of_decide_eq_true h7) (fun b8 => ?_)
    refine EJ_iload_n 81 1 (dk_27 (bt bc_Mod_over_2 16 rfl)) rfl rfl ?_
    refine EJ_ck (fun h9 => ?_)
    refine EJ_iald 82 h9 (dk_46 (bt bc_Mod_over_2 17 rfl)) rfl ?_
    refine EJ_isub 83 (dk_100 (bt bc_Mod_over_2 18 rfl)) rfl ?_
    refine EJ_aload_n 84 0 (dk_42 (bt bc_Mod_over_2 19 rfl)) rfl rfl ?_
    refine EJ_getR cf12 28 (by decide) 87 tw_1226 (fun _ _ _ => rfl) (dk_180 (bt bc_Mod_over_2 20 rfl) (bt bc_Mod_over_2 21 rfl) (bt bc_Mod_over_2 22 rfl) (n := 67) rfl) rfl (of_decide_eq_true h7) (fun b10 => ?_)
    refine EJ_iload_n 88 1 (dk_27 (bt bc_Mod_over_2 23 rfl)) rfl rfl ?_
    refine EJ_ck (fun h11 => ?_)
    refine EJ_iald 89 h11 (dk_46 (bt bc_Mod_over_2 24 rfl)) rfl ?_
    refine EJ_isub 90 (dk_100 (bt bc_Mod_over_2 25 rfl)) rfl ?_
    refine EJ_aload_n 91 0 (dk_42 (bt bc_Mod_over_2 26 rfl)) rfl rfl ?_
    refine EJ_getR cf12 25 (by decide) 94 tw_1223 (fun _ _ _ => rfl) (dk_180 (bt bc_Mod_over_2 27 rfl) (bt bc_Mod_over_2 28 rfl) (bt bc_Mod_over_2 29 rfl) (n := 58) rfl) rfl (of_decide_eq_true h7) (fun b12 => ?_)
    refine EJ_iload_n 95 1 (dk_27 (bt bc_Mod_over_2 30 rfl)) rfl rfl ?_
    refine EJ_ck (fun h13 => ?_)
    refine EJ_iald 96 h13 (dk_46 (bt bc_Mod_over_2 31 rfl)) rfl ?_
    refine EJ_isub 97 (dk_100 (bt bc_Mod_over_3 0 rfl)) rfl ?_
    refine EJ_callSi (Y2 := Y_Mod_max) 100 (s_Mod_max G _ _ _) rfl (dk_184 (bt bc_Mod_over_3 1 rfl) (bt bc_Mod_over_3 2 rfl) (bt bc_Mod_over_3 3 rfl) (n := 305) rfl) rfl tw_1631 tw_1632 tw_8 tw_1633 hd_Mod_max rfl (by decide) (Nat.le_of_ble_eq_true rfl) (fun r14 M15 => ?_)
    exact EJ_iret rfl (dk_172 (bt bc_Mod_over_3 4 rfl))
  · refine EJ_aload_n 37 0 (dk_42 (bt bc_Mod_over_1 4 rfl)) rfl rfl ?_
    refine EJ_getR cf12 30 (by decide) 40 tw_1228 (fun _ _ _ => rfl) (dk_180 (bt bc_Mod_over_1 5 rfl) (bt bc_Mod_over_1 6 rfl) (bt bc_Mod_over_1 7 rfl) (n := 73) rfl) rfl (of_decide_eq_true h7) (fun b16 => ?_)
    refine EJ_iload 42 4 (dk_21 (bt bc_Mod_over_1 8 rfl) (bt bc_Mod_over_1 9 rfl)) rfl rfl ?_
    refine EJ_ck (fun h17 => ?_)
    refine EJ_iald 43 h17 (dk_46 (bt bc_Mod_over_1 10 rfl)) rfl ?_
    refine EJ_iload_n 44 1 (dk_27 (bt bc_Mod_over_1 11 rfl)) rfl rfl ?_
    refine EJ_icmp_ne 68 47 (dk_160 (bt bc_Mod_over_1 12 rfl) (bt bc_Mod_over_1 13 rfl) (bt bc_Mod_over_1 14 rfl) (n := 24) rfl) (by decide) rfl (fun _ => ?_) (fun _ => ?_)
    · exact EJ_pick (lv2 := [(0, .ref _), (1, .int _), (2, .int _), (3, .int _), (4, .int _)]) [0, 1, 2, 3, 4] rfl (e_Mod_over_J68 k27 hk27 _ _ _ _ _ _)
    · refine EJ_aload_n 48 0 (dk_42 (bt bc_Mod_over_1 15 rfl)) rfl rfl ?_
      refine EJ_getR cf12 32 (by decide) 51 tw_1230 (fun _ _ _ => rfl) (dk_180 (bt bc_Mod_over_1 16 rfl) (bt bc_Mod_over_1 17 rfl) (bt bc_Mod_over_1 18 rfl) (n := 79) rfl) rfl (of_decide_eq_true h7) (fun b19 => ?_)
      refine EJ_iload 53 4 (dk_21 (bt bc_Mod_over_1 19 rfl) (bt bc_Mod_over_1 20 rfl)) rfl rfl ?_
      refine EJ_ck (fun h20 => ?_)
      refine EJ_iald 54 h20 (dk_46 (bt bc_Mod_over_1 21 rfl)) rfl ?_
      refine EJ_iload_n 55 2 (dk_28 (bt bc_Mod_over_1 22 rfl)) rfl rfl ?_
      refine EJ_icmp_gt 68 58 (dk_163 (bt bc_Mod_over_1 23 rfl) (bt bc_Mod_over_1 24 rfl) (bt bc_Mod_over_1 25 rfl) (n := 13) rfl) (by decide) rfl (fun _ => ?_) (fun _ => ?_)
      · exact EJ_pick (lv2 := [(0, .ref _), (1, .int _), (2, .int _), (3, .int _), (4, .int _)]) [0, 1, 2, 3, 4] rfl (e_Mod_over_J68 k27 hk27 _ _ _ _ _ _)
      · refine EJ_iload_n 59 3 (dk_29 (bt bc_Mod_over_1 26 rfl)) rfl rfl ?_
        refine EJ_aload_n 60 0 (dk_42 (bt bc_Mod_over_1 27 rfl)) rfl rfl ?_
        refine EJ_getR cf12 31 (by decide) 63 tw_1229 (fun _ _ _ => rfl) (dk_180 (bt bc_Mod_over_1 28 rfl) (bt bc_Mod_over_1 29 rfl) (bt bc_Mod_over_1 30 rfl) (n := 76) rfl) rfl (of_decide_eq_true h7) (fun b21 => ?_)
        refine EJ_iload 65 4 (dk_21 (bt bc_Mod_over_1 31 rfl) (bt bc_Mod_over_2 0 rfl)) rfl rfl ?_
        refine EJ_ck (fun h22 => ?_)
        refine EJ_iald 66 h22 (dk_46 (bt bc_Mod_over_2 1 rfl)) rfl ?_
        refine EJ_iadd 67 (dk_96 (bt bc_Mod_over_2 2 rfl)) rfl ?_
        refine EJ_istore_n 68 (lv2 := [(3, .int _), (0, .ref _), (1, .int _), (2, .int _), (4, .int _)]) (dk_62 (bt bc_Mod_over_2 3 rfl)) rfl (by decide) rfl ?_
        exact EJ_pick (lv2 := [(0, .ref _), (1, .int _), (2, .int _), (3, .int _), (4, .int _)]) [1, 2, 3, 0, 4] rfl (e_Mod_over_J68 k27 hk27 _ _ _ _ _ _)
def Mod_over_L27 (n : Nat) : Nat → Int32 → Int32 → Int32 → Int32 → Mm → Option (Int32 × Mm) :=
  match n with
  | 0 => fun _ _ _ _ _ _ => none
  | n + 1 => Mod_over_B27 (Mod_over_L27 n)
theorem e_Mod_over_L27 {G : Gx} : ∀ (n : Nat) (x0 : Nat) (x1 : Int32) (x2 : Int32) (x3 : Int32) (x4 : Int32) (M : Mm), EJ G Y_Mod_over cvI 2 27 [(0, .ref x0), (1, .int x1), (2, .int x2), (3, .int x3), (4, .int x4)] [] M (Mod_over_L27 n x0 x1 x2 x3 x4 M) := by
  intro n
  induction n with
  | zero => intros; exact EJ_none
  | succ n ih => intro x0 x1 x2 x3 x4 M; exact e_Mod_over_B27 _ ih x0 x1 x2 x3 x4 M
def Mod_over (M : Mm) (a0 : Nat) (a1 : Int32) (a2 : Int32) : Option (Int32 × Mm) :=
  ck (kO M a0 12 107) (
  bd (Mod_isStore M a0 a1) (fun r2 M3 =>
  if r2 = 0 then (
    some ((-1), M3))
  else (
    ck (kO M3 a0 12 107) (
    bd (Mod_in M3 a2 0 (mI M3 a0 0)) (fun r5 M6 =>
    if r5 = 0 then (
      some ((-1), M6))
    else (
      Mod_over_L27 fu a0 a1 a2 0 0 M6))))))
set_option maxRecDepth 100000 in
set_option maxHeartbeats 4000000 in
theorem s_Mod_over (G : Gx) (M : Mm) (a0 : Nat) (a1 : Int32) (a2 : Int32) : FnS G Y_Mod_over cvI 2 [.ref a0, .int a1, .int a2] M (Mod_over M a0 a1 a2) := by
  refine FnS.ofE (by decide) (Nat.le_of_ble_eq_true rfl) ?_
  show EJ G Y_Mod_over cvI 2 0 [(0, .ref a0), (1, .int a1), (2, .int a2)] [] M _
  unfold Mod_over
  refine EJ_aload_n 1 0 (dk_42 (bt bc_Mod_over_0 0 rfl)) rfl rfl ?_
  refine EJ_iload_n 2 1 (dk_27 (bt bc_Mod_over_0 1 rfl)) rfl rfl ?_
  refine EJ_ck (fun h1 => ?_)
  refine EJ_callVi (Y2 := Y_Mod_isStore) 5 cf12 (s_Mod_isStore G _ _ _) (of_decide_eq_true h1) rfl (dk_182 (bt bc_Mod_over_0 2 rfl) (bt bc_Mod_over_0 3 rfl) (bt bc_Mod_over_0 4 rfl) (n := 275) rfl) rfl tw_1572 tw_1574 ts_40 tw_1575 hd_Mod_isStore rfl (by decide) (Nat.le_of_ble_eq_true rfl) (fun r2 M3 => ?_)
  refine EJ_if_eq 20 8 (dk_153 (bt bc_Mod_over_0 5 rfl) (bt bc_Mod_over_0 6 rfl) (bt bc_Mod_over_0 7 rfl) (n := 15) rfl) (by decide) rfl (fun _ => ?_) (fun _ => ?_)
  · refine EJ_iconst 21 (dk_2 (bt bc_Mod_over_0 20 rfl)) rfl (v := (-1)) kI_m1 ?_
    exact EJ_iret rfl (dk_172 (bt bc_Mod_over_0 21 rfl))
  · refine EJ_iload_n 9 2 (dk_28 (bt bc_Mod_over_0 8 rfl)) rfl rfl ?_
    refine EJ_iconst 10 (dk_3 (bt bc_Mod_over_0 9 rfl)) rfl (v := 0) kI_0 ?_
    refine EJ_aload_n 11 0 (dk_42 (bt bc_Mod_over_0 10 rfl)) rfl rfl ?_
    refine EJ_ck (fun h4 => ?_)
    refine EJ_getI cf12 0 (by decide) 14 tw_1198 (fun _ _ _ => rfl) (dk_180 (bt bc_Mod_over_0 11 rfl) (bt bc_Mod_over_0 12 rfl) (bt bc_Mod_over_0 13 rfl) (n := 284) rfl) rfl (of_decide_eq_true h4) ?_
    refine EJ_callSi (Y2 := Y_Mod_in) 17 (s_Mod_in G _ _ _ _) rfl (dk_184 (bt bc_Mod_over_0 14 rfl) (bt bc_Mod_over_0 15 rfl) (bt bc_Mod_over_0 16 rfl) (n := 252) rfl) rfl tw_1532 tw_1533 tw_8 tw_1534 hd_Mod_in rfl (by decide) (Nat.le_of_ble_eq_true rfl) (fun r5 M6 => ?_)
    refine EJ_if_ne 22 20 (dk_154 (bt bc_Mod_over_0 17 rfl) (bt bc_Mod_over_0 18 rfl) (bt bc_Mod_over_0 19 rfl) (n := 5) rfl) (by decide) rfl (fun _ => ?_) (fun _ => ?_)
    · refine EJ_iconst 23 (dk_3 (bt bc_Mod_over_0 22 rfl)) rfl (v := 0) kI_0 ?_
      refine EJ_istore_n 24 (lv2 := [(3, .int _), (0, .ref _), (1, .int _), (2, .int _)]) (dk_62 (bt bc_Mod_over_0 23 rfl)) rfl (by decide) rfl ?_
      refine EJ_iconst 25 (dk_3 (bt bc_Mod_over_0 24 rfl)) rfl (v := 0) kI_0 ?_
      refine EJ_istore 27 (lv2 := [(4, .int _), (3, .int _), (0, .ref _), (1, .int _), (2, .int _)]) (dk_54 (bt bc_Mod_over_0 25 rfl) (bt bc_Mod_over_0 26 rfl)) rfl (by decide) rfl ?_
      exact EJ_pick (lv2 := [(0, .ref _), (1, .int _), (2, .int _), (3, .int _), (4, .int _)]) [2, 3, 4, 1, 0] rfl (e_Mod_over_L27 fu _ _ _ _ _ _)
    · refine EJ_iconst 21 (dk_2 (bt bc_Mod_over_0 20 rfl)) rfl (v := (-1)) kI_m1 ?_
      exact EJ_iret rfl (dk_172 (bt bc_Mod_over_0 21 rfl))
abbrev Y_Mod_firstWait : Ym := (⟨"RiceHallModel", "firstWait", "(I)I"⟩, prog_14_method_28_code, 3, (some FieldType.int))
theorem bc_Mod_firstWait_0 : bts prog_14_method_28_code 0 [3, 61, 28, 42, 180, 1, 35, 162, 0, 30, 42, 180, 0, 82, 28, 46, 27, 160, 0, 14, 42, 180, 0, 88, 28, 46, 158, 0, 5, 28, 172, 132] := bts_of (by decide +kernel)
theorem bc_Mod_firstWait_1 : bts prog_14_method_28_code 32 [2, 1, 167, 255, 224, 2, 172] := bts_of (by decide +kernel)
theorem hd_Mod_firstWait : Y_Mod_firstWait.1.cls = RX12 ∧ Y_Mod_firstWait.1.cls ≠ "java/lang/invoke/MethodHandle" ∧ Y_Mod_firstWait.1.cls ≠ "java/lang/invoke/VarHandle" ∧ (parseMethodDescriptor Y_Mod_firstWait.1.desc).map (fun d => d.parameters.length) = some 1 := by decide +kernel
def Mod_firstWait_J31 (k2 : Nat → Int32 → Int32 → Mm → Option (Int32 × Mm)) (x0 : Nat) (x1 : Int32) (x2 : Int32) (M : Mm) : Option (Int32 × Mm) :=
  let v4 : Int32 := x2 + 1
  k2 x0 x1 v4 M
set_option maxRecDepth 100000 in
set_option maxHeartbeats 4000000 in
theorem e_Mod_firstWait_J31 {G : Gx} (k2 : Nat → Int32 → Int32 → Mm → Option (Int32 × Mm)) (hk2 : ∀ (x0 : Nat) (x1 : Int32) (x2 : Int32) (M : Mm), EJ G Y_Mod_firstWait cvI 1 2 [(0, .ref x0), (1, .int x1), (2, .int x2)] [] M (k2 x0 x1 x2 M)) (x0 : Nat) (x1 : Int32) (x2 : Int32) (M : Mm) : EJ G Y_Mod_firstWait cvI 1 31 [(0, .ref x0), (1, .int x1), (2, .int x2)] [] M (Mod_firstWait_J31 k2 x0 x1 x2 M) := by
  unfold Mod_firstWait_J31
  refine EJ_iinc 34 2 (lv2 := [(2, .int _), (0, .ref _), (1, .int _)]) (dk_132 (bt bc_Mod_firstWait_0 31 rfl) (bt bc_Mod_firstWait_1 0 rfl) (bt bc_Mod_firstWait_1 1 rfl) (n := 1) rfl) rfl (by decide) rfl (v := 1) kI_1 rfl ?_
  refine EJ_goto 2 (dk_167 (bt bc_Mod_firstWait_1 2 rfl) (bt bc_Mod_firstWait_1 3 rfl) (bt bc_Mod_firstWait_1 4 rfl) (n := -32) rfl) (by decide) ?_
  exact EJ_pick (lv2 := [(0, .ref _), (1, .int _), (2, .int _)]) [1, 2, 0] rfl (hk2 _ _ _ _)
def Mod_firstWait_B2 (k2 : Nat → Int32 → Int32 → Mm → Option (Int32 × Mm)) (x0 : Nat) (x1 : Int32) (x2 : Int32) (M : Mm) : Option (Int32 × Mm) :=
  ck (kO M x0 12 107) (
  if (mI M x0 24) ≤ x2 then (
    some ((-1), M))
  else (
    nn (mR M x0 33) (fun b2 =>
    ck (kA M b2 20 x2) (
    if (mI M b2 (ix x2)) = x1 then (
      nn (mR M x0 35) (fun b5 =>
      ck (kA M b5 20 x2) (
      if (mI M b5 (ix x2)) ≤ 0 then (
        Mod_firstWait_J31 k2 x0 x1 x2 M)
      else (
        some (x2, M)))))
    else (
      Mod_firstWait_J31 k2 x0 x1 x2 M)))))
set_option maxRecDepth 100000 in
set_option maxHeartbeats 4000000 in
theorem e_Mod_firstWait_B2 {G : Gx} (k2 : Nat → Int32 → Int32 → Mm → Option (Int32 × Mm)) (hk2 : ∀ (x0 : Nat) (x1 : Int32) (x2 : Int32) (M : Mm), EJ G Y_Mod_firstWait cvI 1 2 [(0, .ref x0), (1, .int x1), (2, .int x2)] [] M (k2 x0 x1 x2 M)) (x0 : Nat) (x1 : Int32) (x2 : Int32) (M : Mm) : EJ G Y_Mod_firstWait cvI 1 2 [(0, .ref x0), (1, .int x1), (2, .int x2)] [] M (Mod_firstWait_B2 k2 x0 x1 x2 M) := by
  unfold Mod_firstWait_B2
  refine EJ_iload_n 3 2 (dk_28 (bt bc_Mod_firstWait_0 2 rfl)) rfl rfl ?_
  refine EJ_aload_n 4 0 (dk_42 (bt bc_Mod_firstWait_0 3 rfl)) rfl rfl ?_
  refine EJ_ck (fun h1 => ?_)
  refine EJ_getI cf12 24 (by decide) 7 tw_1222 (fun _ _ _ => rfl) (dk_180 (bt bc_Mod_firstWait_0 4 rfl) (bt bc_Mod_firstWait_0 5 rfl) (bt bc_Mod_firstWait_0 6 rfl) (n := 291) rfl) rfl (of_decide_eq_true h1) ?_
  refine EJ_icmp_ge 37 10 (dk_162 (bt bc_Mod_firstWait_0 7 rfl) (bt bc_Mod_firstWait_0 8 rfl) (bt bc_Mod_firstWait_0 9 rfl) (n := 30) rfl) (by decide) rfl (fun _ => ?_) (fun _ => ?_)
  · refine EJ_iconst 38 (dk_2 (bt bc_Mod_firstWait_1 5 rfl)) rfl (v := (-1)) kI_m1 ?_
    exact EJ_iret rfl (dk_172 (bt bc_Mod_firstWait_1 6 rfl))
  · refine EJ_aload_n 11 0 (dk_42 (bt bc_Mod_firstWait_0 10 rfl)) rfl rfl ?_
    refine EJ_getR cf12 33 (by decide) 14 tw_1231 (fun _ _ _ => rfl) (dk_180 (bt bc_Mod_firstWait_0 11 rfl) (bt bc_Mod_firstWait_0 12 rfl) (bt bc_Mod_firstWait_0 13 rfl) (n := 82) rfl) rfl (of_decide_eq_true h1) (fun b2 => ?_)
    refine EJ_iload_n 15 2 (dk_28 (bt bc_Mod_firstWait_0 14 rfl)) rfl rfl ?_
    refine EJ_ck (fun h3 => ?_)
    refine EJ_iald 16 h3 (dk_46 (bt bc_Mod_firstWait_0 15 rfl)) rfl ?_
    refine EJ_iload_n 17 1 (dk_27 (bt bc_Mod_firstWait_0 16 rfl)) rfl rfl ?_
    refine EJ_icmp_ne 31 20 (dk_160 (bt bc_Mod_firstWait_0 17 rfl) (bt bc_Mod_firstWait_0 18 rfl) (bt bc_Mod_firstWait_0 19 rfl) (n := 14) rfl) (by decide) rfl (fun _ => ?_) (fun _ => ?_)
    · exact EJ_pick (lv2 := [(0, .ref _), (1, .int _), (2, .int _)]) [0, 1, 2] rfl (e_Mod_firstWait_J31 k2 hk2 _ _ _ _)
    · refine EJ_aload_n 21 0 (dk_42 (bt bc_Mod_firstWait_0 20 rfl)) rfl rfl ?_
      refine EJ_getR cf12 35 (by decide) 24 tw_1233 (fun _ _ _ => rfl) (dk_180 (bt bc_Mod_firstWait_0 21 rfl) (bt bc_Mod_firstWait_0 22 rfl) (bt bc_Mod_firstWait_0 23 rfl) (n := 88) rfl) rfl (of_decide_eq_true h1) (fun b5 => ?_)
      refine EJ_iload_n 25 2 (dk_28 (bt bc_Mod_firstWait_0 24 rfl)) rfl rfl ?_
      refine EJ_ck (fun h6 => ?_)
      refine EJ_iald 26 h6 (dk_46 (bt bc_Mod_firstWait_0 25 rfl)) rfl ?_
      refine EJ_if_le 31 29 (dk_158 (bt bc_Mod_firstWait_0 26 rfl) (bt bc_Mod_firstWait_0 27 rfl) (bt bc_Mod_firstWait_0 28 rfl) (n := 5) rfl) (by decide) rfl (fun _ => ?_) (fun _ => ?_)
      · exact EJ_pick (lv2 := [(0, .ref _), (1, .int _), (2, .int _)]) [0, 1, 2] rfl (e_Mod_firstWait_J31 k2 hk2 _ _ _ _)
      · refine EJ_iload_n 30 2 (dk_28 (bt bc_Mod_firstWait_0 29 rfl)) rfl rfl ?_
        exact EJ_iret rfl (dk_172 (bt bc_Mod_firstWait_0 30 rfl))
def Mod_firstWait_L2 (n : Nat) : Nat → Int32 → Int32 → Mm → Option (Int32 × Mm) :=
  match n with
  | 0 => fun _ _ _ _ => none
  | n + 1 => Mod_firstWait_B2 (Mod_firstWait_L2 n)
theorem e_Mod_firstWait_L2 {G : Gx} : ∀ (n : Nat) (x0 : Nat) (x1 : Int32) (x2 : Int32) (M : Mm), EJ G Y_Mod_firstWait cvI 1 2 [(0, .ref x0), (1, .int x1), (2, .int x2)] [] M (Mod_firstWait_L2 n x0 x1 x2 M) := by
  intro n
  induction n with
  | zero => intros; exact EJ_none
  | succ n ih => intro x0 x1 x2 M; exact e_Mod_firstWait_B2 _ ih x0 x1 x2 M
def Mod_firstWait (M : Mm) (a0 : Nat) (a1 : Int32) : Option (Int32 × Mm) :=
  Mod_firstWait_L2 fu a0 a1 0 M
set_option maxRecDepth 100000 in
set_option maxHeartbeats 4000000 in
theorem s_Mod_firstWait (G : Gx) (M : Mm) (a0 : Nat) (a1 : Int32) : FnS G Y_Mod_firstWait cvI 1 [.ref a0, .int a1] M (Mod_firstWait M a0 a1) := by
  refine FnS.ofE (by decide) (Nat.le_of_ble_eq_true rfl) ?_
  show EJ G Y_Mod_firstWait cvI 1 0 [(0, .ref a0), (1, .int a1)] [] M _
  unfold Mod_firstWait
  refine EJ_iconst 1 (dk_3 (bt bc_Mod_firstWait_0 0 rfl)) rfl (v := 0) kI_0 ?_
  refine EJ_istore_n 2 (lv2 := [(2, .int _), (0, .ref _), (1, .int _)]) (dk_61 (bt bc_Mod_firstWait_0 1 rfl)) rfl (by decide) rfl ?_
  exact EJ_pick (lv2 := [(0, .ref _), (1, .int _), (2, .int _)]) [1, 2, 0] rfl (e_Mod_firstWait_L2 fu _ _ _ _)
abbrev Y_Mod_shareOf : Ym := (⟨"RiceHallModel", "shareOf", "(I)I"⟩, prog_14_method_29_code, 2, (some FieldType.int))
theorem bc_Mod_shareOf_0 : bts prog_14_method_29_code 0 [42, 27, 182, 1, 31, 154, 0, 8, 16, 100, 167, 0, 27, 16, 100, 42, 180, 0, 58, 27, 46, 133, 20, 1, 52, 105, 42, 27, 182, 1, 31, 133] := bts_of (by decide +kernel)
theorem bc_Mod_shareOf_1 : bts prog_14_method_29_code 32 [109, 136, 184, 1, 38, 172] := bts_of (by decide +kernel)
theorem hd_Mod_shareOf : Y_Mod_shareOf.1.cls = RX12 ∧ Y_Mod_shareOf.1.cls ≠ "java/lang/invoke/MethodHandle" ∧ Y_Mod_shareOf.1.cls ≠ "java/lang/invoke/VarHandle" ∧ (parseMethodDescriptor Y_Mod_shareOf.1.desc).map (fun d => d.parameters.length) = some 1 := by decide +kernel
def Mod_shareOf (M : Mm) (a0 : Nat) (a1 : Int32) : Option (Int32 × Mm) :=
  ck (kO M a0 12 107) (
  bd (Mod_outOf M a0 a1) (fun r2 M3 =>
  if r2 = 0 then (
    some (100, M3))
  else (
    ck (kO M3 a0 12 107) (
    nn (mR M3 a0 25) (fun b5 =>
    ck (kA M3 b5 20 a1) (
    bd (Mod_outOf M3 a0 a1) (fun r7 M8 =>
    ck (!decide (Int32.toInt64 r7 = 0)) (
    bd (Mod_min M8 100 (Int64.toInt32 (((Int32.toInt64 (mI M3 b5 (ix a1))) * 100) / (Int32.toInt64 r7)))) (fun r10 M11 =>
    some (r10, M11))))))))))
set_option maxRecDepth 100000 in
set_option maxHeartbeats 4000000 in
theorem s_Mod_shareOf (G : Gx) (M : Mm) (a0 : Nat) (a1 : Int32) : FnS G Y_Mod_shareOf cvI 2 [.ref a0, .int a1] M (Mod_shareOf M a0 a1) := by
  refine FnS.ofE (by decide) (Nat.le_of_ble_eq_true rfl) ?_
  show EJ G Y_Mod_shareOf cvI 2 0 [(0, .ref a0), (1, .int a1)] [] M _
  unfold Mod_shareOf
  refine EJ_aload_n 1 0 (dk_42 (bt bc_Mod_shareOf_0 0 rfl)) rfl rfl ?_
  refine EJ_iload_n 2 1 (dk_27 (bt bc_Mod_shareOf_0 1 rfl)) rfl rfl ?_
  refine EJ_ck (fun h1 => ?_)
  refine EJ_callVi (Y2 := Y_Mod_outOf) 5 cf12 (s_Mod_outOf G _ _ _) (of_decide_eq_true h1) rfl (dk_182 (bt bc_Mod_shareOf_0 2 rfl) (bt bc_Mod_shareOf_0 3 rfl) (bt bc_Mod_shareOf_0 4 rfl) (n := 287) rfl) rfl tw_1580 tw_1582 ts_42 tw_1583 hd_Mod_outOf rfl (by decide) (Nat.le_of_ble_eq_true rfl) (fun r2 M3 => ?_)
  refine EJ_if_ne 13 8 (dk_154 (bt bc_Mod_shareOf_0 5 rfl) (bt bc_Mod_shareOf_0 6 rfl) (bt bc_Mod_shareOf_0 7 rfl) (n := 8) rfl) (by decide) rfl (fun _ => ?_) (fun _ => ?_)
  · refine EJ_bipush 15 (dk_16 (bt bc_Mod_shareOf_0 13 rfl) (bt bc_Mod_shareOf_0 14 rfl) (n := 100) rfl) rfl (v := 100) kB_100 ?_
    refine EJ_aload_n 16 0 (dk_42 (bt bc_Mod_shareOf_0 15 rfl)) rfl rfl ?_
    refine EJ_ck (fun h4 => ?_)
    refine EJ_getR cf12 25 (by decide) 19 tw_1223 (fun _ _ _ => rfl) (dk_180 (bt bc_Mod_shareOf_0 16 rfl) (bt bc_Mod_shareOf_0 17 rfl) (bt bc_Mod_shareOf_0 18 rfl) (n := 58) rfl) rfl (of_decide_eq_true h4) (fun b5 => ?_)
    refine EJ_iload_n 20 1 (dk_27 (bt bc_Mod_shareOf_0 19 rfl)) rfl rfl ?_
    refine EJ_ck (fun h6 => ?_)
    refine EJ_iald 21 h6 (dk_46 (bt bc_Mod_shareOf_0 20 rfl)) rfl ?_
    refine EJ_i2l 22 (dk_133 (bt bc_Mod_shareOf_0 21 rfl)) rfl ?_
    refine EJ_ldc2 25 (dk_20 (bt bc_Mod_shareOf_0 22 rfl) (bt bc_Mod_shareOf_0 23 rfl) (bt bc_Mod_shareOf_0 24 rfl) (n := 308) rfl) rfl tw_1646 ?_
    refine EJ_lmul 26 (dk_105 (bt bc_Mod_shareOf_0 25 rfl)) rfl ?_
    refine EJ_aload_n 27 0 (dk_42 (bt bc_Mod_shareOf_0 26 rfl)) rfl rfl ?_
    refine EJ_iload_n 28 1 (dk_27 (bt bc_Mod_shareOf_0 27 rfl)) rfl rfl ?_
    refine EJ_callVi (Y2 := Y_Mod_outOf) 31 cf12 (s_Mod_outOf G _ _ _) (of_decide_eq_true h4) rfl (dk_182 (bt bc_Mod_shareOf_0 28 rfl) (bt bc_Mod_shareOf_0 29 rfl) (bt bc_Mod_shareOf_0 30 rfl) (n := 287) rfl) rfl tw_1580 tw_1582 ts_42 tw_1583 hd_Mod_outOf rfl (by decide) (Nat.le_of_ble_eq_true rfl) (fun r7 M8 => ?_)
    refine EJ_i2l 32 (dk_133 (bt bc_Mod_shareOf_0 31 rfl)) rfl ?_
    refine EJ_ck (fun h9 => ?_)
    refine EJ_ldiv 33 (dk_109 (bt bc_Mod_shareOf_1 0 rfl)) rfl (by simpa using h9) ?_
    refine EJ_l2i 34 (dk_136 (bt bc_Mod_shareOf_1 1 rfl)) rfl ?_
    refine EJ_callSi (Y2 := Y_Mod_min) 37 (s_Mod_min G _ _ _) rfl (dk_184 (bt bc_Mod_shareOf_1 2 rfl) (bt bc_Mod_shareOf_1 3 rfl) (bt bc_Mod_shareOf_1 4 rfl) (n := 294) rfl) rfl tw_1596 tw_1597 tw_8 tw_1598 hd_Mod_min rfl (by decide) (Nat.le_of_ble_eq_true rfl) (fun r10 M11 => ?_)
    exact EJ_iret rfl (dk_172 (bt bc_Mod_shareOf_1 5 rfl))
  · refine EJ_bipush 10 (dk_16 (bt bc_Mod_shareOf_0 8 rfl) (bt bc_Mod_shareOf_0 9 rfl) (n := 100) rfl) rfl (v := 100) kB_100 ?_
    refine EJ_goto 37 (dk_167 (bt bc_Mod_shareOf_0 10 rfl) (bt bc_Mod_shareOf_0 11 rfl) (bt bc_Mod_shareOf_0 12 rfl) (n := 27) rfl) (by decide) ?_
    exact EJ_iret rfl (dk_172 (bt bc_Mod_shareOf_1 5 rfl))
