abbrev Y_Mod_storeOf : Ym := (⟨"RiceHallModel", "storeOf", "(II)I"⟩, prog_14_method_30_code, 6, (some FieldType.int))
theorem bc_Mod_storeOf_0 : bts prog_14_method_30_code 0 [42, 27, 182, 1, 19, 154, 0, 5, 2, 172, 42, 27, 182, 1, 54, 62, 28, 170, 0, 0, 0, 0, 0, 169, 0, 0, 0, 0, 0, 0, 0, 7] := bts_of (by decide +kernel)
theorem bc_Mod_storeOf_1 : bts prog_14_method_30_code 32 [0, 0, 0, 47, 0, 0, 0, 54, 0, 0, 0, 60, 0, 0, 0, 107, 0, 0, 0, 114, 0, 0, 0, 121, 0, 0, 0, 148, 0, 0, 0, 163] := bts_of (by decide +kernel)
theorem bc_Mod_storeOf_2 : bts prog_14_method_30_code 64 [42, 180, 0, 58, 27, 46, 172, 42, 27, 182, 1, 31, 172, 3, 54, 4, 3, 54, 5, 21, 5, 42, 180, 1, 35, 162, 0, 32, 42, 180, 0, 82] := bts_of (by decide +kernel)
theorem bc_Mod_storeOf_3 : bts prog_14_method_30_code 96 [21, 5, 46, 27, 160, 0, 15, 21, 4, 42, 180, 0, 88, 21, 5, 46, 96, 54, 4, 132, 5, 1, 167, 255, 221, 21, 4, 172, 42, 180, 0, 64] := bts_of (by decide +kernel)
theorem bc_Mod_storeOf_4 : bts prog_14_method_30_code 128 [27, 46, 172, 42, 180, 0, 70, 27, 46, 172, 29, 155, 0, 24, 42, 180, 1, 28, 42, 180, 0, 91, 29, 46, 100, 17, 11, 64, 161, 0, 7, 4] := bts_of (by decide +kernel)
theorem bc_Mod_storeOf_5 : bts prog_14_method_30_code 160 [167, 0, 4, 3, 172, 29, 156, 0, 7, 2, 167, 0, 9, 42, 180, 0, 85, 29, 46, 172, 42, 27, 182, 1, 57, 172, 2, 172] := bts_of (by decide +kernel)
theorem hd_Mod_storeOf : Y_Mod_storeOf.1.cls = RX12 ∧ Y_Mod_storeOf.1.cls ≠ "java/lang/invoke/MethodHandle" ∧ Y_Mod_storeOf.1.cls ≠ "java/lang/invoke/VarHandle" ∧ (parseMethodDescriptor Y_Mod_storeOf.1.desc).map (fun d => d.parameters.length) = some 2 := by decide +kernel
set_option maxRecDepth 100000 in
theorem ds_Mod_storeOf_17 : decode prog_14_method_30_code 17 = .ok (.tableswitch (169) (0) (7) #[47, 54, 60, 107, 114, 121, 148, 163], 47) := by decide +kernel
def Mod_storeOf_J115 (k83 : Nat → Int32 → Int32 → Int32 → Mm → Option (Int32 × Mm)) (x0 : Nat) (x1 : Int32) (x4 : Int32) (x5 : Int32) (M : Mm) : Option (Int32 × Mm) :=
  let v16 : Int32 := x5 + 1
  k83 x0 x1 x4 v16 M
set_option maxRecDepth 100000 in
set_option maxHeartbeats 4000000 in
theorem e_Mod_storeOf_J115 {G : Gx} (k83 : Nat → Int32 → Int32 → Int32 → Mm → Option (Int32 × Mm)) (hk83 : ∀ (x0 : Nat) (x1 : Int32) (x4 : Int32) (x5 : Int32) (M : Mm), EJ G Y_Mod_storeOf cvI 3 83 [(0, .ref x0), (1, .int x1), (4, .int x4), (5, .int x5)] [] M (k83 x0 x1 x4 x5 M)) (x0 : Nat) (x1 : Int32) (x4 : Int32) (x5 : Int32) (M : Mm) : EJ G Y_Mod_storeOf cvI 3 115 [(0, .ref x0), (1, .int x1), (4, .int x4), (5, .int x5)] [] M (Mod_storeOf_J115 k83 x0 x1 x4 x5 M) := by
  unfold Mod_storeOf_J115
  refine EJ_iinc 118 3 (lv2 := [(5, .int _), (0, .ref _), (1, .int _), (4, .int _)]) (dk_132 (bt bc_Mod_storeOf_3 19 rfl) (bt bc_Mod_storeOf_3 20 rfl) (bt bc_Mod_storeOf_3 21 rfl) (n := 1) rfl) rfl (by decide) rfl (v := 1) kI_1 rfl ?_
  refine EJ_goto 83 (dk_167 (bt bc_Mod_storeOf_3 22 rfl) (bt bc_Mod_storeOf_3 23 rfl) (bt bc_Mod_storeOf_3 24 rfl) (n := -35) rfl) (by decide) ?_
  exact EJ_pick (lv2 := [(0, .ref _), (1, .int _), (4, .int _), (5, .int _)]) [1, 2, 3, 0] rfl (hk83 _ _ _ _ _)
def Mod_storeOf_B83 (k83 : Nat → Int32 → Int32 → Int32 → Mm → Option (Int32 × Mm)) (x0 : Nat) (x1 : Int32) (x4 : Int32) (x5 : Int32) (M : Mm) : Option (Int32 × Mm) :=
  ck (kO M x0 12 107) (
  if (mI M x0 24) ≤ x5 then (
    some (x4, M))
  else (
    nn (mR M x0 33) (fun b14 =>
    ck (kA M b14 20 x5) (
    if (mI M b14 (ix x5)) = x1 then (
      nn (mR M x0 35) (fun b17 =>
      ck (kA M b17 20 x5) (
      let v19 : Int32 := x4 + (mI M b17 (ix x5))
      Mod_storeOf_J115 k83 x0 x1 v19 x5 M)))
    else (
      Mod_storeOf_J115 k83 x0 x1 x4 x5 M)))))
set_option maxRecDepth 100000 in
set_option maxHeartbeats 4000000 in
theorem e_Mod_storeOf_B83 {G : Gx} (k83 : Nat → Int32 → Int32 → Int32 → Mm → Option (Int32 × Mm)) (hk83 : ∀ (x0 : Nat) (x1 : Int32) (x4 : Int32) (x5 : Int32) (M : Mm), EJ G Y_Mod_storeOf cvI 3 83 [(0, .ref x0), (1, .int x1), (4, .int x4), (5, .int x5)] [] M (k83 x0 x1 x4 x5 M)) (x0 : Nat) (x1 : Int32) (x4 : Int32) (x5 : Int32) (M : Mm) : EJ G Y_Mod_storeOf cvI 3 83 [(0, .ref x0), (1, .int x1), (4, .int x4), (5, .int x5)] [] M (Mod_storeOf_B83 k83 x0 x1 x4 x5 M) := by
  unfold Mod_storeOf_B83
  refine EJ_iload 85 3 (dk_21 (bt bc_Mod_storeOf_2 19 rfl) (bt bc_Mod_storeOf_2 20 rfl)) rfl rfl ?_
  refine EJ_aload_n 86 0 (dk_42 (bt bc_Mod_storeOf_2 21 rfl)) rfl rfl ?_
  refine EJ_ck (fun h13 => ?_)
  refine EJ_getI cf12 24 (by decide) 89 tw_1222 (fun _ _ _ => rfl) (dk_180 (bt bc_Mod_storeOf_2 22 rfl) (bt bc_Mod_storeOf_2 23 rfl) (bt bc_Mod_storeOf_2 24 rfl) (n := 291) rfl) rfl (of_decide_eq_true h13) ?_
  refine EJ_icmp_ge 121 92 (dk_162 (bt bc_Mod_storeOf_2 25 rfl) (bt bc_Mod_storeOf_2 26 rfl) (bt bc_Mod_storeOf_2 27 rfl) (n := 32) rfl) (by decide) rfl (fun _ => ?_) (fun _ => ?_)
  · refine EJ_iload 123 2 (dk_21 (bt bc_Mod_storeOf_3 25 rfl) (bt bc_Mod_storeOf_3 26 rfl)) rfl rfl ?_
    exact EJ_iret rfl (dk_172 (bt bc_Mod_storeOf_3 27 rfl))
  · refine EJ_aload_n 93 0 (dk_42 (bt bc_Mod_storeOf_2 28 rfl)) rfl rfl ?_
    refine EJ_getR cf12 33 (by decide) 96 tw_1231 (fun _ _ _ => rfl) (dk_180 (bt bc_Mod_storeOf_2 29 rfl) (bt bc_Mod_storeOf_2 30 rfl) (bt bc_Mod_storeOf_2 31 rfl) (n := 82) rfl) rfl (of_decide_eq_true h13) (fun b14 => ?_)
    refine EJ_iload 98 3 (dk_21 (bt bc_Mod_storeOf_3 0 rfl) (bt bc_Mod_storeOf_3 1 rfl)) rfl rfl ?_
    refine EJ_ck (fun h15 => ?_)
    refine EJ_iald 99 h15 (dk_46 (bt bc_Mod_storeOf_3 2 rfl)) rfl ?_
    refine EJ_iload_n 100 1 (dk_27 (bt bc_Mod_storeOf_3 3 rfl)) rfl rfl ?_
    refine EJ_icmp_ne 115 103 (dk_160 (bt bc_Mod_storeOf_3 4 rfl) (bt bc_Mod_storeOf_3 5 rfl) (bt bc_Mod_storeOf_3 6 rfl) (n := 15) rfl) (by decide) rfl (fun _ => ?_) (fun _ => ?_)
    · exact EJ_pick (lv2 := [(0, .ref _), (1, .int _), (4, .int _), (5, .int _)]) [0, 1, 2, 3] rfl (e_Mod_storeOf_J115 k83 hk83 _ _ _ _ _)
    · refine EJ_iload 105 2 (dk_21 (bt bc_Mod_storeOf_3 7 rfl) (bt bc_Mod_storeOf_3 8 rfl)) rfl rfl ?_
      refine EJ_aload_n 106 0 (dk_42 (bt bc_Mod_storeOf_3 9 rfl)) rfl rfl ?_
      refine EJ_getR cf12 35 (by decide) 109 tw_1233 (fun _ _ _ => rfl) (dk_180 (bt bc_Mod_storeOf_3 10 rfl) (bt bc_Mod_storeOf_3 11 rfl) (bt bc_Mod_storeOf_3 12 rfl) (n := 88) rfl) rfl (of_decide_eq_true h13) (fun b17 => ?_)
      refine EJ_iload 111 3 (dk_21 (bt bc_Mod_storeOf_3 13 rfl) (bt bc_Mod_storeOf_3 14 rfl)) rfl rfl ?_
      refine EJ_ck (fun h18 => ?_)
      refine EJ_iald 112 h18 (dk_46 (bt bc_Mod_storeOf_3 15 rfl)) rfl ?_
      refine EJ_iadd 113 (dk_96 (bt bc_Mod_storeOf_3 16 rfl)) rfl ?_
      refine EJ_istore 115 (lv2 := [(4, .int _), (0, .ref _), (1, .int _), (5, .int _)]) (dk_54 (bt bc_Mod_storeOf_3 17 rfl) (bt bc_Mod_storeOf_3 18 rfl)) rfl (by decide) rfl ?_
      exact EJ_pick (lv2 := [(0, .ref _), (1, .int _), (4, .int _), (5, .int _)]) [1, 2, 0, 3] rfl (e_Mod_storeOf_J115 k83 hk83 _ _ _ _ _)
def Mod_storeOf_L83 (n : Nat) : Nat → Int32 → Int32 → Int32 → Mm → Option (Int32 × Mm) :=
  match n with
  | 0 => fun _ _ _ _ _ => none
  | n + 1 => Mod_storeOf_B83 (Mod_storeOf_L83 n)
theorem e_Mod_storeOf_L83 {G : Gx} : ∀ (n : Nat) (x0 : Nat) (x1 : Int32) (x4 : Int32) (x5 : Int32) (M : Mm), EJ G Y_Mod_storeOf cvI 3 83 [(0, .ref x0), (1, .int x1), (4, .int x4), (5, .int x5)] [] M (Mod_storeOf_L83 n x0 x1 x4 x5 M) := by
  intro n
  induction n with
  | zero => intros; exact EJ_none
  | succ n ih => intro x0 x1 x4 x5 M; exact e_Mod_storeOf_B83 _ ih x0 x1 x4 x5 M
def Mod_storeOf (M : Mm) (a0 : Nat) (a1 : Int32) (a2 : Int32) : Option (Int32 × Mm) :=
  ck (kO M a0 12 107) (
  bd (Mod_isStore M a0 a1) (fun r2 M3 =>
  if r2 = 0 then (
    some ((-1), M3))
  else (
    ck (kO M3 a0 12 107) (
    bd (Mod_firstWait M3 a0 a1) (fun r5 M6 =>
    if a2 = 0 then (
      ck (kO M6 a0 12 107) (
      nn (mR M6 a0 25) (fun b8 =>
      ck (kA M6 b8 20 a1) (
      some (mI M6 b8 (ix a1), M6)))))
    else (
    if a2 = 1 then (
      ck (kO M6 a0 12 107) (
      bd (Mod_outOf M6 a0 a1) (fun r11 M12 =>
      some (r11, M12))))
    else (
    if a2 = 2 then (
      Mod_storeOf_L83 fu a0 a1 0 0 M6)
    else (
    if a2 = 3 then (
      ck (kO M6 a0 12 107) (
      nn (mR M6 a0 27) (fun b21 =>
      ck (kA M6 b21 20 a1) (
      some (mI M6 b21 (ix a1), M6)))))
    else (
    if a2 = 4 then (
      ck (kO M6 a0 12 107) (
      nn (mR M6 a0 29) (fun b24 =>
      ck (kA M6 b24 20 a1) (
      some (mI M6 b24 (ix a1), M6)))))
    else (
    if a2 = 5 then (
      if r5 < 0 then (
        some (0, M6))
      else (
        ck (kO M6 a0 12 107) (
        nn (mR M6 a0 36) (fun b27 =>
        ck (kA M6 b27 20 r5) (
        if ((mI M6 a0 0) - (mI M6 b27 (ix r5))) < 2880 then (
          some (0, M6))
        else (
          some (1, M6)))))))
    else (
    if a2 = 6 then (
      if 0 ≤ r5 then (
        ck (kO M6 a0 12 107) (
        nn (mR M6 a0 34) (fun b30 =>
        ck (kA M6 b30 20 r5) (
        some (mI M6 b30 (ix r5), M6)))))
      else (
        some ((-1), M6)))
    else (
    if a2 = 7 then (
      ck (kO M6 a0 12 107) (
      bd (Mod_shareOf M6 a0 a1) (fun r33 M34 =>
      some (r33, M34))))
    else (
    some ((-1), M6))))))))))))))
set_option maxRecDepth 100000 in
set_option maxHeartbeats 4000000 in
theorem s_Mod_storeOf (G : Gx) (M : Mm) (a0 : Nat) (a1 : Int32) (a2 : Int32) : FnS G Y_Mod_storeOf cvI 3 [.ref a0, .int a1, .int a2] M (Mod_storeOf M a0 a1 a2) := by
  refine FnS.ofE (by decide) (Nat.le_of_ble_eq_true rfl) ?_
  show EJ G Y_Mod_storeOf cvI 3 0 [(0, .ref a0), (1, .int a1), (2, .int a2)] [] M _
  unfold Mod_storeOf
  refine EJ_aload_n 1 0 (dk_42 (bt bc_Mod_storeOf_0 0 rfl)) rfl rfl ?_
  refine EJ_iload_n 2 1 (dk_27 (bt bc_Mod_storeOf_0 1 rfl)) rfl rfl ?_
  refine EJ_ck (fun h1 => ?_)
  refine EJ_callVi (Y2 := Y_Mod_isStore) 5 cf12 (s_Mod_isStore G _ _ _) (of_decide_eq_true h1) rfl (dk_182 (bt bc_Mod_storeOf_0 2 rfl) (bt bc_Mod_storeOf_0 3 rfl) (bt bc_Mod_storeOf_0 4 rfl) (n := 275) rfl) rfl tw_1572 tw_1574 ts_40 tw_1575 hd_Mod_isStore rfl (by decide) (Nat.le_of_ble_eq_true rfl) (fun r2 M3 => ?_)
  refine EJ_if_ne 10 8 (dk_154 (bt bc_Mod_storeOf_0 5 rfl) (bt bc_Mod_storeOf_0 6 rfl) (bt bc_Mod_storeOf_0 7 rfl) (n := 5) rfl) (by decide) rfl (fun _ => ?_) (fun _ => ?_)
  · refine EJ_aload_n 11 0 (dk_42 (bt bc_Mod_storeOf_0 10 rfl)) rfl rfl ?_
    refine EJ_iload_n 12 1 (dk_27 (bt bc_Mod_storeOf_0 11 rfl)) rfl rfl ?_
    refine EJ_ck (fun h4 => ?_)
    refine EJ_callVi (Y2 := Y_Mod_firstWait) 15 cf12 (s_Mod_firstWait G _ _ _) (of_decide_eq_true h4) rfl (dk_182 (bt bc_Mod_storeOf_0 12 rfl) (bt bc_Mod_storeOf_0 13 rfl) (bt bc_Mod_storeOf_0 14 rfl) (n := 310) rfl) rfl tw_1638 tw_1640 ts_48 tw_1641 hd_Mod_firstWait rfl (by decide) (Nat.le_of_ble_eq_true rfl) (fun r5 M6 => ?_)
    refine EJ_istore_n 16 (lv2 := [(3, .int _), (0, .ref _), (1, .int _), (2, .int _)]) (dk_62 (bt bc_Mod_storeOf_0 15 rfl)) rfl (by decide) rfl ?_
    refine EJ_iload_n 17 3 (dk_28 (bt bc_Mod_storeOf_0 16 rfl)) rfl rfl ?_
    refine EJ_case 0 64 ds_Mod_storeOf_17 (by decide) rfl (by decide) (fun _ => ?_) (fun hc17_0 => ?_)
    · refine EJ_aload_n 65 1 (dk_42 (bt bc_Mod_storeOf_2 0 rfl)) rfl rfl ?_
      refine EJ_ck (fun h7 => ?_)
      refine EJ_getR cf12 25 (by decide) 68 tw_1223 (fun _ _ _ => rfl) (dk_180 (bt bc_Mod_storeOf_2 1 rfl) (bt bc_Mod_storeOf_2 2 rfl) (bt bc_Mod_storeOf_2 3 rfl) (n := 58) rfl) rfl (of_decide_eq_true h7) (fun b8 => ?_)
      refine EJ_iload_n 69 2 (dk_27 (bt bc_Mod_storeOf_2 4 rfl)) rfl rfl ?_
      refine EJ_ck (fun h9 => ?_)
      refine EJ_iald 70 h9 (dk_46 (bt bc_Mod_storeOf_2 5 rfl)) rfl ?_
      exact EJ_iret rfl (dk_172 (bt bc_Mod_storeOf_2 6 rfl))
    refine EJ_case 1 71 ds_Mod_storeOf_17 (by decide) rfl (by decide) (fun _ => ?_) (fun hc17_1 => ?_)
    · refine EJ_aload_n 72 1 (dk_42 (bt bc_Mod_storeOf_2 7 rfl)) rfl rfl ?_
      refine EJ_iload_n 73 2 (dk_27 (bt bc_Mod_storeOf_2 8 rfl)) rfl rfl ?_
      refine EJ_ck (fun h10 => ?_)
      refine EJ_callVi (Y2 := Y_Mod_outOf) 76 cf12 (s_Mod_outOf G _ _ _) (of_decide_eq_true h10) rfl (dk_182 (bt bc_Mod_storeOf_2 9 rfl) (bt bc_Mod_storeOf_2 10 rfl) (bt bc_Mod_storeOf_2 11 rfl) (n := 287) rfl) rfl tw_1580 tw_1582 ts_42 tw_1583 hd_Mod_outOf rfl (by decide) (Nat.le_of_ble_eq_true rfl) (fun r11 M12 => ?_)
      exact EJ_iret rfl (dk_172 (bt bc_Mod_storeOf_2 12 rfl))
    refine EJ_case 2 77 ds_Mod_storeOf_17 (by decide) rfl (by decide) (fun _ => ?_) (fun hc17_2 => ?_)
    · refine EJ_iconst 78 (dk_3 (bt bc_Mod_storeOf_2 13 rfl)) rfl (v := 0) kI_0 ?_
      refine EJ_istore 80 (lv2 := [(4, .int _), (3, .int _), (0, .ref _), (1, .int _), (2, .int _)]) (dk_54 (bt bc_Mod_storeOf_2 14 rfl) (bt bc_Mod_storeOf_2 15 rfl)) rfl (by decide) rfl ?_
      refine EJ_iconst 81 (dk_3 (bt bc_Mod_storeOf_2 16 rfl)) rfl (v := 0) kI_0 ?_
      refine EJ_istore 83 (lv2 := [(5, .int _), (4, .int _), (3, .int _), (0, .ref _), (1, .int _), (2, .int _)]) (dk_54 (bt bc_Mod_storeOf_2 17 rfl) (bt bc_Mod_storeOf_2 18 rfl)) rfl (by decide) rfl ?_
      exact EJ_pick (lv2 := [(0, .ref _), (1, .int _), (4, .int _), (5, .int _)]) [3, 4, 1, 0] rfl (e_Mod_storeOf_L83 fu _ _ _ _ _)
    refine EJ_case 3 124 ds_Mod_storeOf_17 (by decide) rfl (by decide) (fun _ => ?_) (fun hc17_3 => ?_)
    · refine EJ_aload_n 125 1 (dk_42 (bt bc_Mod_storeOf_3 28 rfl)) rfl rfl ?_
      refine EJ_ck (fun h20 => ?_)
      refine EJ_getR cf12 27 (by decide) 128 tw_1225 (fun _ _ _ => rfl) (dk_180 (bt bc_Mod_storeOf_3 29 rfl) (bt bc_Mod_storeOf_3 30 rfl) (bt bc_Mod_storeOf_3 31 rfl) (n := 64) rfl) rfl (of_decide_eq_true h20) (fun b21 => ?_)
      refine EJ_iload_n 129 2 (dk_27 (bt bc_Mod_storeOf_4 0 rfl)) rfl rfl ?_
      refine EJ_ck (fun h22 => ?_)
      refine EJ_iald 130 h22 (dk_46 (bt bc_Mod_storeOf_4 1 rfl)) rfl ?_
      exact EJ_iret rfl (dk_172 (bt bc_Mod_storeOf_4 2 rfl))
    refine EJ_case 4 131 ds_Mod_storeOf_17 (by decide) rfl (by decide) (fun _ => ?_) (fun hc17_4 => ?_)
    · refine EJ_aload_n 132 1 (dk_42 (bt bc_Mod_storeOf_4 3 rfl)) rfl rfl ?_
      refine EJ_ck (fun h23 => ?_)
      refine EJ_getR cf12 29 (by decide) 135 tw_1227 (fun _ _ _ => rfl) (dk_180 (bt bc_Mod_storeOf_4 4 rfl) (bt bc_Mod_storeOf_4 5 rfl) (bt bc_Mod_storeOf_4 6 rfl) (n := 70) rfl) rfl (of_decide_eq_true h23) (fun b24 => ?_)
      refine EJ_iload_n 136 2 (dk_27 (bt bc_Mod_storeOf_4 7 rfl)) rfl rfl ?_
      refine EJ_ck (fun h25 => ?_)
      refine EJ_iald 137 h25 (dk_46 (bt bc_Mod_storeOf_4 8 rfl)) rfl ?_
      exact EJ_iret rfl (dk_172 (bt bc_Mod_storeOf_4 9 rfl))
    refine EJ_case 5 138 ds_Mod_storeOf_17 (by decide) rfl (by decide) (fun _ => ?_) (fun hc17_5 => ?_)
    · refine EJ_iload_n 139 0 (dk_29 (bt bc_Mod_storeOf_4 10 rfl)) rfl rfl ?_
      refine EJ_if_lt 163 142 (dk_155 (bt bc_Mod_storeOf_4 11 rfl) (bt bc_Mod_storeOf_4 12 rfl) (bt bc_Mod_storeOf_4 13 rfl) (n := 24) rfl) (by decide) rfl (fun _ => ?_) (fun _ => ?_)
      · refine EJ_iconst 164 (dk_3 (bt bc_Mod_storeOf_5 3 rfl)) rfl (v := 0) kI_0 ?_
        exact EJ_iret rfl (dk_172 (bt bc_Mod_storeOf_5 4 rfl))
      · refine EJ_aload_n 143 1 (dk_42 (bt bc_Mod_storeOf_4 14 rfl)) rfl rfl ?_
        refine EJ_ck (fun h26 => ?_)
        refine EJ_getI cf12 0 (by decide) 146 tw_1198 (fun _ _ _ => rfl) (dk_180 (bt bc_Mod_storeOf_4 15 rfl) (bt bc_Mod_storeOf_4 16 rfl) (bt bc_Mod_storeOf_4 17 rfl) (n := 284) rfl) rfl (of_decide_eq_true h26) ?_
        refine EJ_aload_n 147 1 (dk_42 (bt bc_Mod_storeOf_4 18 rfl)) rfl rfl ?_
        refine EJ_getR cf12 36 (by decide) 150 tw_1234 (fun _ _ _ => rfl) (dk_180 (bt bc_Mod_storeOf_4 19 rfl) (bt bc_Mod_storeOf_4 20 rfl) (bt bc_Mod_storeOf_4 21 rfl) (n := 91) rfl) rfl (of_decide_eq_true h26) (fun b27 => ?_)
        refine EJ_iload_n 151 0 (dk_29 (bt bc_Mod_storeOf_4 22 rfl)) rfl rfl ?_
        refine EJ_ck (fun h28 => ?_)
        refine EJ_iald 152 h28 (dk_46 (bt bc_Mod_storeOf_4 23 rfl)) rfl ?_
        refine EJ_isub 153 (dk_100 (bt bc_Mod_storeOf_4 24 rfl)) rfl ?_
        refine EJ_sipush 156 (dk_17 (bt bc_Mod_storeOf_4 25 rfl) (bt bc_Mod_storeOf_4 26 rfl) (bt bc_Mod_storeOf_4 27 rfl) (n := 2880) rfl) rfl (v := 2880) kS_2880 ?_
        refine EJ_icmp_lt 163 159 (dk_161 (bt bc_Mod_storeOf_4 28 rfl) (bt bc_Mod_storeOf_4 29 rfl) (bt bc_Mod_storeOf_4 30 rfl) (n := 7) rfl) (by decide) rfl (fun _ => ?_) (fun _ => ?_)
        · refine EJ_iconst 164 (dk_3 (bt bc_Mod_storeOf_5 3 rfl)) rfl (v := 0) kI_0 ?_
          exact EJ_iret rfl (dk_172 (bt bc_Mod_storeOf_5 4 rfl))
        · refine EJ_iconst 160 (dk_4 (bt bc_Mod_storeOf_4 31 rfl)) rfl (v := 1) kI_1 ?_
          refine EJ_goto 164 (dk_167 (bt bc_Mod_storeOf_5 0 rfl) (bt bc_Mod_storeOf_5 1 rfl) (bt bc_Mod_storeOf_5 2 rfl) (n := 4) rfl) (by decide) ?_
          exact EJ_iret rfl (dk_172 (bt bc_Mod_storeOf_5 4 rfl))
    refine EJ_case 6 165 ds_Mod_storeOf_17 (by decide) rfl (by decide) (fun _ => ?_) (fun hc17_6 => ?_)
    · refine EJ_iload_n 166 0 (dk_29 (bt bc_Mod_storeOf_5 5 rfl)) rfl rfl ?_
      refine EJ_if_ge 173 169 (dk_156 (bt bc_Mod_storeOf_5 6 rfl) (bt bc_Mod_storeOf_5 7 rfl) (bt bc_Mod_storeOf_5 8 rfl) (n := 7) rfl) (by decide) rfl (fun _ => ?_) (fun _ => ?_)
      · refine EJ_aload_n 174 1 (dk_42 (bt bc_Mod_storeOf_5 13 rfl)) rfl rfl ?_
        refine EJ_ck (fun h29 => ?_)
        refine EJ_getR cf12 34 (by decide) 177 tw_1232 (fun _ _ _ => rfl) (dk_180 (bt bc_Mod_storeOf_5 14 rfl) (bt bc_Mod_storeOf_5 15 rfl) (bt bc_Mod_storeOf_5 16 rfl) (n := 85) rfl) rfl (of_decide_eq_true h29) (fun b30 => ?_)
        refine EJ_iload_n 178 0 (dk_29 (bt bc_Mod_storeOf_5 17 rfl)) rfl rfl ?_
        refine EJ_ck (fun h31 => ?_)
        refine EJ_iald 179 h31 (dk_46 (bt bc_Mod_storeOf_5 18 rfl)) rfl ?_
        exact EJ_iret rfl (dk_172 (bt bc_Mod_storeOf_5 19 rfl))
      · refine EJ_iconst 170 (dk_2 (bt bc_Mod_storeOf_5 9 rfl)) rfl (v := (-1)) kI_m1 ?_
        refine EJ_goto 179 (dk_167 (bt bc_Mod_storeOf_5 10 rfl) (bt bc_Mod_storeOf_5 11 rfl) (bt bc_Mod_storeOf_5 12 rfl) (n := 9) rfl) (by decide) ?_
        exact EJ_iret rfl (dk_172 (bt bc_Mod_storeOf_5 19 rfl))
    refine EJ_case 7 180 ds_Mod_storeOf_17 (by decide) rfl (by decide) (fun _ => ?_) (fun hc17_7 => ?_)
    · refine EJ_aload_n 181 1 (dk_42 (bt bc_Mod_storeOf_5 20 rfl)) rfl rfl ?_
      refine EJ_iload_n 182 2 (dk_27 (bt bc_Mod_storeOf_5 21 rfl)) rfl rfl ?_
      refine EJ_ck (fun h32 => ?_)
      refine EJ_callVi (Y2 := Y_Mod_shareOf) 185 cf12 (s_Mod_shareOf G _ _ _) (of_decide_eq_true h32) rfl (dk_182 (bt bc_Mod_storeOf_5 22 rfl) (bt bc_Mod_storeOf_5 23 rfl) (bt bc_Mod_storeOf_5 24 rfl) (n := 313) rfl) rfl tw_1642 tw_1644 ts_49 tw_1645 hd_Mod_shareOf rfl (by decide) (Nat.le_of_ble_eq_true rfl) (fun r33 M34 => ?_)
      exact EJ_iret rfl (dk_172 (bt bc_Mod_storeOf_5 25 rfl))
    refine EJ_tabOut 186 ds_Mod_storeOf_17 (tabOut (fun k k1 k2 => by
        rcases (show k = 0 ∨ k = 1 ∨ k = 2 ∨ k = 3 ∨ k = 4 ∨ k = 5 ∨ k = 6 ∨ k = 7 by omega) with rfl | rfl | rfl | rfl | rfl | rfl | rfl | rfl
        · exact hc17_0
        · exact hc17_1
        · exact hc17_2
        · exact hc17_3
        · exact hc17_4
        · exact hc17_5
        · exact hc17_6
        · exact hc17_7)) (by decide) ?_
    refine EJ_iconst 187 (dk_2 (bt bc_Mod_storeOf_5 26 rfl)) rfl (v := (-1)) kI_m1 ?_
    exact EJ_iret rfl (dk_172 (bt bc_Mod_storeOf_5 27 rfl))
  · refine EJ_iconst 9 (dk_2 (bt bc_Mod_storeOf_0 8 rfl)) rfl (v := (-1)) kI_m1 ?_
    exact EJ_iret rfl (dk_172 (bt bc_Mod_storeOf_0 9 rfl))
abbrev Y_Mod_abs : Ym := (⟨"RiceHallModel", "abs", "(I)I"⟩, prog_14_method_4_code, 1, (some FieldType.int))
theorem bc_Mod_abs_0 : bts prog_14_method_4_code 0 [26, 156, 0, 8, 26, 116, 167, 0, 4, 26, 172] := bts_of (by decide +kernel)
theorem hd_Mod_abs : Y_Mod_abs.1.cls ≠ "java/lang/invoke/MethodHandle" ∧ Y_Mod_abs.1.cls ≠ "java/lang/invoke/VarHandle" ∧ (parseMethodDescriptor Y_Mod_abs.1.desc).map (fun d => d.parameters.length) = some 1 := by decide +kernel
def Mod_abs (M : Mm) (a0 : Int32) : Option (Int32 × Mm) :=
  if 0 ≤ a0 then (
    some (a0, M))
  else (
    some (-a0, M))
set_option maxRecDepth 100000 in
set_option maxHeartbeats 4000000 in
theorem s_Mod_abs (G : Gx) (M : Mm) (a0 : Int32) : FnS G Y_Mod_abs cvI 1 [.int a0] M (Mod_abs M a0) := by
  refine FnS.ofE (by decide) (Nat.le_of_ble_eq_true rfl) ?_
  show EJ G Y_Mod_abs cvI 1 0 [(0, .int a0)] [] M _
  unfold Mod_abs
  refine EJ_iload_n 1 0 (dk_26 (bt bc_Mod_abs_0 0 rfl)) rfl rfl ?_
  refine EJ_if_ge 9 4 (dk_156 (bt bc_Mod_abs_0 1 rfl) (bt bc_Mod_abs_0 2 rfl) (bt bc_Mod_abs_0 3 rfl) (n := 8) rfl) (by decide) rfl (fun _ => ?_) (fun _ => ?_)
  · refine EJ_iload_n 10 0 (dk_26 (bt bc_Mod_abs_0 9 rfl)) rfl rfl ?_
    exact EJ_iret rfl (dk_172 (bt bc_Mod_abs_0 10 rfl))
  · refine EJ_iload_n 5 0 (dk_26 (bt bc_Mod_abs_0 4 rfl)) rfl rfl ?_
    refine EJ_ineg 6 (dk_116 (bt bc_Mod_abs_0 5 rfl)) rfl ?_
    refine EJ_goto 10 (dk_167 (bt bc_Mod_abs_0 6 rfl) (bt bc_Mod_abs_0 7 rfl) (bt bc_Mod_abs_0 8 rfl) (n := 4) rfl) (by decide) ?_
    exact EJ_iret rfl (dk_172 (bt bc_Mod_abs_0 10 rfl))
abbrev Y_Mod_needOf : Ym := (⟨"RiceHallModel", "needOf", "(I)J"⟩, prog_14_method_31_code, 2, (some FieldType.long))
theorem bc_Mod_needOf_0 : bts prog_14_method_31_code 0 [42, 5, 182, 1, 46, 133, 42, 180, 0, 36, 27, 46, 184, 1, 60, 133, 105, 173] := bts_of (by decide +kernel)
theorem hd_Mod_needOf : Y_Mod_needOf.1.cls = RX12 ∧ Y_Mod_needOf.1.cls ≠ "java/lang/invoke/MethodHandle" ∧ Y_Mod_needOf.1.cls ≠ "java/lang/invoke/VarHandle" ∧ (parseMethodDescriptor Y_Mod_needOf.1.desc).map (fun d => d.parameters.length) = some 1 := by decide +kernel
def Mod_needOf (M : Mm) (a0 : Nat) (a1 : Int32) : Option (Int64 × Mm) :=
  ck (kO M a0 12 107) (
  bd (Mod_asked M a0 2) (fun r2 M3 =>
  ck (kO M3 a0 12 107) (
  nn (mR M3 a0 11) (fun b5 =>
  ck (kA M3 b5 20 a1) (
  bd (Mod_abs M3 (mI M3 b5 (ix a1))) (fun r7 M8 =>
  some ((Int32.toInt64 r2) * (Int32.toInt64 r7), M8)))))))
set_option maxRecDepth 100000 in
set_option maxHeartbeats 4000000 in
theorem s_Mod_needOf (G : Gx) (M : Mm) (a0 : Nat) (a1 : Int32) : FnS G Y_Mod_needOf cvL 5 [.ref a0, .int a1] M (Mod_needOf M a0 a1) := by
  refine FnS.ofE (by decide) (Nat.le_of_ble_eq_true rfl) ?_
  show EJ G Y_Mod_needOf cvL 5 0 [(0, .ref a0), (1, .int a1)] [] M _
  unfold Mod_needOf
  refine EJ_aload_n 1 0 (dk_42 (bt bc_Mod_needOf_0 0 rfl)) rfl rfl ?_
  refine EJ_iconst 2 (dk_5 (bt bc_Mod_needOf_0 1 rfl)) rfl (v := 2) kI_2 ?_
  refine EJ_ck (fun h1 => ?_)
  refine EJ_callVi (Y2 := Y_Mod_asked) 5 cf12 (s_Mod_asked G _ _ _) (of_decide_eq_true h1) rfl (dk_182 (bt bc_Mod_needOf_0 2 rfl) (bt bc_Mod_needOf_0 3 rfl) (bt bc_Mod_needOf_0 4 rfl) (n := 302) rfl) rfl tw_1608 tw_1610 ts_44 tw_1611 hd_Mod_asked rfl (by decide) (Nat.le_of_ble_eq_true rfl) (fun r2 M3 => ?_)
  refine EJ_i2l 6 (dk_133 (bt bc_Mod_needOf_0 5 rfl)) rfl ?_
  refine EJ_aload_n 7 0 (dk_42 (bt bc_Mod_needOf_0 6 rfl)) rfl rfl ?_
  refine EJ_ck (fun h4 => ?_)
  refine EJ_getR cf12 11 (by decide) 10 tw_1209 (fun _ _ _ => rfl) (dk_180 (bt bc_Mod_needOf_0 7 rfl) (bt bc_Mod_needOf_0 8 rfl) (bt bc_Mod_needOf_0 9 rfl) (n := 36) rfl) rfl (of_decide_eq_true h4) (fun b5 => ?_)
  refine EJ_iload_n 11 1 (dk_27 (bt bc_Mod_needOf_0 10 rfl)) rfl rfl ?_
  refine EJ_ck (fun h6 => ?_)
  refine EJ_iald 12 h6 (dk_46 (bt bc_Mod_needOf_0 11 rfl)) rfl ?_
  refine EJ_callSi (Y2 := Y_Mod_abs) 15 (s_Mod_abs G _ _) rfl (dk_184 (bt bc_Mod_needOf_0 12 rfl) (bt bc_Mod_needOf_0 13 rfl) (bt bc_Mod_needOf_0 14 rfl) (n := 316) rfl) rfl tw_1656 tw_1657 tw_8 tw_1658 hd_Mod_abs rfl (by decide) (Nat.le_of_ble_eq_true rfl) (fun r7 M8 => ?_)
  refine EJ_i2l 16 (dk_133 (bt bc_Mod_needOf_0 15 rfl)) rfl ?_
  refine EJ_lmul 17 (dk_105 (bt bc_Mod_needOf_0 16 rfl)) rfl ?_
  exact EJ_lret rfl (dk_173 (bt bc_Mod_needOf_0 17 rfl))
abbrev Y_Mod_told : Ym := (⟨"RiceHallModel", "told", "(II)I"⟩, prog_14_method_32_code, 3, (some FieldType.int))
theorem bc_Mod_told_0 : bts prog_14_method_32_code 0 [42, 27, 182, 1, 22, 154, 0, 7, 19, 1, 63, 172, 28, 170, 0, 0, 0, 0, 0, 110, 0, 0, 0, 0, 0, 0, 0, 6, 0, 0, 0, 43] := bts_of (by decide +kernel)
theorem bc_Mod_told_1 : bts prog_14_method_32_code 32 [0, 0, 0, 50, 0, 0, 0, 57, 0, 0, 0, 64, 0, 0, 0, 71, 0, 0, 0, 78, 0, 0, 0, 85, 42, 180, 0, 33, 27, 46, 172, 42] := bts_of (by decide +kernel)
theorem bc_Mod_told_2 : bts prog_14_method_32_code 64 [180, 0, 36, 27, 46, 172, 42, 180, 0, 39, 27, 46, 172, 42, 180, 0, 42, 27, 46, 172, 42, 180, 0, 45, 27, 46, 172, 42, 180, 0, 48, 27] := bts_of (by decide +kernel)
theorem bc_Mod_told_3 : bts prog_14_method_32_code 96 [46, 172, 42, 27, 182, 1, 64, 20, 1, 68, 148, 158, 0, 9, 19, 1, 70, 167, 0, 9, 42, 27, 182, 1, 64, 136, 172, 28, 16, 10, 161, 0] := bts_of (by decide +kernel)
theorem bc_Mod_told_4 : bts prog_14_method_32_code 128 [30, 28, 16, 10, 42, 180, 1, 16, 96, 162, 0, 19, 42, 180, 0, 55, 7, 27, 104, 28, 96, 16, 10, 100, 46, 167, 0, 6, 19, 1, 63, 172] := bts_of (by decide +kernel)
theorem hd_Mod_told : Y_Mod_told.1.cls = RX12 ∧ Y_Mod_told.1.cls ≠ "java/lang/invoke/MethodHandle" ∧ Y_Mod_told.1.cls ≠ "java/lang/invoke/VarHandle" ∧ (parseMethodDescriptor Y_Mod_told.1.desc).map (fun d => d.parameters.length) = some 2 := by decide +kernel
set_option maxRecDepth 100000 in
theorem ds_Mod_told_13 : decode prog_14_method_32_code 13 = .ok (.tableswitch (110) (0) (6) #[43, 50, 57, 64, 71, 78, 85], 43) := by decide +kernel
def Mod_told (M : Mm) (a0 : Nat) (a1 : Int32) (a2 : Int32) : Option (Int32 × Mm) :=
  ck (kO M a0 12 107) (
  bd (Mod_isPerson M a0 a1) (fun r2 M3 =>
  if r2 = 0 then (
    some ((-100000000), M3))
  else (
    if a2 = 0 then (
      ck (kO M3 a0 12 107) (
      nn (mR M3 a0 10) (fun b5 =>
      ck (kA M3 b5 20 a1) (
      some (mI M3 b5 (ix a1), M3)))))
    else (
    if a2 = 1 then (
      ck (kO M3 a0 12 107) (
      nn (mR M3 a0 11) (fun b8 =>
      ck (kA M3 b8 20 a1) (
      some (mI M3 b8 (ix a1), M3)))))
    else (
    if a2 = 2 then (
      ck (kO M3 a0 12 107) (
      nn (mR M3 a0 12) (fun b11 =>
      ck (kA M3 b11 20 a1) (
      some (mI M3 b11 (ix a1), M3)))))
    else (
    if a2 = 3 then (
      ck (kO M3 a0 12 107) (
      nn (mR M3 a0 13) (fun b14 =>
      ck (kA M3 b14 20 a1) (
      some (mI M3 b14 (ix a1), M3)))))
    else (
    if a2 = 4 then (
      ck (kO M3 a0 12 107) (
      nn (mR M3 a0 14) (fun b17 =>
      ck (kA M3 b17 20 a1) (
      some (mI M3 b17 (ix a1), M3)))))
    else (
    if a2 = 5 then (
      ck (kO M3 a0 12 107) (
      nn (mR M3 a0 15) (fun b20 =>
      ck (kA M3 b20 20 a1) (
      some (mI M3 b20 (ix a1), M3)))))
    else (
    if a2 = 6 then (
      ck (kO M3 a0 12 107) (
      bd (Mod_needOf M3 a0 a1) (fun r23 M24 =>
      if r23 ≤ 2000000000 then (
        ck (kO M24 a0 12 107) (
        bd (Mod_needOf M24 a0 a1) (fun r26 M27 =>
        some (Int64.toInt32 r26, M27))))
      else (
        some (2000000000, M24)))))
    else (
    if a2 < 10 then (
      some ((-100000000), M3))
    else (
      ck (kO M3 a0 12 107) (
      if (10 + (mI M3 a0 22)) ≤ a2 then (
        some ((-100000000), M3))
      else (
        nn (mR M3 a0 17) (fun b29 =>
        ck (kA M3 b29 20 (((4 * a1) + a2) - 10)) (
        some (mI M3 b29 (ix (((4 * a1) + a2) - 10)), M3))))))))))))))))
set_option maxRecDepth 100000 in
set_option maxHeartbeats 4000000 in
theorem s_Mod_told (G : Gx) (M : Mm) (a0 : Nat) (a1 : Int32) (a2 : Int32) : FnS G Y_Mod_told cvI 6 [.ref a0, .int a1, .int a2] M (Mod_told M a0 a1 a2) := by
  refine FnS.ofE (by decide) (Nat.le_of_ble_eq_true rfl) ?_
  show EJ G Y_Mod_told cvI 6 0 [(0, .ref a0), (1, .int a1), (2, .int a2)] [] M _
  unfold Mod_told
  refine EJ_aload_n 1 0 (dk_42 (bt bc_Mod_told_0 0 rfl)) rfl rfl ?_
  refine EJ_iload_n 2 1 (dk_27 (bt bc_Mod_told_0 1 rfl)) rfl rfl ?_
  refine EJ_ck (fun h1 => ?_)
  refine EJ_callVi (Y2 := Y_Mod_isPerson) 5 cf12 (s_Mod_isPerson G _ _ _) (of_decide_eq_true h1) rfl (dk_182 (bt bc_Mod_told_0 2 rfl) (bt bc_Mod_told_0 3 rfl) (bt bc_Mod_told_0 4 rfl) (n := 278) rfl) rfl tw_1576 tw_1578 ts_41 tw_1579 hd_Mod_isPerson rfl (by decide) (Nat.le_of_ble_eq_true rfl) (fun r2 M3 => ?_)
  refine EJ_if_ne 12 8 (dk_154 (bt bc_Mod_told_0 5 rfl) (bt bc_Mod_told_0 6 rfl) (bt bc_Mod_told_0 7 rfl) (n := 7) rfl) (by decide) rfl (fun _ => ?_) (fun _ => ?_)
  · refine EJ_iload_n 13 2 (dk_28 (bt bc_Mod_told_0 12 rfl)) rfl rfl ?_
    refine EJ_case 0 56 ds_Mod_told_13 (by decide) rfl (by decide) (fun _ => ?_) (fun hc13_0 => ?_)
    · refine EJ_aload_n 57 0 (dk_42 (bt bc_Mod_told_1 24 rfl)) rfl rfl ?_
      refine EJ_ck (fun h4 => ?_)
      refine EJ_getR cf12 10 (by decide) 60 tw_1208 (fun _ _ _ => rfl) (dk_180 (bt bc_Mod_told_1 25 rfl) (bt bc_Mod_told_1 26 rfl) (bt bc_Mod_told_1 27 rfl) (n := 33) rfl) rfl (of_decide_eq_true h4) (fun b5 => ?_)
      refine EJ_iload_n 61 1 (dk_27 (bt bc_Mod_told_1 28 rfl)) rfl rfl ?_
      refine EJ_ck (fun h6 => ?_)
      refine EJ_iald 62 h6 (dk_46 (bt bc_Mod_told_1 29 rfl)) rfl ?_
      exact EJ_iret rfl (dk_172 (bt bc_Mod_told_1 30 rfl))
    refine EJ_case 1 63 ds_Mod_told_13 (by decide) rfl (by decide) (fun _ => ?_) (fun hc13_1 => ?_)
    · refine EJ_aload_n 64 0 (dk_42 (bt bc_Mod_told_1 31 rfl)) rfl rfl ?_
      refine EJ_ck (fun h7 => ?_)
      refine EJ_getR cf12 11 (by decide) 67 tw_1209 (fun _ _ _ => rfl) (dk_180 (bt bc_Mod_told_2 0 rfl) (bt bc_Mod_told_2 1 rfl) (bt bc_Mod_told_2 2 rfl) (n := 36) rfl) rfl (of_decide_eq_true h7) (fun b8 => ?_)
      refine EJ_iload_n 68 1 (dk_27 (bt bc_Mod_told_2 3 rfl)) rfl rfl ?_
      refine EJ_ck (fun h9 => ?_)
      refine EJ_iald 69 h9 (dk_46 (bt bc_Mod_told_2 4 rfl)) rfl ?_
      exact EJ_iret rfl (dk_172 (bt bc_Mod_told_2 5 rfl))
    refine EJ_case 2 70 ds_Mod_told_13 (by decide) rfl (by decide) (fun _ => ?_) (fun hc13_2 => ?_)
    · refine EJ_aload_n 71 0 (dk_42 (bt bc_Mod_told_2 6 rfl)) rfl rfl ?_
      refine EJ_ck (fun h10 => ?_)
      refine EJ_getR cf12 12 (by decide) 74 tw_1210 (fun _ _ _ => rfl) (dk_180 (bt bc_Mod_told_2 7 rfl) (bt bc_Mod_told_2 8 rfl) (bt bc_Mod_told_2 9 rfl) (n := 39) rfl) rfl (of_decide_eq_true h10) (fun b11 => ?_)
      refine EJ_iload_n 75 1 (dk_27 (bt bc_Mod_told_2 10 rfl)) rfl rfl ?_
      refine EJ_ck (fun h12 => ?_)
      refine EJ_iald 76 h12 (dk_46 (bt bc_Mod_told_2 11 rfl)) rfl ?_
      exact EJ_iret rfl (dk_172 (bt bc_Mod_told_2 12 rfl))
    refine EJ_case 3 77 ds_Mod_told_13 (by decide) rfl (by decide) (fun _ => ?_) (fun hc13_3 => ?_)
    · refine EJ_aload_n 78 0 (dk_42 (bt bc_Mod_told_2 13 rfl)) rfl rfl ?_
      refine EJ_ck (fun h13 => ?_)
      refine EJ_getR cf12 13 (by decide) 81 tw_1211 (fun _ _ _ => rfl) (dk_180 (bt bc_Mod_told_2 14 rfl) (bt bc_Mod_told_2 15 rfl) (bt bc_Mod_told_2 16 rfl) (n := 42) rfl) rfl (of_decide_eq_true h13) (fun b14 => ?_)
      refine EJ_iload_n 82 1 (dk_27 (bt bc_Mod_told_2 17 rfl)) rfl rfl ?_
      refine EJ_ck (fun h15 => ?_)
      refine EJ_iald 83 h15 (dk_46 (bt bc_Mod_told_2 18 rfl)) rfl ?_
      exact EJ_iret rfl (dk_172 (bt bc_Mod_told_2 19 rfl))
    refine EJ_case 4 84 ds_Mod_told_13 (by decide) rfl (by decide) (fun _ => ?_) (fun hc13_4 => ?_)
    · refine EJ_aload_n 85 0 (dk_42 (bt bc_Mod_told_2 20 rfl)) rfl rfl ?_
      refine EJ_ck (fun h16 => ?_)
      refine EJ_getR cf12 14 (by decide) 88 tw_1212 (fun _ _ _ => rfl) (dk_180 (bt bc_Mod_told_2 21 rfl) (bt bc_Mod_told_2 22 rfl) (bt bc_Mod_told_2 23 rfl) (n := 45) rfl) rfl (of_decide_eq_true h16) (fun b17 => ?_)
      refine EJ_iload_n 89 1 (dk_27 (bt bc_Mod_told_2 24 rfl)) rfl rfl ?_
      refine EJ_ck (fun h18 => ?_)
      refine EJ_iald 90 h18 (dk_46 (bt bc_Mod_told_2 25 rfl)) rfl ?_
      exact EJ_iret rfl (dk_172 (bt bc_Mod_told_2 26 rfl))
    refine EJ_case 5 91 ds_Mod_told_13 (by decide) rfl (by decide) (fun _ => ?_) (fun hc13_5 => ?_)
    · refine EJ_aload_n 92 0 (dk_42 (bt bc_Mod_told_2 27 rfl)) rfl rfl ?_
      refine EJ_ck (fun h19 => ?_)
      refine EJ_getR cf12 15 (by decide) 95 tw_1213 (fun _ _ _ => rfl) (dk_180 (bt bc_Mod_told_2 28 rfl) (bt bc_Mod_told_2 29 rfl) (bt bc_Mod_told_2 30 rfl) (n := 48) rfl) rfl (of_decide_eq_true h19) (fun b20 => ?_)
      refine EJ_iload_n 96 1 (dk_27 (bt bc_Mod_told_2 31 rfl)) rfl rfl ?_
      refine EJ_ck (fun h21 => ?_)
      refine EJ_iald 97 h21 (dk_46 (bt bc_Mod_told_3 0 rfl)) rfl ?_
      exact EJ_iret rfl (dk_172 (bt bc_Mod_told_3 1 rfl))
    refine EJ_case 6 98 ds_Mod_told_13 (by decide) rfl (by decide) (fun _ => ?_) (fun hc13_6 => ?_)
    · refine EJ_aload_n 99 0 (dk_42 (bt bc_Mod_told_3 2 rfl)) rfl rfl ?_
      refine EJ_iload_n 100 1 (dk_27 (bt bc_Mod_told_3 3 rfl)) rfl rfl ?_
      refine EJ_ck (fun h22 => ?_)
      refine EJ_callVl (Y2 := Y_Mod_needOf) 103 cf12 (s_Mod_needOf G _ _ _) (of_decide_eq_true h22) rfl (dk_182 (bt bc_Mod_told_3 4 rfl) (bt bc_Mod_told_3 5 rfl) (bt bc_Mod_told_3 6 rfl) (n := 320) rfl) rfl tw_1652 tw_1654 ts_50 tw_1655 hd_Mod_needOf rfl (by decide) (Nat.le_of_ble_eq_true rfl) (fun r23 M24 => ?_)
      refine EJ_ldc2 106 (dk_20 (bt bc_Mod_told_3 7 rfl) (bt bc_Mod_told_3 8 rfl) (bt bc_Mod_told_3 9 rfl) (n := 324) rfl) rfl tw_1659 ?_
      refine EJ_lcmp_le 116 110 (dk_148 (bt bc_Mod_told_3 10 rfl)) (dk_158 (bt bc_Mod_told_3 11 rfl) (bt bc_Mod_told_3 12 rfl) (bt bc_Mod_told_3 13 rfl) (n := 9) rfl) (by decide) rfl (fun _ => ?_) (fun _ => ?_)
      · refine EJ_aload_n 117 0 (dk_42 (bt bc_Mod_told_3 20 rfl)) rfl rfl ?_
        refine EJ_iload_n 118 1 (dk_27 (bt bc_Mod_told_3 21 rfl)) rfl rfl ?_
        refine EJ_ck (fun h25 => ?_)
        refine EJ_callVl (Y2 := Y_Mod_needOf) 121 cf12 (s_Mod_needOf G _ _ _) (of_decide_eq_true h25) rfl (dk_182 (bt bc_Mod_told_3 22 rfl) (bt bc_Mod_told_3 23 rfl) (bt bc_Mod_told_3 24 rfl) (n := 320) rfl) rfl tw_1652 tw_1654 ts_50 tw_1655 hd_Mod_needOf rfl (by decide) (Nat.le_of_ble_eq_true rfl) (fun r26 M27 => ?_)
        refine EJ_l2i 122 (dk_136 (bt bc_Mod_told_3 25 rfl)) rfl ?_
        exact EJ_iret rfl (dk_172 (bt bc_Mod_told_3 26 rfl))
      · refine EJ_ldcw 113 (dk_19 (bt bc_Mod_told_3 14 rfl) (bt bc_Mod_told_3 15 rfl) (bt bc_Mod_told_3 16 rfl) (n := 326) rfl) rfl tw_1660 ?_
        refine EJ_goto 122 (dk_167 (bt bc_Mod_told_3 17 rfl) (bt bc_Mod_told_3 18 rfl) (bt bc_Mod_told_3 19 rfl) (n := 9) rfl) (by decide) ?_
        exact EJ_iret rfl (dk_172 (bt bc_Mod_told_3 26 rfl))
    refine EJ_tabOut 123 ds_Mod_told_13 (tabOut (fun k k1 k2 => by
        rcases (show k = 0 ∨ k = 1 ∨ k = 2 ∨ k = 3 ∨ k = 4 ∨ k = 5 ∨ k = 6 by omega) with rfl | rfl | rfl | rfl | rfl | rfl | rfl
        · exact hc13_0
        · exact hc13_1
        · exact hc13_2
        · exact hc13_3
        · exact hc13_4
        · exact hc13_5
        · exact hc13_6)) (by decide) ?_
    refine EJ_iload_n 124 2 (dk_28 (bt bc_Mod_told_3 27 rfl)) rfl rfl ?_
    refine EJ_bipush 126 (dk_16 (bt bc_Mod_told_3 28 rfl) (bt bc_Mod_told_3 29 rfl) (n := 10) rfl) rfl (v := 10) kB_10 ?_
    refine EJ_icmp_lt 156 129 (dk_161 (bt bc_Mod_told_3 30 rfl) (bt bc_Mod_told_3 31 rfl) (bt bc_Mod_told_4 0 rfl) (n := 30) rfl) (by decide) rfl (fun _ => ?_) (fun _ => ?_)
    · refine EJ_ldcw 159 (dk_19 (bt bc_Mod_told_4 28 rfl) (bt bc_Mod_told_4 29 rfl) (bt bc_Mod_told_4 30 rfl) (n := 319) rfl) rfl tw_1651 ?_
      exact EJ_iret rfl (dk_172 (bt bc_Mod_told_4 31 rfl))
    · refine EJ_iload_n 130 2 (dk_28 (bt bc_Mod_told_4 1 rfl)) rfl rfl ?_
      refine EJ_bipush 132 (dk_16 (bt bc_Mod_told_4 2 rfl) (bt bc_Mod_told_4 3 rfl) (n := 10) rfl) rfl (v := 10) kB_10 ?_
      refine EJ_aload_n 133 0 (dk_42 (bt bc_Mod_told_4 4 rfl)) rfl rfl ?_
      refine EJ_ck (fun h28 => ?_)
      refine EJ_getI cf12 22 (by decide) 136 tw_1220 (fun _ _ _ => rfl) (dk_180 (bt bc_Mod_told_4 5 rfl) (bt bc_Mod_told_4 6 rfl) (bt bc_Mod_told_4 7 rfl) (n := 272) rfl) rfl (of_decide_eq_true h28) ?_
      refine EJ_iadd 137 (dk_96 (bt bc_Mod_told_4 8 rfl)) rfl ?_
      refine EJ_icmp_ge 156 140 (dk_162 (bt bc_Mod_told_4 9 rfl) (bt bc_Mod_told_4 10 rfl) (bt bc_Mod_told_4 11 rfl) (n := 19) rfl) (by decide) rfl (fun _ => ?_) (fun _ => ?_)
      · refine EJ_ldcw 159 (dk_19 (bt bc_Mod_told_4 28 rfl) (bt bc_Mod_told_4 29 rfl) (bt bc_Mod_told_4 30 rfl) (n := 319) rfl) rfl tw_1651 ?_
        exact EJ_iret rfl (dk_172 (bt bc_Mod_told_4 31 rfl))
      · refine EJ_aload_n 141 0 (dk_42 (bt bc_Mod_told_4 12 rfl)) rfl rfl ?_
        refine EJ_getR cf12 17 (by decide) 144 tw_1215 (fun _ _ _ => rfl) (dk_180 (bt bc_Mod_told_4 13 rfl) (bt bc_Mod_told_4 14 rfl) (bt bc_Mod_told_4 15 rfl) (n := 55) rfl) rfl (of_decide_eq_true h28) (fun b29 => ?_)
        refine EJ_iconst 145 (dk_7 (bt bc_Mod_told_4 16 rfl)) rfl (v := 4) kI_4 ?_
        refine EJ_iload_n 146 1 (dk_27 (bt bc_Mod_told_4 17 rfl)) rfl rfl ?_
        refine EJ_imul 147 (dk_104 (bt bc_Mod_told_4 18 rfl)) rfl ?_
        refine EJ_iload_n 148 2 (dk_28 (bt bc_Mod_told_4 19 rfl)) rfl rfl ?_
        refine EJ_iadd 149 (dk_96 (bt bc_Mod_told_4 20 rfl)) rfl ?_
        refine EJ_bipush 151 (dk_16 (bt bc_Mod_told_4 21 rfl) (bt bc_Mod_told_4 22 rfl) (n := 10) rfl) rfl (v := 10) kB_10 ?_
        refine EJ_isub 152 (dk_100 (bt bc_Mod_told_4 23 rfl)) rfl ?_
        refine EJ_ck (fun h30 => ?_)
        refine EJ_iald 153 h30 (dk_46 (bt bc_Mod_told_4 24 rfl)) rfl ?_
        refine EJ_goto 159 (dk_167 (bt bc_Mod_told_4 25 rfl) (bt bc_Mod_told_4 26 rfl) (bt bc_Mod_told_4 27 rfl) (n := 6) rfl) (by decide) ?_
        exact EJ_iret rfl (dk_172 (bt bc_Mod_told_4 31 rfl))
  · refine EJ_ldcw 11 (dk_19 (bt bc_Mod_told_0 8 rfl) (bt bc_Mod_told_0 9 rfl) (bt bc_Mod_told_0 10 rfl) (n := 319) rfl) rfl tw_1651 ?_
    exact EJ_iret rfl (dk_172 (bt bc_Mod_told_0 11 rfl))
abbrev Y_Mod_coins : Ym := (⟨"RiceHallModel", "coins", "(I)J"⟩, prog_14_method_33_code, 2, (some FieldType.long))
theorem bc_Mod_coins_0 : bts prog_14_method_33_code 0 [27, 2, 160, 0, 10, 42, 180, 1, 71, 167, 0, 23, 42, 27, 182, 1, 22, 153, 0, 12, 42, 180, 0, 51, 27, 47, 167, 0, 6, 20, 1, 75] := bts_of (by decide +kernel)
theorem bc_Mod_coins_1 : bts prog_14_method_33_code 32 [173] := bts_of (by decide +kernel)
theorem hd_Mod_coins : Y_Mod_coins.1.cls = RX12 ∧ Y_Mod_coins.1.cls ≠ "java/lang/invoke/MethodHandle" ∧ Y_Mod_coins.1.cls ≠ "java/lang/invoke/VarHandle" ∧ (parseMethodDescriptor Y_Mod_coins.1.desc).map (fun d => d.parameters.length) = some 1 := by decide +kernel
def Mod_coins (M : Mm) (a0 : Nat) (a1 : Int32) : Option (Int64 × Mm) :=
  if a1 = (-1) then (
    ck (kO M a0 12 107) (
    some (mL M a0 18, M)))
  else (
    ck (kO M a0 12 107) (
    bd (Mod_isPerson M a0 a1) (fun r2 M3 =>
    if r2 = 0 then (
      some ((-1000000000000), M3))
    else (
      ck (kO M3 a0 12 107) (
      nn (mR M3 a0 16) (fun b5 =>
      ck (kA M3 b5 23 a1) (
      some (mL M3 b5 (ix a1), M3))))))))
set_option maxRecDepth 100000 in
set_option maxHeartbeats 4000000 in
theorem s_Mod_coins (G : Gx) (M : Mm) (a0 : Nat) (a1 : Int32) : FnS G Y_Mod_coins cvL 2 [.ref a0, .int a1] M (Mod_coins M a0 a1) := by
  refine FnS.ofE (by decide) (Nat.le_of_ble_eq_true rfl) ?_
  show EJ G Y_Mod_coins cvL 2 0 [(0, .ref a0), (1, .int a1)] [] M _
  unfold Mod_coins
  refine EJ_iload_n 1 1 (dk_27 (bt bc_Mod_coins_0 0 rfl)) rfl rfl ?_
  refine EJ_iconst 2 (dk_2 (bt bc_Mod_coins_0 1 rfl)) rfl (v := (-1)) kI_m1 ?_
  refine EJ_icmp_ne 12 5 (dk_160 (bt bc_Mod_coins_0 2 rfl) (bt bc_Mod_coins_0 3 rfl) (bt bc_Mod_coins_0 4 rfl) (n := 10) rfl) (by decide) rfl (fun _ => ?_) (fun _ => ?_)
  · refine EJ_aload_n 13 0 (dk_42 (bt bc_Mod_coins_0 12 rfl)) rfl rfl ?_
    refine EJ_iload_n 14 1 (dk_27 (bt bc_Mod_coins_0 13 rfl)) rfl rfl ?_
    refine EJ_ck (fun h1 => ?_)
    refine EJ_callVi (Y2 := Y_Mod_isPerson) 17 cf12 (s_Mod_isPerson G _ _ _) (of_decide_eq_true h1) rfl (dk_182 (bt bc_Mod_coins_0 14 rfl) (bt bc_Mod_coins_0 15 rfl) (bt bc_Mod_coins_0 16 rfl) (n := 278) rfl) rfl tw_1576 tw_1578 ts_41 tw_1579 hd_Mod_isPerson rfl (by decide) (Nat.le_of_ble_eq_true rfl) (fun r2 M3 => ?_)
    refine EJ_if_eq 29 20 (dk_153 (bt bc_Mod_coins_0 17 rfl) (bt bc_Mod_coins_0 18 rfl) (bt bc_Mod_coins_0 19 rfl) (n := 12) rfl) (by decide) rfl (fun _ => ?_) (fun _ => ?_)
    · refine EJ_ldc2 32 (dk_20 (bt bc_Mod_coins_0 29 rfl) (bt bc_Mod_coins_0 30 rfl) (bt bc_Mod_coins_0 31 rfl) (n := 331) rfl) rfl tw_1665 ?_
      exact EJ_lret rfl (dk_173 (bt bc_Mod_coins_1 0 rfl))
    · refine EJ_aload_n 21 0 (dk_42 (bt bc_Mod_coins_0 20 rfl)) rfl rfl ?_
      refine EJ_ck (fun h4 => ?_)
      refine EJ_getR cf12 16 (by decide) 24 tw_1214 (fun _ _ _ => rfl) (dk_180 (bt bc_Mod_coins_0 21 rfl) (bt bc_Mod_coins_0 22 rfl) (bt bc_Mod_coins_0 23 rfl) (n := 51) rfl) rfl (of_decide_eq_true h4) (fun b5 => ?_)
      refine EJ_iload_n 25 1 (dk_27 (bt bc_Mod_coins_0 24 rfl)) rfl rfl ?_
      refine EJ_ck (fun h6 => ?_)
      refine EJ_lald 26 h6 (dk_47 (bt bc_Mod_coins_0 25 rfl)) rfl ?_
      refine EJ_goto 32 (dk_167 (bt bc_Mod_coins_0 26 rfl) (bt bc_Mod_coins_0 27 rfl) (bt bc_Mod_coins_0 28 rfl) (n := 6) rfl) (by decide) ?_
      exact EJ_lret rfl (dk_173 (bt bc_Mod_coins_1 0 rfl))
  · refine EJ_aload_n 6 0 (dk_42 (bt bc_Mod_coins_0 5 rfl)) rfl rfl ?_
    refine EJ_ck (fun h7 => ?_)
    refine EJ_getL cf12 18 (by decide) 9 tw_1216 (fun _ _ _ => rfl) (dk_180 (bt bc_Mod_coins_0 6 rfl) (bt bc_Mod_coins_0 7 rfl) (bt bc_Mod_coins_0 8 rfl) (n := 327) rfl) rfl (of_decide_eq_true h7) ?_
    refine EJ_goto 32 (dk_167 (bt bc_Mod_coins_0 9 rfl) (bt bc_Mod_coins_0 10 rfl) (bt bc_Mod_coins_0 11 rfl) (n := 23) rfl) (by decide) ?_
    exact EJ_lret rfl (dk_173 (bt bc_Mod_coins_1 0 rfl))
abbrev Y_Mod_pay : Ym := (⟨"RiceHallModel", "pay", "(II)Z"⟩, prog_14_method_34_code, 3, (some FieldType.boolean))
theorem bc_Mod_pay_0 : bts prog_14_method_34_code 0 [42, 27, 182, 1, 22, 153, 0, 14, 28, 4, 19, 1, 45, 184, 0, 252, 154, 0, 5, 3, 172, 42, 180, 0, 51, 27, 92, 47, 28, 133, 97, 80] := bts_of (by decide +kernel)
theorem bc_Mod_pay_1 : bts prog_14_method_34_code 32 [42, 89, 180, 1, 77, 28, 133, 97, 181, 1, 77, 4, 172] := bts_of (by decide +kernel)
theorem hd_Mod_pay : Y_Mod_pay.1.cls = RX12 ∧ Y_Mod_pay.1.cls ≠ "java/lang/invoke/MethodHandle" ∧ Y_Mod_pay.1.cls ≠ "java/lang/invoke/VarHandle" ∧ (parseMethodDescriptor Y_Mod_pay.1.desc).map (fun d => d.parameters.length) = some 2 := by decide +kernel
def Mod_pay (M : Mm) (a0 : Nat) (a1 : Int32) (a2 : Int32) : Option (Int32 × Mm) :=
  ck (kO M a0 12 107) (
  bd (Mod_isPerson M a0 a1) (fun r2 M3 =>
  if r2 = 0 then (
    some (0, M3))
  else (
    bd (Mod_in M3 a2 1 99999) (fun r4 M5 =>
    if r4 = 0 then (
      some (0, M5))
    else (
      ck (kO M5 a0 12 107) (
      nn (mR M5 a0 16) (fun b7 =>
      ck (kA M5 b7 23 a1) (
      let M9 := sL M5 b7 (ix a1) ((mL M5 b7 (ix a1)) + (Int32.toInt64 a2))
      let M10 := sL M9 a0 19 ((mL M9 a0 19) + (Int32.toInt64 a2))
      some (1, M10)))))))))
set_option maxRecDepth 100000 in
set_option maxHeartbeats 4000000 in
theorem s_Mod_pay (G : Gx) (M : Mm) (a0 : Nat) (a1 : Int32) (a2 : Int32) : FnS G Y_Mod_pay cvI 2 [.ref a0, .int a1, .int a2] M (Mod_pay M a0 a1 a2) := by
  refine FnS.ofE (by decide) (Nat.le_of_ble_eq_true rfl) ?_
  show EJ G Y_Mod_pay cvI 2 0 [(0, .ref a0), (1, .int a1), (2, .int a2)] [] M _
  unfold Mod_pay
  refine EJ_aload_n 1 0 (dk_42 (bt bc_Mod_pay_0 0 rfl)) rfl rfl ?_
  refine EJ_iload_n 2 1 (dk_27 (bt bc_Mod_pay_0 1 rfl)) rfl rfl ?_
  refine EJ_ck (fun h1 => ?_)
  refine EJ_callVi (Y2 := Y_Mod_isPerson) 5 cf12 (s_Mod_isPerson G _ _ _) (of_decide_eq_true h1) rfl (dk_182 (bt bc_Mod_pay_0 2 rfl) (bt bc_Mod_pay_0 3 rfl) (bt bc_Mod_pay_0 4 rfl) (n := 278) rfl) rfl tw_1576 tw_1578 ts_41 tw_1579 hd_Mod_isPerson rfl (by decide) (Nat.le_of_ble_eq_true rfl) (fun r2 M3 => ?_)
  refine EJ_if_eq 19 8 (dk_153 (bt bc_Mod_pay_0 5 rfl) (bt bc_Mod_pay_0 6 rfl) (bt bc_Mod_pay_0 7 rfl) (n := 14) rfl) (by decide) rfl (fun _ => ?_) (fun _ => ?_)
  · refine EJ_iconst 20 (dk_3 (bt bc_Mod_pay_0 19 rfl)) rfl (v := 0) kI_0 ?_
    exact EJ_zret rfl (by decide) (dk_172 (bt bc_Mod_pay_0 20 rfl))
  · refine EJ_iload_n 9 2 (dk_28 (bt bc_Mod_pay_0 8 rfl)) rfl rfl ?_
    refine EJ_iconst 10 (dk_4 (bt bc_Mod_pay_0 9 rfl)) rfl (v := 1) kI_1 ?_
    refine EJ_ldcw 13 (dk_19 (bt bc_Mod_pay_0 10 rfl) (bt bc_Mod_pay_0 11 rfl) (bt bc_Mod_pay_0 12 rfl) (n := 301) rfl) rfl tw_1603 ?_
    refine EJ_callSi (Y2 := Y_Mod_in) 16 (s_Mod_in G _ _ _ _) rfl (dk_184 (bt bc_Mod_pay_0 13 rfl) (bt bc_Mod_pay_0 14 rfl) (bt bc_Mod_pay_0 15 rfl) (n := 252) rfl) rfl tw_1532 tw_1533 tw_8 tw_1534 hd_Mod_in rfl (by decide) (Nat.le_of_ble_eq_true rfl) (fun r4 M5 => ?_)
    refine EJ_if_ne 21 19 (dk_154 (bt bc_Mod_pay_0 16 rfl) (bt bc_Mod_pay_0 17 rfl) (bt bc_Mod_pay_0 18 rfl) (n := 5) rfl) (by decide) rfl (fun _ => ?_) (fun _ => ?_)
    · refine EJ_aload_n 22 0 (dk_42 (bt bc_Mod_pay_0 21 rfl)) rfl rfl ?_
      refine EJ_ck (fun h6 => ?_)
      refine EJ_getR cf12 16 (by decide) 25 tw_1214 (fun _ _ _ => rfl) (dk_180 (bt bc_Mod_pay_0 22 rfl) (bt bc_Mod_pay_0 23 rfl) (bt bc_Mod_pay_0 24 rfl) (n := 51) rfl) rfl (of_decide_eq_true h6) (fun b7 => ?_)
      refine EJ_iload_n 26 1 (dk_27 (bt bc_Mod_pay_0 25 rfl)) rfl rfl ?_
      refine EJ_dup2 27 (dk_92 (bt bc_Mod_pay_0 26 rfl)) rfl rfl rfl ?_
      refine EJ_ck (fun h8 => ?_)
      refine EJ_lald 28 h8 (dk_47 (bt bc_Mod_pay_0 27 rfl)) rfl ?_
      refine EJ_iload_n 29 2 (dk_28 (bt bc_Mod_pay_0 28 rfl)) rfl rfl ?_
      refine EJ_i2l 30 (dk_133 (bt bc_Mod_pay_0 29 rfl)) rfl ?_
      refine EJ_ladd 31 (dk_97 (bt bc_Mod_pay_0 30 rfl)) rfl ?_
      refine EJ_last 32 h8 (dk_80 (bt bc_Mod_pay_0 31 rfl)) rfl ?_
      refine EJ_aload_n 33 0 (dk_42 (bt bc_Mod_pay_1 0 rfl)) rfl rfl ?_
      refine EJ_dup 34 (dk_89 (bt bc_Mod_pay_1 1 rfl)) rfl rfl ?_
      refine EJ_getL cf12 19 (by decide) 37 tw_1217 (fun _ _ _ => rfl) (dk_180 (bt bc_Mod_pay_1 2 rfl) (bt bc_Mod_pay_1 3 rfl) (bt bc_Mod_pay_1 4 rfl) (n := 333) rfl) rfl (kp_L (of_decide_eq_true h6)) ?_
      refine EJ_iload_n 38 2 (dk_28 (bt bc_Mod_pay_1 5 rfl)) rfl rfl ?_
      refine EJ_i2l 39 (dk_133 (bt bc_Mod_pay_1 6 rfl)) rfl ?_
      refine EJ_ladd 40 (dk_97 (bt bc_Mod_pay_1 7 rfl)) rfl ?_
      refine EJ_putL cf12 19 (by decide) 43 tw_1217 rfl (Or.inl rfl) (dk_181 (bt bc_Mod_pay_1 8 rfl) (bt bc_Mod_pay_1 9 rfl) (bt bc_Mod_pay_1 10 rfl) (n := 333) rfl) rfl (kp_L (of_decide_eq_true h6)) ?_
      refine EJ_iconst 44 (dk_4 (bt bc_Mod_pay_1 11 rfl)) rfl (v := 1) kI_1 ?_
      exact EJ_zret rfl (by decide) (dk_172 (bt bc_Mod_pay_1 12 rfl))
    · refine EJ_iconst 20 (dk_3 (bt bc_Mod_pay_0 19 rfl)) rfl (v := 0) kI_0 ?_
      exact EJ_zret rfl (by decide) (dk_172 (bt bc_Mod_pay_0 20 rfl))
abbrev Y_Mod_draw : Ym := (⟨"RiceHallModel", "draw", "(II)Z"⟩, prog_14_method_35_code, 3, (some FieldType.boolean))
theorem bc_Mod_draw_0 : bts prog_14_method_35_code 0 [42, 27, 182, 1, 22, 153, 0, 32, 28, 4, 19, 1, 45, 184, 0, 252, 153, 0, 21, 42, 180, 0, 51, 27, 47, 28, 133, 101, 42, 27, 182, 1] := bts_of (by decide +kernel)
theorem bc_Mod_draw_1 : bts prog_14_method_35_code 32 [64, 148, 156, 0, 5, 3, 172, 42, 180, 0, 51, 27, 92, 47, 28, 133, 101, 80, 42, 89, 180, 1, 80, 28, 133, 97, 181, 1, 80, 4, 172] := bts_of (by decide +kernel)
theorem hd_Mod_draw : Y_Mod_draw.1.cls = RX12 ∧ Y_Mod_draw.1.cls ≠ "java/lang/invoke/MethodHandle" ∧ Y_Mod_draw.1.cls ≠ "java/lang/invoke/VarHandle" ∧ (parseMethodDescriptor Y_Mod_draw.1.desc).map (fun d => d.parameters.length) = some 2 := by decide +kernel
def Mod_draw (M : Mm) (a0 : Nat) (a1 : Int32) (a2 : Int32) : Option (Int32 × Mm) :=
  ck (kO M a0 12 107) (
  bd (Mod_isPerson M a0 a1) (fun r2 M3 =>
  if r2 = 0 then (
    some (0, M3))
  else (
    bd (Mod_in M3 a2 1 99999) (fun r4 M5 =>
    if r4 = 0 then (
      some (0, M5))
    else (
      ck (kO M5 a0 12 107) (
      nn (mR M5 a0 16) (fun b7 =>
      ck (kA M5 b7 23 a1) (
      bd (Mod_needOf M5 a0 a1) (fun r9 M10 =>
      if r9 ≤ ((mL M5 b7 (ix a1)) - (Int32.toInt64 a2)) then (
        ck (kO M10 a0 12 107) (
        nn (mR M10 a0 16) (fun b12 =>
        ck (kA M10 b12 23 a1) (
        let M14 := sL M10 b12 (ix a1) ((mL M10 b12 (ix a1)) - (Int32.toInt64 a2))
        let M15 := sL M14 a0 20 ((mL M14 a0 20) + (Int32.toInt64 a2))
        some (1, M15)))))
      else (
        some (0, M10)))))))))))
set_option maxRecDepth 100000 in
set_option maxHeartbeats 4000000 in
theorem s_Mod_draw (G : Gx) (M : Mm) (a0 : Nat) (a1 : Int32) (a2 : Int32) : FnS G Y_Mod_draw cvI 6 [.ref a0, .int a1, .int a2] M (Mod_draw M a0 a1 a2) := by
  refine FnS.ofE (by decide) (Nat.le_of_ble_eq_true rfl) ?_
  show EJ G Y_Mod_draw cvI 6 0 [(0, .ref a0), (1, .int a1), (2, .int a2)] [] M _
  unfold Mod_draw
  refine EJ_aload_n 1 0 (dk_42 (bt bc_Mod_draw_0 0 rfl)) rfl rfl ?_
  refine EJ_iload_n 2 1 (dk_27 (bt bc_Mod_draw_0 1 rfl)) rfl rfl ?_
  refine EJ_ck (fun h1 => ?_)
  refine EJ_callVi (Y2 := Y_Mod_isPerson) 5 cf12 (s_Mod_isPerson G _ _ _) (of_decide_eq_true h1) rfl (dk_182 (bt bc_Mod_draw_0 2 rfl) (bt bc_Mod_draw_0 3 rfl) (bt bc_Mod_draw_0 4 rfl) (n := 278) rfl) rfl tw_1576 tw_1578 ts_41 tw_1579 hd_Mod_isPerson rfl (by decide) (Nat.le_of_ble_eq_true rfl) (fun r2 M3 => ?_)
  refine EJ_if_eq 37 8 (dk_153 (bt bc_Mod_draw_0 5 rfl) (bt bc_Mod_draw_0 6 rfl) (bt bc_Mod_draw_0 7 rfl) (n := 32) rfl) (by decide) rfl (fun _ => ?_) (fun _ => ?_)
  · refine EJ_iconst 38 (dk_3 (bt bc_Mod_draw_1 5 rfl)) rfl (v := 0) kI_0 ?_
    exact EJ_zret rfl (by decide) (dk_172 (bt bc_Mod_draw_1 6 rfl))
  · refine EJ_iload_n 9 2 (dk_28 (bt bc_Mod_draw_0 8 rfl)) rfl rfl ?_
    refine EJ_iconst 10 (dk_4 (bt bc_Mod_draw_0 9 rfl)) rfl (v := 1) kI_1 ?_
    refine EJ_ldcw 13 (dk_19 (bt bc_Mod_draw_0 10 rfl) (bt bc_Mod_draw_0 11 rfl) (bt bc_Mod_draw_0 12 rfl) (n := 301) rfl) rfl tw_1603 ?_
    refine EJ_callSi (Y2 := Y_Mod_in) 16 (s_Mod_in G _ _ _ _) rfl (dk_184 (bt bc_Mod_draw_0 13 rfl) (bt bc_Mod_draw_0 14 rfl) (bt bc_Mod_draw_0 15 rfl) (n := 252) rfl) rfl tw_1532 tw_1533 tw_8 tw_1534 hd_Mod_in rfl (by decide) (Nat.le_of_ble_eq_true rfl) (fun r4 M5 => ?_)
    refine EJ_if_eq 37 19 (dk_153 (bt bc_Mod_draw_0 16 rfl) (bt bc_Mod_draw_0 17 rfl) (bt bc_Mod_draw_0 18 rfl) (n := 21) rfl) (by decide) rfl (fun _ => ?_) (fun _ => ?_)
    · refine EJ_iconst 38 (dk_3 (bt bc_Mod_draw_1 5 rfl)) rfl (v := 0) kI_0 ?_
      exact EJ_zret rfl (by decide) (dk_172 (bt bc_Mod_draw_1 6 rfl))
    · refine EJ_aload_n 20 0 (dk_42 (bt bc_Mod_draw_0 19 rfl)) rfl rfl ?_
      refine EJ_ck (fun h6 => ?_)
      refine EJ_getR cf12 16 (by decide) 23 tw_1214 (fun _ _ _ => rfl) (dk_180 (bt bc_Mod_draw_0 20 rfl) (bt bc_Mod_draw_0 21 rfl) (bt bc_Mod_draw_0 22 rfl) (n := 51) rfl) rfl (of_decide_eq_true h6) (fun b7 => ?_)
      refine EJ_iload_n 24 1 (dk_27 (bt bc_Mod_draw_0 23 rfl)) rfl rfl ?_
      refine EJ_ck (fun h8 => ?_)
      refine EJ_lald 25 h8 (dk_47 (bt bc_Mod_draw_0 24 rfl)) rfl ?_
      refine EJ_iload_n 26 2 (dk_28 (bt bc_Mod_draw_0 25 rfl)) rfl rfl ?_
      refine EJ_i2l 27 (dk_133 (bt bc_Mod_draw_0 26 rfl)) rfl ?_
      refine EJ_lsub 28 (dk_101 (bt bc_Mod_draw_0 27 rfl)) rfl ?_
      refine EJ_aload_n 29 0 (dk_42 (bt bc_Mod_draw_0 28 rfl)) rfl rfl ?_
      refine EJ_iload_n 30 1 (dk_27 (bt bc_Mod_draw_0 29 rfl)) rfl rfl ?_
      refine EJ_callVl (Y2 := Y_Mod_needOf) 33 cf12 (s_Mod_needOf G _ _ _) (of_decide_eq_true h6) rfl (dk_182 (bt bc_Mod_draw_0 30 rfl) (bt bc_Mod_draw_0 31 rfl) (bt bc_Mod_draw_1 0 rfl) (n := 320) rfl) rfl tw_1652 tw_1654 ts_50 tw_1655 hd_Mod_needOf rfl (by decide) (Nat.le_of_ble_eq_true rfl) (fun r9 M10 => ?_)
      refine EJ_lcmp_ge 39 37 (dk_148 (bt bc_Mod_draw_1 1 rfl)) (dk_156 (bt bc_Mod_draw_1 2 rfl) (bt bc_Mod_draw_1 3 rfl) (bt bc_Mod_draw_1 4 rfl) (n := 5) rfl) (by decide) rfl (fun _ => ?_) (fun _ => ?_)
      · refine EJ_aload_n 40 0 (dk_42 (bt bc_Mod_draw_1 7 rfl)) rfl rfl ?_
        refine EJ_ck (fun h11 => ?_)
        refine EJ_getR cf12 16 (by decide) 43 tw_1214 (fun _ _ _ => rfl) (dk_180 (bt bc_Mod_draw_1 8 rfl) (bt bc_Mod_draw_1 9 rfl) (bt bc_Mod_draw_1 10 rfl) (n := 51) rfl) rfl (of_decide_eq_true h11) (fun b12 => ?_)
        refine EJ_iload_n 44 1 (dk_27 (bt bc_Mod_draw_1 11 rfl)) rfl rfl ?_
        refine EJ_dup2 45 (dk_92 (bt bc_Mod_draw_1 12 rfl)) rfl rfl rfl ?_
        refine EJ_ck (fun h13 => ?_)
        refine EJ_lald 46 h13 (dk_47 (bt bc_Mod_draw_1 13 rfl)) rfl ?_
        refine EJ_iload_n 47 2 (dk_28 (bt bc_Mod_draw_1 14 rfl)) rfl rfl ?_
        refine EJ_i2l 48 (dk_133 (bt bc_Mod_draw_1 15 rfl)) rfl ?_
        refine EJ_lsub 49 (dk_101 (bt bc_Mod_draw_1 16 rfl)) rfl ?_
        refine EJ_last 50 h13 (dk_80 (bt bc_Mod_draw_1 17 rfl)) rfl ?_
        refine EJ_aload_n 51 0 (dk_42 (bt bc_Mod_draw_1 18 rfl)) rfl rfl ?_
        refine EJ_dup 52 (dk_89 (bt bc_Mod_draw_1 19 rfl)) rfl rfl ?_
        refine EJ_getL cf12 20 (by decide) 55 tw_1218 (fun _ _ _ => rfl) (dk_180 (bt bc_Mod_draw_1 20 rfl) (bt bc_Mod_draw_1 21 rfl) (bt bc_Mod_draw_1 22 rfl) (n := 336) rfl) rfl (kp_L (of_decide_eq_true h11)) ?_
        refine EJ_iload_n 56 2 (dk_28 (bt bc_Mod_draw_1 23 rfl)) rfl rfl ?_
        refine EJ_i2l 57 (dk_133 (bt bc_Mod_draw_1 24 rfl)) rfl ?_
        refine EJ_ladd 58 (dk_97 (bt bc_Mod_draw_1 25 rfl)) rfl ?_
        refine EJ_putL cf12 20 (by decide) 61 tw_1218 rfl (Or.inl rfl) (dk_181 (bt bc_Mod_draw_1 26 rfl) (bt bc_Mod_draw_1 27 rfl) (bt bc_Mod_draw_1 28 rfl) (n := 336) rfl) rfl (kp_L (of_decide_eq_true h11)) ?_
        refine EJ_iconst 62 (dk_4 (bt bc_Mod_draw_1 29 rfl)) rfl (v := 1) kI_1 ?_
        exact EJ_zret rfl (by decide) (dk_172 (bt bc_Mod_draw_1 30 rfl))
      · refine EJ_iconst 38 (dk_3 (bt bc_Mod_draw_1 5 rfl)) rfl (v := 0) kI_0 ?_
        exact EJ_zret rfl (by decide) (dk_172 (bt bc_Mod_draw_1 6 rfl))
abbrev Y_Mod_feed : Ym := (⟨"RiceHallModel", "feed", "(IIIII)I"⟩, prog_14_method_36_code, 8, (some FieldType.int))
theorem bc_Mod_feed_0 : bts prog_14_method_36_code 0 [42, 180, 1, 83, 16, 20, 96, 17, 1, 244, 164, 0, 5, 2, 172, 3, 54, 6, 21, 6, 16, 20, 162, 0, 90, 21, 6, 7, 162, 0, 7, 27] := bts_of (by decide +kernel)
theorem bc_Mod_feed_1 : bts prog_14_method_36_code 32 [167, 0, 39, 21, 6, 16, 8, 162, 0, 7, 28, 167, 0, 28, 21, 6, 16, 12, 162, 0, 7, 29, 167, 0, 17, 21, 6, 16, 16, 162, 0, 8] := bts_of (by decide +kernel)
theorem bc_Mod_feed_2 : bts prog_14_method_36_code 64 [21, 4, 167, 0, 5, 21, 5, 54, 7, 42, 180, 0, 133, 42, 180, 1, 83, 21, 7, 16, 24, 16, 8, 21, 6, 7, 112, 104, 100, 122, 145, 84] := bts_of (by decide +kernel)
theorem bc_Mod_feed_3 : bts prog_14_method_36_code 96 [42, 89, 180, 1, 83, 4, 96, 181, 1, 83, 132, 6, 1, 167, 255, 165, 42, 180, 1, 83, 172] := bts_of (by decide +kernel)
theorem hd_Mod_feed : Y_Mod_feed.1.cls = RX12 ∧ Y_Mod_feed.1.cls ≠ "java/lang/invoke/MethodHandle" ∧ Y_Mod_feed.1.cls ≠ "java/lang/invoke/VarHandle" ∧ (parseMethodDescriptor Y_Mod_feed.1.desc).map (fun d => d.parameters.length) = some 5 := by decide +kernel
def Mod_feed_J71 (k18 : Nat → Int32 → Int32 → Int32 → Int32 → Int32 → Int32 → Mm → Option (Int32 × Mm)) (x0 : Nat) (x1 : Int32) (x2 : Int32) (x3 : Int32) (x4 : Int32) (x5 : Int32) (x6 : Int32) (s0 : Int32) (M : Mm) : Option (Int32 × Mm) :=
  ck (kO M x0 12 107) (
  nn (mR M x0 53) (fun b4 =>
  ck (kA M b4 21 (mI M x0 54)) (
  let M6 := sI M b4 (ix (mI M x0 54)) (i2b (s0 >>> ((24 - (8 * (rm x6 4))) &&& 31)))
  let M7 := sI M6 x0 54 ((mI M6 x0 54) + 1)
  let v8 : Int32 := x6 + 1
  k18 x0 x1 x2 x3 x4 x5 v8 M7)))
set_option maxRecDepth 100000 in
set_option maxHeartbeats 4000000 in
theorem e_Mod_feed_J71 {G : Gx} (k18 : Nat → Int32 → Int32 → Int32 → Int32 → Int32 → Int32 → Mm → Option (Int32 × Mm)) (hk18 : ∀ (x0 : Nat) (x1 : Int32) (x2 : Int32) (x3 : Int32) (x4 : Int32) (x5 : Int32) (x6 : Int32) (M : Mm), EJ G Y_Mod_feed cvI 1 18 [(0, .ref x0), (1, .int x1), (2, .int x2), (3, .int x3), (4, .int x4), (5, .int x5), (6, .int x6)] [] M (k18 x0 x1 x2 x3 x4 x5 x6 M)) (x0 : Nat) (x1 : Int32) (x2 : Int32) (x3 : Int32) (x4 : Int32) (x5 : Int32) (x6 : Int32) (s0 : Int32) (M : Mm) : EJ G Y_Mod_feed cvI 1 71 [(0, .ref x0), (1, .int x1), (2, .int x2), (3, .int x3), (4, .int x4), (5, .int x5), (6, .int x6)] [.int s0] M (Mod_feed_J71 k18 x0 x1 x2 x3 x4 x5 x6 s0 M) := by
  unfold Mod_feed_J71
  refine EJ_istore 73 (lv2 := [(7, .int _), (0, .ref _), (1, .int _), (2, .int _), (3, .int _), (4, .int _), (5, .int _), (6, .int _)]) (dk_54 (bt bc_Mod_feed_2 7 rfl) (bt bc_Mod_feed_2 8 rfl)) rfl (by decide) rfl ?_
  refine EJ_aload_n 74 1 (dk_42 (bt bc_Mod_feed_2 9 rfl)) rfl rfl ?_
  refine EJ_ck (fun h3 => ?_)
  refine EJ_getR cf12 53 (by decide) 77 tw_1251 (fun _ _ _ => rfl) (dk_180 (bt bc_Mod_feed_2 10 rfl) (bt bc_Mod_feed_2 11 rfl) (bt bc_Mod_feed_2 12 rfl) (n := 133) rfl) rfl (of_decide_eq_true h3) (fun b4 => ?_)
  refine EJ_aload_n 78 1 (dk_42 (bt bc_Mod_feed_2 13 rfl)) rfl rfl ?_
  refine EJ_getI cf12 54 (by decide) 81 tw_1252 (fun _ _ _ => rfl) (dk_180 (bt bc_Mod_feed_2 14 rfl) (bt bc_Mod_feed_2 15 rfl) (bt bc_Mod_feed_2 16 rfl) (n := 339) rfl) rfl (of_decide_eq_true h3) ?_
  refine EJ_iload 83 0 (dk_21 (bt bc_Mod_feed_2 17 rfl) (bt bc_Mod_feed_2 18 rfl)) rfl rfl ?_
  refine EJ_bipush 85 (dk_16 (bt bc_Mod_feed_2 19 rfl) (bt bc_Mod_feed_2 20 rfl) (n := 24) rfl) rfl (v := 24) kB_24 ?_
  refine EJ_bipush 87 (dk_16 (bt bc_Mod_feed_2 21 rfl) (bt bc_Mod_feed_2 22 rfl) (n := 8) rfl) rfl (v := 8) kB_8 ?_
  refine EJ_iload 89 7 (dk_21 (bt bc_Mod_feed_2 23 rfl) (bt bc_Mod_feed_2 24 rfl)) rfl rfl ?_
  refine EJ_iconst 90 (dk_7 (bt bc_Mod_feed_2 25 rfl)) rfl (v := 4) kI_4 ?_
  refine EJ_irem 91 (dk_112 (bt bc_Mod_feed_2 26 rfl)) rfl (by decide) ?_
  refine EJ_imul 92 (dk_104 (bt bc_Mod_feed_2 27 rfl)) rfl ?_
  refine EJ_isub 93 (dk_100 (bt bc_Mod_feed_2 28 rfl)) rfl ?_
  refine EJ_ishr 94 (dk_122 (bt bc_Mod_feed_2 29 rfl)) rfl ?_
  refine EJ_i2b 95 (dk_145 (bt bc_Mod_feed_2 30 rfl)) rfl ?_
  refine EJ_ck (fun h5 => ?_)
  refine EJ_bast 96 h5 (pk_nb _) (dk_84 (bt bc_Mod_feed_2 31 rfl)) rfl ?_
  refine EJ_aload_n 97 1 (dk_42 (bt bc_Mod_feed_3 0 rfl)) rfl rfl ?_
  refine EJ_dup 98 (dk_89 (bt bc_Mod_feed_3 1 rfl)) rfl rfl ?_
  refine EJ_getI cf12 54 (by decide) 101 tw_1252 (fun _ _ _ => rfl) (dk_180 (bt bc_Mod_feed_3 2 rfl) (bt bc_Mod_feed_3 3 rfl) (bt bc_Mod_feed_3 4 rfl) (n := 339) rfl) rfl (kp_I (of_decide_eq_true h3)) ?_
  refine EJ_iconst 102 (dk_4 (bt bc_Mod_feed_3 5 rfl)) rfl (v := 1) kI_1 ?_
  refine EJ_iadd 103 (dk_96 (bt bc_Mod_feed_3 6 rfl)) rfl ?_
  refine EJ_putI cf12 54 (by decide) 106 tw_1252 rfl (Or.inl rfl) (dk_181 (bt bc_Mod_feed_3 7 rfl) (bt bc_Mod_feed_3 8 rfl) (bt bc_Mod_feed_3 9 rfl) (n := 339) rfl) rfl (kp_I (of_decide_eq_true h3)) ?_
  refine EJ_iinc 109 7 (lv2 := [(6, .int _), (7, .int _), (0, .ref _), (1, .int _), (2, .int _), (3, .int _), (4, .int _), (5, .int _)]) (dk_132 (bt bc_Mod_feed_3 10 rfl) (bt bc_Mod_feed_3 11 rfl) (bt bc_Mod_feed_3 12 rfl) (n := 1) rfl) rfl (by decide) rfl (v := 1) kI_1 rfl ?_
  refine EJ_goto 18 (dk_167 (bt bc_Mod_feed_3 13 rfl) (bt bc_Mod_feed_3 14 rfl) (bt bc_Mod_feed_3 15 rfl) (n := -91) rfl) (by decide) ?_
  exact EJ_pick (lv2 := [(0, .ref _), (1, .int _), (2, .int _), (3, .int _), (4, .int _), (5, .int _), (6, .int _)]) [2, 3, 4, 5, 6, 7, 0] rfl (hk18 _ _ _ _ _ _ _ _)
def Mod_feed_B18 (k18 : Nat → Int32 → Int32 → Int32 → Int32 → Int32 → Int32 → Mm → Option (Int32 × Mm)) (x0 : Nat) (x1 : Int32) (x2 : Int32) (x3 : Int32) (x4 : Int32) (x5 : Int32) (x6 : Int32) (M : Mm) : Option (Int32 × Mm) :=
  if 20 ≤ x6 then (
    ck (kO M x0 12 107) (
    some (mI M x0 54, M)))
  else (
    if 4 ≤ x6 then (
      if 8 ≤ x6 then (
        if 12 ≤ x6 then (
          if 16 ≤ x6 then (
            Mod_feed_J71 k18 x0 x1 x2 x3 x4 x5 x6 x5 M)
          else (
            Mod_feed_J71 k18 x0 x1 x2 x3 x4 x5 x6 x4 M))
        else (
          Mod_feed_J71 k18 x0 x1 x2 x3 x4 x5 x6 x3 M))
      else (
        Mod_feed_J71 k18 x0 x1 x2 x3 x4 x5 x6 x2 M))
    else (
      Mod_feed_J71 k18 x0 x1 x2 x3 x4 x5 x6 x1 M))
set_option maxRecDepth 100000 in
set_option maxHeartbeats 4000000 in
theorem e_Mod_feed_B18 {G : Gx} (k18 : Nat → Int32 → Int32 → Int32 → Int32 → Int32 → Int32 → Mm → Option (Int32 × Mm)) (hk18 : ∀ (x0 : Nat) (x1 : Int32) (x2 : Int32) (x3 : Int32) (x4 : Int32) (x5 : Int32) (x6 : Int32) (M : Mm), EJ G Y_Mod_feed cvI 1 18 [(0, .ref x0), (1, .int x1), (2, .int x2), (3, .int x3), (4, .int x4), (5, .int x5), (6, .int x6)] [] M (k18 x0 x1 x2 x3 x4 x5 x6 M)) (x0 : Nat) (x1 : Int32) (x2 : Int32) (x3 : Int32) (x4 : Int32) (x5 : Int32) (x6 : Int32) (M : Mm) : EJ G Y_Mod_feed cvI 1 18 [(0, .ref x0), (1, .int x1), (2, .int x2), (3, .int x3), (4, .int x4), (5, .int x5), (6, .int x6)] [] M (Mod_feed_B18 k18 x0 x1 x2 x3 x4 x5 x6 M) := by
  unfold Mod_feed_B18
  refine EJ_iload 20 6 (dk_21 (bt bc_Mod_feed_0 18 rfl) (bt bc_Mod_feed_0 19 rfl)) rfl rfl ?_
  refine EJ_bipush 22 (dk_16 (bt bc_Mod_feed_0 20 rfl) (bt bc_Mod_feed_0 21 rfl) (n := 20) rfl) rfl (v := 20) kB_20 ?_
  refine EJ_icmp_ge 112 25 (dk_162 (bt bc_Mod_feed_0 22 rfl) (bt bc_Mod_feed_0 23 rfl) (bt bc_Mod_feed_0 24 rfl) (n := 90) rfl) (by decide) rfl (fun _ => ?_) (fun _ => ?_)
  · refine EJ_aload_n 113 0 (dk_42 (bt bc_Mod_feed_3 16 rfl)) rfl rfl ?_
    refine EJ_ck (fun h2 => ?_)
    refine EJ_getI cf12 54 (by decide) 116 tw_1252 (fun _ _ _ => rfl) (dk_180 (bt bc_Mod_feed_3 17 rfl) (bt bc_Mod_feed_3 18 rfl) (bt bc_Mod_feed_3 19 rfl) (n := 339) rfl) rfl (of_decide_eq_true h2) ?_
    exact EJ_iret rfl (dk_172 (bt bc_Mod_feed_3 20 rfl))
  · refine EJ_iload 27 6 (dk_21 (bt bc_Mod_feed_0 25 rfl) (bt bc_Mod_feed_0 26 rfl)) rfl rfl ?_
    refine EJ_iconst 28 (dk_7 (bt bc_Mod_feed_0 27 rfl)) rfl (v := 4) kI_4 ?_
    refine EJ_icmp_ge 35 31 (dk_162 (bt bc_Mod_feed_0 28 rfl) (bt bc_Mod_feed_0 29 rfl) (bt bc_Mod_feed_0 30 rfl) (n := 7) rfl) (by decide) rfl (fun _ => ?_) (fun _ => ?_)
    · refine EJ_iload 37 6 (dk_21 (bt bc_Mod_feed_1 3 rfl) (bt bc_Mod_feed_1 4 rfl)) rfl rfl ?_
      refine EJ_bipush 39 (dk_16 (bt bc_Mod_feed_1 5 rfl) (bt bc_Mod_feed_1 6 rfl) (n := 8) rfl) rfl (v := 8) kB_8 ?_
      refine EJ_icmp_ge 46 42 (dk_162 (bt bc_Mod_feed_1 7 rfl) (bt bc_Mod_feed_1 8 rfl) (bt bc_Mod_feed_1 9 rfl) (n := 7) rfl) (by decide) rfl (fun _ => ?_) (fun _ => ?_)
      · refine EJ_iload 48 6 (dk_21 (bt bc_Mod_feed_1 14 rfl) (bt bc_Mod_feed_1 15 rfl)) rfl rfl ?_
        refine EJ_bipush 50 (dk_16 (bt bc_Mod_feed_1 16 rfl) (bt bc_Mod_feed_1 17 rfl) (n := 12) rfl) rfl (v := 12) kB_12 ?_
        refine EJ_icmp_ge 57 53 (dk_162 (bt bc_Mod_feed_1 18 rfl) (bt bc_Mod_feed_1 19 rfl) (bt bc_Mod_feed_1 20 rfl) (n := 7) rfl) (by decide) rfl (fun _ => ?_) (fun _ => ?_)
        · refine EJ_iload 59 6 (dk_21 (bt bc_Mod_feed_1 25 rfl) (bt bc_Mod_feed_1 26 rfl)) rfl rfl ?_
          refine EJ_bipush 61 (dk_16 (bt bc_Mod_feed_1 27 rfl) (bt bc_Mod_feed_1 28 rfl) (n := 16) rfl) rfl (v := 16) kB_16 ?_
          refine EJ_icmp_ge 69 64 (dk_162 (bt bc_Mod_feed_1 29 rfl) (bt bc_Mod_feed_1 30 rfl) (bt bc_Mod_feed_1 31 rfl) (n := 8) rfl) (by decide) rfl (fun _ => ?_) (fun _ => ?_)
          · refine EJ_iload 71 5 (dk_21 (bt bc_Mod_feed_2 5 rfl) (bt bc_Mod_feed_2 6 rfl)) rfl rfl ?_
            exact EJ_pick (lv2 := [(0, .ref _), (1, .int _), (2, .int _), (3, .int _), (4, .int _), (5, .int _), (6, .int _)]) [0, 1, 2, 3, 4, 5, 6] rfl (e_Mod_feed_J71 k18 hk18 _ _ _ _ _ _ _ _ _)
          · refine EJ_iload 66 4 (dk_21 (bt bc_Mod_feed_2 0 rfl) (bt bc_Mod_feed_2 1 rfl)) rfl rfl ?_
            refine EJ_goto 71 (dk_167 (bt bc_Mod_feed_2 2 rfl) (bt bc_Mod_feed_2 3 rfl) (bt bc_Mod_feed_2 4 rfl) (n := 5) rfl) (by decide) ?_
            exact EJ_pick (lv2 := [(0, .ref _), (1, .int _), (2, .int _), (3, .int _), (4, .int _), (5, .int _), (6, .int _)]) [0, 1, 2, 3, 4, 5, 6] rfl (e_Mod_feed_J71 k18 hk18 _ _ _ _ _ _ _ _ _)
        · refine EJ_iload_n 54 3 (dk_29 (bt bc_Mod_feed_1 21 rfl)) rfl rfl ?_
          refine EJ_goto 71 (dk_167 (bt bc_Mod_feed_1 22 rfl) (bt bc_Mod_feed_1 23 rfl) (bt bc_Mod_feed_1 24 rfl) (n := 17) rfl) (by decide) ?_
          exact EJ_pick (lv2 := [(0, .ref _), (1, .int _), (2, .int _), (3, .int _), (4, .int _), (5, .int _), (6, .int _)]) [0, 1, 2, 3, 4, 5, 6] rfl (e_Mod_feed_J71 k18 hk18 _ _ _ _ _ _ _ _ _)
      · refine EJ_iload_n 43 2 (dk_28 (bt bc_Mod_feed_1 10 rfl)) rfl rfl ?_
        refine EJ_goto 71 (dk_167 (bt bc_Mod_feed_1 11 rfl) (bt bc_Mod_feed_1 12 rfl) (bt bc_Mod_feed_1 13 rfl) (n := 28) rfl) (by decide) ?_
        exact EJ_pick (lv2 := [(0, .ref _), (1, .int _), (2, .int _), (3, .int _), (4, .int _), (5, .int _), (6, .int _)]) [0, 1, 2, 3, 4, 5, 6] rfl (e_Mod_feed_J71 k18 hk18 _ _ _ _ _ _ _ _ _)
    · refine EJ_iload_n 32 1 (dk_27 (bt bc_Mod_feed_0 31 rfl)) rfl rfl ?_
      refine EJ_goto 71 (dk_167 (bt bc_Mod_feed_1 0 rfl) (bt bc_Mod_feed_1 1 rfl) (bt bc_Mod_feed_1 2 rfl) (n := 39) rfl) (by decide) ?_
      exact EJ_pick (lv2 := [(0, .ref _), (1, .int _), (2, .int _), (3, .int _), (4, .int _), (5, .int _), (6, .int _)]) [0, 1, 2, 3, 4, 5, 6] rfl (e_Mod_feed_J71 k18 hk18 _ _ _ _ _ _ _ _ _)
def Mod_feed_L18 (n : Nat) : Nat → Int32 → Int32 → Int32 → Int32 → Int32 → Int32 → Mm → Option (Int32 × Mm) :=
  match n with
  | 0 => fun _ _ _ _ _ _ _ _ => none
  | n + 1 => Mod_feed_B18 (Mod_feed_L18 n)
theorem e_Mod_feed_L18 {G : Gx} : ∀ (n : Nat) (x0 : Nat) (x1 : Int32) (x2 : Int32) (x3 : Int32) (x4 : Int32) (x5 : Int32) (x6 : Int32) (M : Mm), EJ G Y_Mod_feed cvI 1 18 [(0, .ref x0), (1, .int x1), (2, .int x2), (3, .int x3), (4, .int x4), (5, .int x5), (6, .int x6)] [] M (Mod_feed_L18 n x0 x1 x2 x3 x4 x5 x6 M) := by
  intro n
  induction n with
  | zero => intros; exact EJ_none
  | succ n ih => intro x0 x1 x2 x3 x4 x5 x6 M; exact e_Mod_feed_B18 _ ih x0 x1 x2 x3 x4 x5 x6 M
def Mod_feed (M : Mm) (a0 : Nat) (a1 : Int32) (a2 : Int32) (a3 : Int32) (a4 : Int32) (a5 : Int32) : Option (Int32 × Mm) :=
  ck (kO M a0 12 107) (
  if ((mI M a0 54) + 20) ≤ 500 then (
    Mod_feed_L18 fu a0 a1 a2 a3 a4 a5 0 M)
  else (
    some ((-1), M)))
set_option maxRecDepth 100000 in
set_option maxHeartbeats 4000000 in
theorem s_Mod_feed (G : Gx) (M : Mm) (a0 : Nat) (a1 : Int32) (a2 : Int32) (a3 : Int32) (a4 : Int32) (a5 : Int32) : FnS G Y_Mod_feed cvI 1 [.ref a0, .int a1, .int a2, .int a3, .int a4, .int a5] M (Mod_feed M a0 a1 a2 a3 a4 a5) := by
  refine FnS.ofE (by decide) (Nat.le_of_ble_eq_true rfl) ?_
  show EJ G Y_Mod_feed cvI 1 0 [(0, .ref a0), (1, .int a1), (2, .int a2), (3, .int a3), (4, .int a4), (5, .int a5)] [] M _
  unfold Mod_feed
  refine EJ_aload_n 1 0 (dk_42 (bt bc_Mod_feed_0 0 rfl)) rfl rfl ?_
  refine EJ_ck (fun h1 => ?_)
  refine EJ_getI cf12 54 (by decide) 4 tw_1252 (fun _ _ _ => rfl) (dk_180 (bt bc_Mod_feed_0 1 rfl) (bt bc_Mod_feed_0 2 rfl) (bt bc_Mod_feed_0 3 rfl) (n := 339) rfl) rfl (of_decide_eq_true h1) ?_
  refine EJ_bipush 6 (dk_16 (bt bc_Mod_feed_0 4 rfl) (bt bc_Mod_feed_0 5 rfl) (n := 20) rfl) rfl (v := 20) kB_20 ?_
  refine EJ_iadd 7 (dk_96 (bt bc_Mod_feed_0 6 rfl)) rfl ?_
  refine EJ_sipush 10 (dk_17 (bt bc_Mod_feed_0 7 rfl) (bt bc_Mod_feed_0 8 rfl) (bt bc_Mod_feed_0 9 rfl) (n := 500) rfl) rfl (v := 500) kS_500 ?_
  refine EJ_icmp_le 15 13 (dk_164 (bt bc_Mod_feed_0 10 rfl) (bt bc_Mod_feed_0 11 rfl) (bt bc_Mod_feed_0 12 rfl) (n := 5) rfl) (by decide) rfl (fun _ => ?_) (fun _ => ?_)
  · refine EJ_iconst 16 (dk_3 (bt bc_Mod_feed_0 15 rfl)) rfl (v := 0) kI_0 ?_
    refine EJ_istore 18 (lv2 := [(6, .int _), (0, .ref _), (1, .int _), (2, .int _), (3, .int _), (4, .int _), (5, .int _)]) (dk_54 (bt bc_Mod_feed_0 16 rfl) (bt bc_Mod_feed_0 17 rfl)) rfl (by decide) rfl ?_
    exact EJ_pick (lv2 := [(0, .ref _), (1, .int _), (2, .int _), (3, .int _), (4, .int _), (5, .int _), (6, .int _)]) [1, 2, 3, 4, 5, 6, 0] rfl (e_Mod_feed_L18 fu _ _ _ _ _ _ _ _)
  · refine EJ_iconst 14 (dk_2 (bt bc_Mod_feed_0 13 rfl)) rfl (v := (-1)) kI_m1 ?_
    exact EJ_iret rfl (dk_172 (bt bc_Mod_feed_0 14 rfl))
abbrev Y_Mod_here : Ym := (⟨"RiceHallModel", "here", "()I"⟩, prog_14_method_37_code, 1, (some FieldType.int))
theorem bc_Mod_here_0 : bts prog_14_method_37_code 0 [42, 180, 1, 86, 42, 180, 1, 89, 162, 0, 19, 42, 180, 0, 133, 42, 180, 1, 86, 51, 17, 0, 255, 126, 167, 0, 4, 2, 172] := bts_of (by decide +kernel)
theorem hd_Mod_here : Y_Mod_here.1.cls = RX12 ∧ Y_Mod_here.1.cls ≠ "java/lang/invoke/MethodHandle" ∧ Y_Mod_here.1.cls ≠ "java/lang/invoke/VarHandle" ∧ (parseMethodDescriptor Y_Mod_here.1.desc).map (fun d => d.parameters.length) = some 0 := by decide +kernel
def Mod_here (M : Mm) (a0 : Nat) : Option (Int32 × Mm) :=
  ck (kO M a0 12 107) (
  if (mI M a0 56) ≤ (mI M a0 57) then (
    some ((-1), M))
  else (
    nn (mR M a0 53) (fun b2 =>
    ck (kA M b2 21 (mI M a0 57)) (
    some ((mI M b2 (ix (mI M a0 57))) &&& 255, M)))))
set_option maxRecDepth 100000 in
set_option maxHeartbeats 4000000 in
theorem s_Mod_here (G : Gx) (M : Mm) (a0 : Nat) : FnS G Y_Mod_here cvI 1 [.ref a0] M (Mod_here M a0) := by
  refine FnS.ofE (by decide) (Nat.le_of_ble_eq_true rfl) ?_
  show EJ G Y_Mod_here cvI 1 0 [(0, .ref a0)] [] M _
  unfold Mod_here
  refine EJ_aload_n 1 0 (dk_42 (bt bc_Mod_here_0 0 rfl)) rfl rfl ?_
  refine EJ_ck (fun h1 => ?_)
  refine EJ_getI cf12 57 (by decide) 4 tw_1255 (fun _ _ _ => rfl) (dk_180 (bt bc_Mod_here_0 1 rfl) (bt bc_Mod_here_0 2 rfl) (bt bc_Mod_here_0 3 rfl) (n := 342) rfl) rfl (of_decide_eq_true h1) ?_
  refine EJ_aload_n 5 0 (dk_42 (bt bc_Mod_here_0 4 rfl)) rfl rfl ?_
  refine EJ_getI cf12 56 (by decide) 8 tw_1254 (fun _ _ _ => rfl) (dk_180 (bt bc_Mod_here_0 5 rfl) (bt bc_Mod_here_0 6 rfl) (bt bc_Mod_here_0 7 rfl) (n := 345) rfl) rfl (of_decide_eq_true h1) ?_
  refine EJ_icmp_ge 27 11 (dk_162 (bt bc_Mod_here_0 8 rfl) (bt bc_Mod_here_0 9 rfl) (bt bc_Mod_here_0 10 rfl) (n := 19) rfl) (by decide) rfl (fun _ => ?_) (fun _ => ?_)
  · refine EJ_iconst 28 (dk_2 (bt bc_Mod_here_0 27 rfl)) rfl (v := (-1)) kI_m1 ?_
    exact EJ_iret rfl (dk_172 (bt bc_Mod_here_0 28 rfl))
  · refine EJ_aload_n 12 0 (dk_42 (bt bc_Mod_here_0 11 rfl)) rfl rfl ?_
    refine EJ_getR cf12 53 (by decide) 15 tw_1251 (fun _ _ _ => rfl) (dk_180 (bt bc_Mod_here_0 12 rfl) (bt bc_Mod_here_0 13 rfl) (bt bc_Mod_here_0 14 rfl) (n := 133) rfl) rfl (of_decide_eq_true h1) (fun b2 => ?_)
    refine EJ_aload_n 16 0 (dk_42 (bt bc_Mod_here_0 15 rfl)) rfl rfl ?_
    refine EJ_getI cf12 57 (by decide) 19 tw_1255 (fun _ _ _ => rfl) (dk_180 (bt bc_Mod_here_0 16 rfl) (bt bc_Mod_here_0 17 rfl) (bt bc_Mod_here_0 18 rfl) (n := 342) rfl) rfl (of_decide_eq_true h1) ?_
    refine EJ_ck (fun h3 => ?_)
    refine EJ_bald 20 h3 (dk_51 (bt bc_Mod_here_0 19 rfl)) rfl ?_
    refine EJ_sipush 23 (dk_17 (bt bc_Mod_here_0 20 rfl) (bt bc_Mod_here_0 21 rfl) (bt bc_Mod_here_0 22 rfl) (n := 255) rfl) rfl (v := 255) kS_255 ?_
    refine EJ_iand 24 (dk_126 (bt bc_Mod_here_0 23 rfl)) rfl ?_
    refine EJ_goto 28 (dk_167 (bt bc_Mod_here_0 24 rfl) (bt bc_Mod_here_0 25 rfl) (bt bc_Mod_here_0 26 rfl) (n := 4) rfl) (by decide) ?_
    exact EJ_iret rfl (dk_172 (bt bc_Mod_here_0 28 rfl))
abbrev Y_Mod_next : Ym := (⟨"RiceHallModel", "next", "()V"⟩, prog_14_method_38_code, 2, none)
theorem bc_Mod_next_0 : bts prog_14_method_38_code 0 [42, 182, 1, 92, 16, 32, 159, 0, 12, 42, 182, 1, 92, 16, 10, 160, 0, 16, 42, 89, 180, 1, 86, 4, 96, 181, 1, 86, 167, 255, 228, 42] := bts_of (by decide +kernel)
theorem bc_Mod_next_1 : bts prog_14_method_38_code 32 [42, 180, 1, 86, 181, 1, 96, 42, 182, 1, 92, 60, 42, 20, 1, 99, 181, 1, 101, 42, 3, 181, 1, 104, 42, 3, 181, 1, 107, 27, 156, 0] := bts_of (by decide +kernel)
theorem bc_Mod_next_2 : bts prog_14_method_38_code 64 [11, 42, 3, 181, 1, 110, 167, 0, 240, 27, 16, 97, 16, 122, 184, 0, 252, 153, 0, 81, 42, 4, 181, 1, 110, 42, 9, 181, 1, 101, 42, 182] := bts_of (by decide +kernel)
theorem bc_Mod_next_3 : bts prog_14_method_38_code 96 [1, 92, 16, 97, 16, 122, 184, 0, 252, 153, 0, 205, 42, 42, 180, 1, 86, 42, 180, 1, 96, 100, 16, 10, 162, 0, 23, 42, 180, 1, 101, 20] := bts_of (by decide +kernel)
theorem bc_Mod_next_4 : bts prog_14_method_38_code 128 [1, 113, 105, 42, 182, 1, 92, 16, 96, 100, 133, 97, 167, 0, 6, 20, 1, 99, 181, 1, 101, 42, 89, 180, 1, 86, 4, 96, 181, 1, 86, 167] := bts_of (by decide +kernel)
theorem bc_Mod_next_5 : bts prog_14_method_38_code 160 [255, 191, 27, 16, 48, 16, 57, 184, 0, 252, 153, 0, 80, 42, 182, 1, 92, 16, 48, 16, 57, 184, 0, 252, 153, 0, 41, 42, 42, 180, 1, 107] := bts_of (by decide +kernel)
theorem bc_Mod_next_6 : bts prog_14_method_38_code 192 [19, 1, 115, 184, 1, 38, 16, 10, 104, 42, 182, 1, 92, 96, 16, 48, 100, 181, 1, 107, 42, 89, 180, 1, 86, 4, 96, 181, 1, 86, 167, 255] := bts_of (by decide +kernel)
theorem bc_Mod_next_7 : bts prog_14_method_38_code 224 [207, 42, 42, 180, 1, 86, 42, 180, 1, 96, 100, 8, 163, 0, 7, 5, 167, 0, 4, 7, 181, 1, 110, 167, 0, 63, 42, 27, 16, 59, 159, 0] := bts_of (by decide +kernel)
theorem bc_Mod_next_8 : bts prog_14_method_38_code 256 [33, 27, 16, 40, 159, 0, 27, 27, 16, 41, 159, 0, 21, 27, 16, 60, 159, 0, 15, 27, 16, 62, 159, 0, 9, 27, 16, 61, 160, 0, 7, 6] := bts_of (by decide +kernel)
theorem bc_Mod_next_9 : bts prog_14_method_38_code 288 [167, 0, 4, 7, 181, 1, 110, 42, 27, 181, 1, 104, 42, 89, 180, 1, 86, 4, 96, 181, 1, 86, 177] := bts_of (by decide +kernel)
theorem hd_Mod_next : Y_Mod_next.1.cls = RX12 ∧ Y_Mod_next.1.cls ≠ "java/lang/invoke/MethodHandle" ∧ Y_Mod_next.1.cls ≠ "java/lang/invoke/VarHandle" ∧ (parseMethodDescriptor Y_Mod_next.1.desc).map (fun d => d.parameters.length) = some 0 := by decide +kernel
def Mod_next_J18 (k0 : Nat → Mm → Option (Unit × Mm)) (x0 : Nat) (M : Mm) : Option (Unit × Mm) :=
  ck (kO M x0 12 107) (
  let M5 := sI M x0 57 ((mI M x0 57) + 1)
  k0 x0 M5)
set_option maxRecDepth 100000 in
set_option maxHeartbeats 4000000 in
theorem e_Mod_next_J18 {G : Gx} (k0 : Nat → Mm → Option (Unit × Mm)) (hk0 : ∀ (x0 : Nat) (M : Mm), EJ G Y_Mod_next cvV 2 0 [(0, .ref x0)] [] M (k0 x0 M)) (x0 : Nat) (M : Mm) : EJ G Y_Mod_next cvV 2 18 [(0, .ref x0)] [] M (Mod_next_J18 k0 x0 M) := by
  unfold Mod_next_J18
  refine EJ_aload_n 19 0 (dk_42 (bt bc_Mod_next_0 18 rfl)) rfl rfl ?_
  refine EJ_dup 20 (dk_89 (bt bc_Mod_next_0 19 rfl)) rfl rfl ?_
  refine EJ_ck (fun h4 => ?_)
  refine EJ_getI cf12 57 (by decide) 23 tw_1255 (fun _ _ _ => rfl) (dk_180 (bt bc_Mod_next_0 20 rfl) (bt bc_Mod_next_0 21 rfl) (bt bc_Mod_next_0 22 rfl) (n := 342) rfl) rfl (of_decide_eq_true h4) ?_
  refine EJ_iconst 24 (dk_4 (bt bc_Mod_next_0 23 rfl)) rfl (v := 1) kI_1 ?_
  refine EJ_iadd 25 (dk_96 (bt bc_Mod_next_0 24 rfl)) rfl ?_
  refine EJ_putI cf12 57 (by decide) 28 tw_1255 rfl (Or.inl rfl) (dk_181 (bt bc_Mod_next_0 25 rfl) (bt bc_Mod_next_0 26 rfl) (bt bc_Mod_next_0 27 rfl) (n := 342) rfl) rfl (of_decide_eq_true h4) ?_
  refine EJ_goto 0 (dk_167 (bt bc_Mod_next_0 28 rfl) (bt bc_Mod_next_0 29 rfl) (bt bc_Mod_next_0 30 rfl) (n := -28) rfl) (by decide) ?_
  exact EJ_pick (lv2 := [(0, .ref _)]) [0] rfl (hk0 _ _)
def Mod_next_J292 (x0 : Nat) (x1 : Int32) (s0 : Int32) (s1 : Nat) (M : Mm) : Option (Unit × Mm) :=
  ck (kO M s1 12 107) (
  let M22 := sI M s1 59 s0
  ck (kO M22 x0 12 107) (
  let M24 := sI M22 x0 60 x1
  let M25 := sI M24 x0 57 ((mI M24 x0 57) + 1)
  some ((), M25)))
set_option maxRecDepth 100000 in
set_option maxHeartbeats 4000000 in
theorem e_Mod_next_J292 {G : Gx} (x0 : Nat) (x1 : Int32) (s0 : Int32) (s1 : Nat) (M : Mm) : EJ G Y_Mod_next cvV 2 292 [(0, .ref x0), (1, .int x1)] [.int s0, .ref s1] M (Mod_next_J292 x0 x1 s0 s1 M) := by
  unfold Mod_next_J292
  refine EJ_ck (fun h21 => ?_)
  refine EJ_putI cf12 59 (by decide) 295 tw_1257 rfl (Or.inl rfl) (dk_181 (bt bc_Mod_next_9 4 rfl) (bt bc_Mod_next_9 5 rfl) (bt bc_Mod_next_9 6 rfl) (n := 366) rfl) rfl (of_decide_eq_true h21) ?_
  refine EJ_aload_n 296 0 (dk_42 (bt bc_Mod_next_9 7 rfl)) rfl rfl ?_
  refine EJ_iload_n 297 1 (dk_27 (bt bc_Mod_next_9 8 rfl)) rfl rfl ?_
  refine EJ_ck (fun h23 => ?_)
  refine EJ_putI cf12 60 (by decide) 300 tw_1258 rfl (Or.inl rfl) (dk_181 (bt bc_Mod_next_9 9 rfl) (bt bc_Mod_next_9 10 rfl) (bt bc_Mod_next_9 11 rfl) (n := 360) rfl) rfl (of_decide_eq_true h23) ?_
  refine EJ_aload_n 301 0 (dk_42 (bt bc_Mod_next_9 12 rfl)) rfl rfl ?_
  refine EJ_dup 302 (dk_89 (bt bc_Mod_next_9 13 rfl)) rfl rfl ?_
  refine EJ_getI cf12 57 (by decide) 305 tw_1255 (fun _ _ _ => rfl) (dk_180 (bt bc_Mod_next_9 14 rfl) (bt bc_Mod_next_9 15 rfl) (bt bc_Mod_next_9 16 rfl) (n := 342) rfl) rfl (kp_I (of_decide_eq_true h23)) ?_
  refine EJ_iconst 306 (dk_4 (bt bc_Mod_next_9 17 rfl)) rfl (v := 1) kI_1 ?_
  refine EJ_iadd 307 (dk_96 (bt bc_Mod_next_9 18 rfl)) rfl ?_
  refine EJ_putI cf12 57 (by decide) 310 tw_1255 rfl (Or.inl rfl) (dk_181 (bt bc_Mod_next_9 19 rfl) (bt bc_Mod_next_9 20 rfl) (bt bc_Mod_next_9 21 rfl) (n := 342) rfl) rfl (kp_I (of_decide_eq_true h23)) ?_
  exact EJ_vret rfl (dk_177 (bt bc_Mod_next_9 22 rfl))
def Mod_next_J287 (x0 : Nat) (x1 : Int32) (s0 : Nat) (M : Mm) : Option (Unit × Mm) :=
  Mod_next_J292 x0 x1 3 s0 M
set_option maxRecDepth 100000 in
set_option maxHeartbeats 4000000 in
theorem e_Mod_next_J287 {G : Gx} (x0 : Nat) (x1 : Int32) (s0 : Nat) (M : Mm) : EJ G Y_Mod_next cvV 2 287 [(0, .ref x0), (1, .int x1)] [.ref s0] M (Mod_next_J287 x0 x1 s0 M) := by
  unfold Mod_next_J287
  refine EJ_iconst 288 (dk_6 (bt bc_Mod_next_8 31 rfl)) rfl (v := 3) kI_3 ?_
  refine EJ_goto 292 (dk_167 (bt bc_Mod_next_9 0 rfl) (bt bc_Mod_next_9 1 rfl) (bt bc_Mod_next_9 2 rfl) (n := 4) rfl) (by decide) ?_
  exact EJ_pick (lv2 := [(0, .ref _), (1, .int _)]) [0, 1] rfl (e_Mod_next_J292 _ _ _ _ _)
def Mod_next_B173 (k173 : Nat → Mm → Option (Unit × Mm)) (x0 : Nat) (M : Mm) : Option (Unit × Mm) :=
  ck (kO M x0 12 107) (
  bd (Mod_here M x0) (fun r27 M28 =>
  bd (Mod_in M28 r27 48 57) (fun r29 M30 =>
  if r29 = 0 then (
    ck (kO M30 x0 12 107) (
    if 5 < ((mI M30 x0 57) - (mI M30 x0 58)) then (
      let M32 := sI M30 x0 59 4
      some ((), M32))
    else (
      let M33 := sI M30 x0 59 2
      some ((), M33))))
  else (
    ck (kO M30 x0 12 107) (
    bd (Mod_min M30 (mI M30 x0 61) 1000000) (fun r35 M36 =>
    ck (kO M36 x0 12 107) (
    bd (Mod_here M36 x0) (fun r38 M39 =>
    ck (kO M39 x0 12 107) (
    let M41 := sI M39 x0 61 (((r35 * 10) + r38) - 48)
    let M42 := sI M41 x0 57 ((mI M41 x0 57) + 1)
    k173 x0 M42)))))))))
set_option maxRecDepth 100000 in
set_option maxHeartbeats 4000000 in
theorem e_Mod_next_B173 {G : Gx} (k173 : Nat → Mm → Option (Unit × Mm)) (hk173 : ∀ (x0 : Nat) (M : Mm), EJ G Y_Mod_next cvV 2 173 [(0, .ref x0)] [] M (k173 x0 M)) (x0 : Nat) (M : Mm) : EJ G Y_Mod_next cvV 2 173 [(0, .ref x0)] [] M (Mod_next_B173 k173 x0 M) := by
  unfold Mod_next_B173
  refine EJ_aload_n 174 0 (dk_42 (bt bc_Mod_next_5 13 rfl)) rfl rfl ?_
  refine EJ_ck (fun h26 => ?_)
  refine EJ_callVi (Y2 := Y_Mod_here) 177 cf12 (s_Mod_here G _ _) (of_decide_eq_true h26) rfl (dk_182 (bt bc_Mod_next_5 14 rfl) (bt bc_Mod_next_5 15 rfl) (bt bc_Mod_next_5 16 rfl) (n := 348) rfl) rfl tw_1686 tw_1688 ts_52 tw_1689 hd_Mod_here rfl (by decide) (Nat.le_of_ble_eq_true rfl) (fun r27 M28 => ?_)
  refine EJ_bipush 179 (dk_16 (bt bc_Mod_next_5 17 rfl) (bt bc_Mod_next_5 18 rfl) (n := 48) rfl) rfl (v := 48) kB_48 ?_
  refine EJ_bipush 181 (dk_16 (bt bc_Mod_next_5 19 rfl) (bt bc_Mod_next_5 20 rfl) (n := 57) rfl) rfl (v := 57) kB_57 ?_
  refine EJ_callSi (Y2 := Y_Mod_in) 184 (s_Mod_in G _ _ _ _) rfl (dk_184 (bt bc_Mod_next_5 21 rfl) (bt bc_Mod_next_5 22 rfl) (bt bc_Mod_next_5 23 rfl) (n := 252) rfl) rfl tw_1532 tw_1533 tw_8 tw_1534 hd_Mod_in rfl (by decide) (Nat.le_of_ble_eq_true rfl) (fun r29 M30 => ?_)
  refine EJ_if_eq 225 187 (dk_153 (bt bc_Mod_next_5 24 rfl) (bt bc_Mod_next_5 25 rfl) (bt bc_Mod_next_5 26 rfl) (n := 41) rfl) (by decide) rfl (fun _ => ?_) (fun _ => ?_)
  · refine EJ_aload_n 226 0 (dk_42 (bt bc_Mod_next_7 1 rfl)) rfl rfl ?_
    refine EJ_aload_n 227 0 (dk_42 (bt bc_Mod_next_7 2 rfl)) rfl rfl ?_
    refine EJ_ck (fun h31 => ?_)
    refine EJ_getI cf12 57 (by decide) 230 tw_1255 (fun _ _ _ => rfl) (dk_180 (bt bc_Mod_next_7 3 rfl) (bt bc_Mod_next_7 4 rfl) (bt bc_Mod_next_7 5 rfl) (n := 342) rfl) rfl (of_decide_eq_true h31) ?_
    refine EJ_aload_n 231 0 (dk_42 (bt bc_Mod_next_7 6 rfl)) rfl rfl ?_
    refine EJ_getI cf12 58 (by decide) 234 tw_1256 (fun _ _ _ => rfl) (dk_180 (bt bc_Mod_next_7 7 rfl) (bt bc_Mod_next_7 8 rfl) (bt bc_Mod_next_7 9 rfl) (n := 352) rfl) rfl (of_decide_eq_true h31) ?_
    refine EJ_isub 235 (dk_100 (bt bc_Mod_next_7 10 rfl)) rfl ?_
    refine EJ_iconst 236 (dk_8 (bt bc_Mod_next_7 11 rfl)) rfl (v := 5) kI_5 ?_
    refine EJ_icmp_gt 243 239 (dk_163 (bt bc_Mod_next_7 12 rfl) (bt bc_Mod_next_7 13 rfl) (bt bc_Mod_next_7 14 rfl) (n := 7) rfl) (by decide) rfl (fun _ => ?_) (fun _ => ?_)
    · refine EJ_iconst 244 (dk_7 (bt bc_Mod_next_7 19 rfl)) rfl (v := 4) kI_4 ?_
      refine EJ_putI cf12 59 (by decide) 247 tw_1257 rfl (Or.inl rfl) (dk_181 (bt bc_Mod_next_7 20 rfl) (bt bc_Mod_next_7 21 rfl) (bt bc_Mod_next_7 22 rfl) (n := 366) rfl) rfl (of_decide_eq_true h31) ?_
      refine EJ_goto 310 (dk_167 (bt bc_Mod_next_7 23 rfl) (bt bc_Mod_next_7 24 rfl) (bt bc_Mod_next_7 25 rfl) (n := 63) rfl) (by decide) ?_
      exact EJ_vret rfl (dk_177 (bt bc_Mod_next_9 22 rfl))
    · refine EJ_iconst 240 (dk_5 (bt bc_Mod_next_7 15 rfl)) rfl (v := 2) kI_2 ?_
      refine EJ_goto 244 (dk_167 (bt bc_Mod_next_7 16 rfl) (bt bc_Mod_next_7 17 rfl) (bt bc_Mod_next_7 18 rfl) (n := 4) rfl) (by decide) ?_
      refine EJ_putI cf12 59 (by decide) 247 tw_1257 rfl (Or.inl rfl) (dk_181 (bt bc_Mod_next_7 20 rfl) (bt bc_Mod_next_7 21 rfl) (bt bc_Mod_next_7 22 rfl) (n := 366) rfl) rfl (of_decide_eq_true h31) ?_
      refine EJ_goto 310 (dk_167 (bt bc_Mod_next_7 23 rfl) (bt bc_Mod_next_7 24 rfl) (bt bc_Mod_next_7 25 rfl) (n := 63) rfl) (by decide) ?_
      exact EJ_vret rfl (dk_177 (bt bc_Mod_next_9 22 rfl))
  · refine EJ_aload_n 188 0 (dk_42 (bt bc_Mod_next_5 27 rfl)) rfl rfl ?_
    refine EJ_aload_n 189 0 (dk_42 (bt bc_Mod_next_5 28 rfl)) rfl rfl ?_
    refine EJ_ck (fun h34 => ?_)
    refine EJ_getI cf12 61 (by decide) 192 tw_1259 (fun _ _ _ => rfl) (dk_180 (bt bc_Mod_next_5 29 rfl) (bt bc_Mod_next_5 30 rfl) (bt bc_Mod_next_5 31 rfl) (n := 363) rfl) rfl (of_decide_eq_true h34) ?_
    refine EJ_ldcw 195 (dk_19 (bt bc_Mod_next_6 0 rfl) (bt bc_Mod_next_6 1 rfl) (bt bc_Mod_next_6 2 rfl) (n := 371) rfl) rfl tw_1692 ?_
    refine EJ_callSi (Y2 := Y_Mod_min) 198 (s_Mod_min G _ _ _) rfl (dk_184 (bt bc_Mod_next_6 3 rfl) (bt bc_Mod_next_6 4 rfl) (bt bc_Mod_next_6 5 rfl) (n := 294) rfl) rfl tw_1596 tw_1597 tw_8 tw_1598 hd_Mod_min rfl (by decide) (Nat.le_of_ble_eq_true rfl) (fun r35 M36 => ?_)
    refine EJ_bipush 200 (dk_16 (bt bc_Mod_next_6 6 rfl) (bt bc_Mod_next_6 7 rfl) (n := 10) rfl) rfl (v := 10) kB_10 ?_
    refine EJ_imul 201 (dk_104 (bt bc_Mod_next_6 8 rfl)) rfl ?_
    refine EJ_aload_n 202 0 (dk_42 (bt bc_Mod_next_6 9 rfl)) rfl rfl ?_
    refine EJ_ck (fun h37 => ?_)
    refine EJ_callVi (Y2 := Y_Mod_here) 205 cf12 (s_Mod_here G _ _) (of_decide_eq_true h37) rfl (dk_182 (bt bc_Mod_next_6 10 rfl) (bt bc_Mod_next_6 11 rfl) (bt bc_Mod_next_6 12 rfl) (n := 348) rfl) rfl tw_1686 tw_1688 ts_52 tw_1689 hd_Mod_here rfl (by decide) (Nat.le_of_ble_eq_true rfl) (fun r38 M39 => ?_)
    refine EJ_iadd 206 (dk_96 (bt bc_Mod_next_6 13 rfl)) rfl ?_
    refine EJ_bipush 208 (dk_16 (bt bc_Mod_next_6 14 rfl) (bt bc_Mod_next_6 15 rfl) (n := 48) rfl) rfl (v := 48) kB_48 ?_
    refine EJ_isub 209 (dk_100 (bt bc_Mod_next_6 16 rfl)) rfl ?_
    refine EJ_ck (fun h40 => ?_)
    refine EJ_putI cf12 61 (by decide) 212 tw_1259 rfl (Or.inl rfl) (dk_181 (bt bc_Mod_next_6 17 rfl) (bt bc_Mod_next_6 18 rfl) (bt bc_Mod_next_6 19 rfl) (n := 363) rfl) rfl (of_decide_eq_true h40) ?_
    refine EJ_aload_n 213 0 (dk_42 (bt bc_Mod_next_6 20 rfl)) rfl rfl ?_
    refine EJ_dup 214 (dk_89 (bt bc_Mod_next_6 21 rfl)) rfl rfl ?_
    refine EJ_getI cf12 57 (by decide) 217 tw_1255 (fun _ _ _ => rfl) (dk_180 (bt bc_Mod_next_6 22 rfl) (bt bc_Mod_next_6 23 rfl) (bt bc_Mod_next_6 24 rfl) (n := 342) rfl) rfl (kp_I (of_decide_eq_true h40)) ?_
    refine EJ_iconst 218 (dk_4 (bt bc_Mod_next_6 25 rfl)) rfl (v := 1) kI_1 ?_
    refine EJ_iadd 219 (dk_96 (bt bc_Mod_next_6 26 rfl)) rfl ?_
    refine EJ_putI cf12 57 (by decide) 222 tw_1255 rfl (Or.inl rfl) (dk_181 (bt bc_Mod_next_6 27 rfl) (bt bc_Mod_next_6 28 rfl) (bt bc_Mod_next_6 29 rfl) (n := 342) rfl) rfl (kp_I (of_decide_eq_true h40)) ?_
    refine EJ_goto 173 (dk_167 (bt bc_Mod_next_6 30 rfl) (bt bc_Mod_next_6 31 rfl) (bt bc_Mod_next_7 0 rfl) (n := -49) rfl) (by decide) ?_
    exact EJ_pick (lv2 := [(0, .ref _)]) [0] rfl (hk173 _ _)
def Mod_next_L173 (n : Nat) : Nat → Mm → Option (Unit × Mm) :=
  match n with
  | 0 => fun _ _ => none
  | n + 1 => Mod_next_B173 (Mod_next_L173 n)
theorem e_Mod_next_L173 {G : Gx} : ∀ (n : Nat) (x0 : Nat) (M : Mm), EJ G Y_Mod_next cvV 2 173 [(0, .ref x0)] [] M (Mod_next_L173 n x0 M) := by
  intro n
  induction n with
  | zero => intros; exact EJ_none
  | succ n ih => intro x0 M; exact e_Mod_next_B173 _ ih x0 M
def Mod_next_J146 (k94 : Nat → Mm → Option (Unit × Mm)) (x0 : Nat) (s0 : Int64) (s1 : Nat) (M : Mm) : Option (Unit × Mm) :=
  ck (kO M s1 12 107) (
  let M53 := sL M s1 64 s0
  ck (kO M53 x0 12 107) (
  let M55 := sI M53 x0 57 ((mI M53 x0 57) + 1)
  k94 x0 M55))
set_option maxRecDepth 100000 in
set_option maxHeartbeats 4000000 in
theorem e_Mod_next_J146 {G : Gx} (k94 : Nat → Mm → Option (Unit × Mm)) (hk94 : ∀ (x0 : Nat) (M : Mm), EJ G Y_Mod_next cvV 2 94 [(0, .ref x0)] [] M (k94 x0 M)) (x0 : Nat) (s0 : Int64) (s1 : Nat) (M : Mm) : EJ G Y_Mod_next cvV 2 146 [(0, .ref x0)] [.long s0, .ref s1] M (Mod_next_J146 k94 x0 s0 s1 M) := by
  unfold Mod_next_J146
  refine EJ_ck (fun h52 => ?_)
  refine EJ_putL cf12 64 (by decide) 149 tw_1262 rfl (Or.inl rfl) (dk_181 (bt bc_Mod_next_4 18 rfl) (bt bc_Mod_next_4 19 rfl) (bt bc_Mod_next_4 20 rfl) (n := 357) rfl) rfl (of_decide_eq_true h52) ?_
  refine EJ_aload_n 150 0 (dk_42 (bt bc_Mod_next_4 21 rfl)) rfl rfl ?_
  refine EJ_dup 151 (dk_89 (bt bc_Mod_next_4 22 rfl)) rfl rfl ?_
  refine EJ_ck (fun h54 => ?_)
  refine EJ_getI cf12 57 (by decide) 154 tw_1255 (fun _ _ _ => rfl) (dk_180 (bt bc_Mod_next_4 23 rfl) (bt bc_Mod_next_4 24 rfl) (bt bc_Mod_next_4 25 rfl) (n := 342) rfl) rfl (of_decide_eq_true h54) ?_
  refine EJ_iconst 155 (dk_4 (bt bc_Mod_next_4 26 rfl)) rfl (v := 1) kI_1 ?_
  refine EJ_iadd 156 (dk_96 (bt bc_Mod_next_4 27 rfl)) rfl ?_
  refine EJ_putI cf12 57 (by decide) 159 tw_1255 rfl (Or.inl rfl) (dk_181 (bt bc_Mod_next_4 28 rfl) (bt bc_Mod_next_4 29 rfl) (bt bc_Mod_next_4 30 rfl) (n := 342) rfl) rfl (of_decide_eq_true h54) ?_
  refine EJ_goto 94 (dk_167 (bt bc_Mod_next_4 31 rfl) (bt bc_Mod_next_5 0 rfl) (bt bc_Mod_next_5 1 rfl) (n := -65) rfl) (by decide) ?_
  exact EJ_pick (lv2 := [(0, .ref _)]) [0] rfl (hk94 _ _)
def Mod_next_B94 (k94 : Nat → Mm → Option (Unit × Mm)) (x0 : Nat) (M : Mm) : Option (Unit × Mm) :=
  ck (kO M x0 12 107) (
  bd (Mod_here M x0) (fun r47 M48 =>
  bd (Mod_in M48 r47 97 122) (fun r49 M50 =>
  if r49 = 0 then (
    some ((), M50))
  else (
    ck (kO M50 x0 12 107) (
    if 10 ≤ ((mI M50 x0 57) - (mI M50 x0 58)) then (
      Mod_next_J146 k94 x0 (-1) x0 M50)
    else (
      bd (Mod_here M50 x0) (fun r56 M57 =>
      Mod_next_J146 k94 x0 (((mL M50 x0 64) * 27) + (Int32.toInt64 (r56 - 96))) x0 M57)))))))
set_option maxRecDepth 100000 in
set_option maxHeartbeats 4000000 in
theorem e_Mod_next_B94 {G : Gx} (k94 : Nat → Mm → Option (Unit × Mm)) (hk94 : ∀ (x0 : Nat) (M : Mm), EJ G Y_Mod_next cvV 2 94 [(0, .ref x0)] [] M (k94 x0 M)) (x0 : Nat) (M : Mm) : EJ G Y_Mod_next cvV 2 94 [(0, .ref x0)] [] M (Mod_next_B94 k94 x0 M) := by
  unfold Mod_next_B94
  refine EJ_aload_n 95 0 (dk_42 (bt bc_Mod_next_2 30 rfl)) rfl rfl ?_
  refine EJ_ck (fun h46 => ?_)
  refine EJ_callVi (Y2 := Y_Mod_here) 98 cf12 (s_Mod_here G _ _) (of_decide_eq_true h46) rfl (dk_182 (bt bc_Mod_next_2 31 rfl) (bt bc_Mod_next_3 0 rfl) (bt bc_Mod_next_3 1 rfl) (n := 348) rfl) rfl tw_1686 tw_1688 ts_52 tw_1689 hd_Mod_here rfl (by decide) (Nat.le_of_ble_eq_true rfl) (fun r47 M48 => ?_)
  refine EJ_bipush 100 (dk_16 (bt bc_Mod_next_3 2 rfl) (bt bc_Mod_next_3 3 rfl) (n := 97) rfl) rfl (v := 97) kB_97 ?_
  refine EJ_bipush 102 (dk_16 (bt bc_Mod_next_3 4 rfl) (bt bc_Mod_next_3 5 rfl) (n := 122) rfl) rfl (v := 122) kB_122 ?_
  refine EJ_callSi (Y2 := Y_Mod_in) 105 (s_Mod_in G _ _ _ _) rfl (dk_184 (bt bc_Mod_next_3 6 rfl) (bt bc_Mod_next_3 7 rfl) (bt bc_Mod_next_3 8 rfl) (n := 252) rfl) rfl tw_1532 tw_1533 tw_8 tw_1534 hd_Mod_in rfl (by decide) (Nat.le_of_ble_eq_true rfl) (fun r49 M50 => ?_)
  refine EJ_if_eq 310 108 (dk_153 (bt bc_Mod_next_3 9 rfl) (bt bc_Mod_next_3 10 rfl) (bt bc_Mod_next_3 11 rfl) (n := 205) rfl) (by decide) rfl (fun _ => ?_) (fun _ => ?_)
  · exact EJ_vret rfl (dk_177 (bt bc_Mod_next_9 22 rfl))
  · refine EJ_aload_n 109 0 (dk_42 (bt bc_Mod_next_3 12 rfl)) rfl rfl ?_
    refine EJ_aload_n 110 0 (dk_42 (bt bc_Mod_next_3 13 rfl)) rfl rfl ?_
    refine EJ_ck (fun h51 => ?_)
    refine EJ_getI cf12 57 (by decide) 113 tw_1255 (fun _ _ _ => rfl) (dk_180 (bt bc_Mod_next_3 14 rfl) (bt bc_Mod_next_3 15 rfl) (bt bc_Mod_next_3 16 rfl) (n := 342) rfl) rfl (of_decide_eq_true h51) ?_
    refine EJ_aload_n 114 0 (dk_42 (bt bc_Mod_next_3 17 rfl)) rfl rfl ?_
    refine EJ_getI cf12 58 (by decide) 117 tw_1256 (fun _ _ _ => rfl) (dk_180 (bt bc_Mod_next_3 18 rfl) (bt bc_Mod_next_3 19 rfl) (bt bc_Mod_next_3 20 rfl) (n := 352) rfl) rfl (of_decide_eq_true h51) ?_
    refine EJ_isub 118 (dk_100 (bt bc_Mod_next_3 21 rfl)) rfl ?_
    refine EJ_bipush 120 (dk_16 (bt bc_Mod_next_3 22 rfl) (bt bc_Mod_next_3 23 rfl) (n := 10) rfl) rfl (v := 10) kB_10 ?_
    refine EJ_icmp_ge 143 123 (dk_162 (bt bc_Mod_next_3 24 rfl) (bt bc_Mod_next_3 25 rfl) (bt bc_Mod_next_3 26 rfl) (n := 23) rfl) (by decide) rfl (fun _ => ?_) (fun _ => ?_)
    · refine EJ_ldc2 146 (dk_20 (bt bc_Mod_next_4 15 rfl) (bt bc_Mod_next_4 16 rfl) (bt bc_Mod_next_4 17 rfl) (n := 355) rfl) rfl tw_1690 ?_
      exact EJ_pick (lv2 := [(0, .ref _)]) [0] rfl (e_Mod_next_J146 k94 hk94 _ _ _ _)
    · refine EJ_aload_n 124 0 (dk_42 (bt bc_Mod_next_3 27 rfl)) rfl rfl ?_
      refine EJ_getL cf12 64 (by decide) 127 tw_1262 (fun _ _ _ => rfl) (dk_180 (bt bc_Mod_next_3 28 rfl) (bt bc_Mod_next_3 29 rfl) (bt bc_Mod_next_3 30 rfl) (n := 357) rfl) rfl (of_decide_eq_true h51) ?_
      refine EJ_ldc2 130 (dk_20 (bt bc_Mod_next_3 31 rfl) (bt bc_Mod_next_4 0 rfl) (bt bc_Mod_next_4 1 rfl) (n := 369) rfl) rfl tw_1691 ?_
      refine EJ_lmul 131 (dk_105 (bt bc_Mod_next_4 2 rfl)) rfl ?_
      refine EJ_aload_n 132 0 (dk_42 (bt bc_Mod_next_4 3 rfl)) rfl rfl ?_
      refine EJ_callVi (Y2 := Y_Mod_here) 135 cf12 (s_Mod_here G _ _) (of_decide_eq_true h51) rfl (dk_182 (bt bc_Mod_next_4 4 rfl) (bt bc_Mod_next_4 5 rfl) (bt bc_Mod_next_4 6 rfl) (n := 348) rfl) rfl tw_1686 tw_1688 ts_52 tw_1689 hd_Mod_here rfl (by decide) (Nat.le_of_ble_eq_true rfl) (fun r56 M57 => ?_)
      refine EJ_bipush 137 (dk_16 (bt bc_Mod_next_4 7 rfl) (bt bc_Mod_next_4 8 rfl) (n := 96) rfl) rfl (v := 96) kB_96 ?_
      refine EJ_isub 138 (dk_100 (bt bc_Mod_next_4 9 rfl)) rfl ?_
      refine EJ_i2l 139 (dk_133 (bt bc_Mod_next_4 10 rfl)) rfl ?_
      refine EJ_ladd 140 (dk_97 (bt bc_Mod_next_4 11 rfl)) rfl ?_
      refine EJ_goto 146 (dk_167 (bt bc_Mod_next_4 12 rfl) (bt bc_Mod_next_4 13 rfl) (bt bc_Mod_next_4 14 rfl) (n := 6) rfl) (by decide) ?_
      exact EJ_pick (lv2 := [(0, .ref _)]) [0] rfl (e_Mod_next_J146 k94 hk94 _ _ _ _)
def Mod_next_L94 (n : Nat) : Nat → Mm → Option (Unit × Mm) :=
  match n with
  | 0 => fun _ _ => none
  | n + 1 => Mod_next_B94 (Mod_next_L94 n)
theorem e_Mod_next_L94 {G : Gx} : ∀ (n : Nat) (x0 : Nat) (M : Mm), EJ G Y_Mod_next cvV 2 94 [(0, .ref x0)] [] M (Mod_next_L94 n x0 M) := by
  intro n
  induction n with
  | zero => intros; exact EJ_none
  | succ n ih => intro x0 M; exact e_Mod_next_B94 _ ih x0 M
def Mod_next_B0 (k0 : Nat → Mm → Option (Unit × Mm)) (x0 : Nat) (M : Mm) : Option (Unit × Mm) :=
  ck (kO M x0 12 107) (
  bd (Mod_here M x0) (fun r2 M3 =>
  if r2 = 32 then (
    Mod_next_J18 k0 x0 M3)
  else (
    ck (kO M3 x0 12 107) (
    bd (Mod_here M3 x0) (fun r7 M8 =>
    if r7 = 10 then (
      Mod_next_J18 k0 x0 M8)
    else (
      ck (kO M8 x0 12 107) (
      let M10 := sI M8 x0 58 (mI M8 x0 57)
      bd (Mod_here M10 x0) (fun r11 M12 =>
      ck (kO M12 x0 12 107) (
      let M14 := sL M12 x0 64 (-1)
      let M15 := sI M14 x0 60 0
      let M16 := sI M15 x0 61 0
      if 0 ≤ r11 then (
        bd (Mod_in M16 r11 97 122) (fun r17 M18 =>
        if r17 = 0 then (
          bd (Mod_in M18 r11 48 57) (fun r19 M20 =>
          if r19 = 0 then (
            if r11 = 59 then (
              Mod_next_J287 x0 r11 x0 M20)
            else (
              if r11 = 40 then (
                Mod_next_J287 x0 r11 x0 M20)
              else (
                if r11 = 41 then (
                  Mod_next_J287 x0 r11 x0 M20)
                else (
                  if r11 = 60 then (
                    Mod_next_J287 x0 r11 x0 M20)
                  else (
                    if r11 = 62 then (
                      Mod_next_J287 x0 r11 x0 M20)
                    else (
                      if r11 = 61 then (
                        Mod_next_J287 x0 r11 x0 M20)
                      else (
                        Mod_next_J292 x0 r11 4 x0 M20)))))))
          else (
            Mod_next_L173 fu x0 M20)))
        else (
          ck (kO M18 x0 12 107) (
          let M44 := sI M18 x0 59 1
          let M45 := sL M44 x0 64 0
          Mod_next_L94 fu x0 M45))))
      else (
        let M58 := sI M16 x0 59 0
        some ((), M58)))))))))))
set_option maxRecDepth 100000 in
set_option maxHeartbeats 4000000 in
theorem e_Mod_next_B0 {G : Gx} (k0 : Nat → Mm → Option (Unit × Mm)) (hk0 : ∀ (x0 : Nat) (M : Mm), EJ G Y_Mod_next cvV 2 0 [(0, .ref x0)] [] M (k0 x0 M)) (x0 : Nat) (M : Mm) : EJ G Y_Mod_next cvV 2 0 [(0, .ref x0)] [] M (Mod_next_B0 k0 x0 M) := by
  unfold Mod_next_B0
  refine EJ_aload_n 1 0 (dk_42 (bt bc_Mod_next_0 0 rfl)) rfl rfl ?_
  refine EJ_ck (fun h1 => ?_)
  refine EJ_callVi (Y2 := Y_Mod_here) 4 cf12 (s_Mod_here G _ _) (of_decide_eq_true h1) rfl (dk_182 (bt bc_Mod_next_0 1 rfl) (bt bc_Mod_next_0 2 rfl) (bt bc_Mod_next_0 3 rfl) (n := 348) rfl) rfl tw_1686 tw_1688 ts_52 tw_1689 hd_Mod_here rfl (by decide) (Nat.le_of_ble_eq_true rfl) (fun r2 M3 => ?_)
  refine EJ_bipush 6 (dk_16 (bt bc_Mod_next_0 4 rfl) (bt bc_Mod_next_0 5 rfl) (n := 32) rfl) rfl (v := 32) kB_32 ?_
  refine EJ_icmp_eq 18 9 (dk_159 (bt bc_Mod_next_0 6 rfl) (bt bc_Mod_next_0 7 rfl) (bt bc_Mod_next_0 8 rfl) (n := 12) rfl) (by decide) rfl (fun _ => ?_) (fun _ => ?_)
  · exact EJ_pick (lv2 := [(0, .ref _)]) [0] rfl (e_Mod_next_J18 k0 hk0 _ _)
  · refine EJ_aload_n 10 0 (dk_42 (bt bc_Mod_next_0 9 rfl)) rfl rfl ?_
    refine EJ_ck (fun h6 => ?_)
    refine EJ_callVi (Y2 := Y_Mod_here) 13 cf12 (s_Mod_here G _ _) (of_decide_eq_true h6) rfl (dk_182 (bt bc_Mod_next_0 10 rfl) (bt bc_Mod_next_0 11 rfl) (bt bc_Mod_next_0 12 rfl) (n := 348) rfl) rfl tw_1686 tw_1688 ts_52 tw_1689 hd_Mod_here rfl (by decide) (Nat.le_of_ble_eq_true rfl) (fun r7 M8 => ?_)
    refine EJ_bipush 15 (dk_16 (bt bc_Mod_next_0 13 rfl) (bt bc_Mod_next_0 14 rfl) (n := 10) rfl) rfl (v := 10) kB_10 ?_
    refine EJ_icmp_ne 31 18 (dk_160 (bt bc_Mod_next_0 15 rfl) (bt bc_Mod_next_0 16 rfl) (bt bc_Mod_next_0 17 rfl) (n := 16) rfl) (by decide) rfl (fun _ => ?_) (fun _ => ?_)
    · refine EJ_aload_n 32 0 (dk_42 (bt bc_Mod_next_0 31 rfl)) rfl rfl ?_
      refine EJ_aload_n 33 0 (dk_42 (bt bc_Mod_next_1 0 rfl)) rfl rfl ?_
      refine EJ_ck (fun h9 => ?_)
      refine EJ_getI cf12 57 (by decide) 36 tw_1255 (fun _ _ _ => rfl) (dk_180 (bt bc_Mod_next_1 1 rfl) (bt bc_Mod_next_1 2 rfl) (bt bc_Mod_next_1 3 rfl) (n := 342) rfl) rfl (of_decide_eq_true h9) ?_
      refine EJ_putI cf12 58 (by decide) 39 tw_1256 rfl (Or.inl rfl) (dk_181 (bt bc_Mod_next_1 4 rfl) (bt bc_Mod_next_1 5 rfl) (bt bc_Mod_next_1 6 rfl) (n := 352) rfl) rfl (of_decide_eq_true h9) ?_
      refine EJ_aload_n 40 0 (dk_42 (bt bc_Mod_next_1 7 rfl)) rfl rfl ?_
      refine EJ_callVi (Y2 := Y_Mod_here) 43 cf12 (s_Mod_here G _ _) (kp_I (of_decide_eq_true h9)) rfl (dk_182 (bt bc_Mod_next_1 8 rfl) (bt bc_Mod_next_1 9 rfl) (bt bc_Mod_next_1 10 rfl) (n := 348) rfl) rfl tw_1686 tw_1688 ts_52 tw_1689 hd_Mod_here rfl (by decide) (Nat.le_of_ble_eq_true rfl) (fun r11 M12 => ?_)
      refine EJ_istore_n 44 (lv2 := [(1, .int _), (0, .ref _)]) (dk_60 (bt bc_Mod_next_1 11 rfl)) rfl (by decide) rfl ?_
      refine EJ_aload_n 45 1 (dk_42 (bt bc_Mod_next_1 12 rfl)) rfl rfl ?_
      refine EJ_ldc2 48 (dk_20 (bt bc_Mod_next_1 13 rfl) (bt bc_Mod_next_1 14 rfl) (bt bc_Mod_next_1 15 rfl) (n := 355) rfl) rfl tw_1690 ?_
      refine EJ_ck (fun h13 => ?_)
      refine EJ_putL cf12 64 (by decide) 51 tw_1262 rfl (Or.inl rfl) (dk_181 (bt bc_Mod_next_1 16 rfl) (bt bc_Mod_next_1 17 rfl) (bt bc_Mod_next_1 18 rfl) (n := 357) rfl) rfl (of_decide_eq_true h13) ?_
      refine EJ_aload_n 52 1 (dk_42 (bt bc_Mod_next_1 19 rfl)) rfl rfl ?_
      refine EJ_iconst 53 (dk_3 (bt bc_Mod_next_1 20 rfl)) rfl (v := 0) kI_0 ?_
      refine EJ_putI cf12 60 (by decide) 56 tw_1258 rfl (Or.inl rfl) (dk_181 (bt bc_Mod_next_1 21 rfl) (bt bc_Mod_next_1 22 rfl) (bt bc_Mod_next_1 23 rfl) (n := 360) rfl) rfl (kp_L (of_decide_eq_true h13)) ?_
      refine EJ_aload_n 57 1 (dk_42 (bt bc_Mod_next_1 24 rfl)) rfl rfl ?_
      refine EJ_iconst 58 (dk_3 (bt bc_Mod_next_1 25 rfl)) rfl (v := 0) kI_0 ?_
      refine EJ_putI cf12 61 (by decide) 61 tw_1259 rfl (Or.inl rfl) (dk_181 (bt bc_Mod_next_1 26 rfl) (bt bc_Mod_next_1 27 rfl) (bt bc_Mod_next_1 28 rfl) (n := 363) rfl) rfl (kp_I (kp_L (of_decide_eq_true h13))) ?_
      refine EJ_iload_n 62 0 (dk_27 (bt bc_Mod_next_1 29 rfl)) rfl rfl ?_
      refine EJ_if_ge 73 65 (dk_156 (bt bc_Mod_next_1 30 rfl) (bt bc_Mod_next_1 31 rfl) (bt bc_Mod_next_2 0 rfl) (n := 11) rfl) (by decide) rfl (fun _ => ?_) (fun _ => ?_)
      · refine EJ_iload_n 74 0 (dk_27 (bt bc_Mod_next_2 9 rfl)) rfl rfl ?_
        refine EJ_bipush 76 (dk_16 (bt bc_Mod_next_2 10 rfl) (bt bc_Mod_next_2 11 rfl) (n := 97) rfl) rfl (v := 97) kB_97 ?_
        refine EJ_bipush 78 (dk_16 (bt bc_Mod_next_2 12 rfl) (bt bc_Mod_next_2 13 rfl) (n := 122) rfl) rfl (v := 122) kB_122 ?_
        refine EJ_callSi (Y2 := Y_Mod_in) 81 (s_Mod_in G _ _ _ _) rfl (dk_184 (bt bc_Mod_next_2 14 rfl) (bt bc_Mod_next_2 15 rfl) (bt bc_Mod_next_2 16 rfl) (n := 252) rfl) rfl tw_1532 tw_1533 tw_8 tw_1534 hd_Mod_in rfl (by decide) (Nat.le_of_ble_eq_true rfl) (fun r17 M18 => ?_)
        refine EJ_if_eq 162 84 (dk_153 (bt bc_Mod_next_2 17 rfl) (bt bc_Mod_next_2 18 rfl) (bt bc_Mod_next_2 19 rfl) (n := 81) rfl) (by decide) rfl (fun _ => ?_) (fun _ => ?_)
        · refine EJ_iload_n 163 0 (dk_27 (bt bc_Mod_next_5 2 rfl)) rfl rfl ?_
          refine EJ_bipush 165 (dk_16 (bt bc_Mod_next_5 3 rfl) (bt bc_Mod_next_5 4 rfl) (n := 48) rfl) rfl (v := 48) kB_48 ?_
          refine EJ_bipush 167 (dk_16 (bt bc_Mod_next_5 5 rfl) (bt bc_Mod_next_5 6 rfl) (n := 57) rfl) rfl (v := 57) kB_57 ?_
          refine EJ_callSi (Y2 := Y_Mod_in) 170 (s_Mod_in G _ _ _ _) rfl (dk_184 (bt bc_Mod_next_5 7 rfl) (bt bc_Mod_next_5 8 rfl) (bt bc_Mod_next_5 9 rfl) (n := 252) rfl) rfl tw_1532 tw_1533 tw_8 tw_1534 hd_Mod_in rfl (by decide) (Nat.le_of_ble_eq_true rfl) (fun r19 M20 => ?_)
          refine EJ_if_eq 250 173 (dk_153 (bt bc_Mod_next_5 10 rfl) (bt bc_Mod_next_5 11 rfl) (bt bc_Mod_next_5 12 rfl) (n := 80) rfl) (by decide) rfl (fun _ => ?_) (fun _ => ?_)
          · refine EJ_aload_n 251 1 (dk_42 (bt bc_Mod_next_7 26 rfl)) rfl rfl ?_
            refine EJ_iload_n 252 0 (dk_27 (bt bc_Mod_next_7 27 rfl)) rfl rfl ?_
            refine EJ_bipush 254 (dk_16 (bt bc_Mod_next_7 28 rfl) (bt bc_Mod_next_7 29 rfl) (n := 59) rfl) rfl (v := 59) kB_59 ?_
            refine EJ_icmp_eq 287 257 (dk_159 (bt bc_Mod_next_7 30 rfl) (bt bc_Mod_next_7 31 rfl) (bt bc_Mod_next_8 0 rfl) (n := 33) rfl) (by decide) rfl (fun _ => ?_) (fun _ => ?_)
            · exact EJ_pick (lv2 := [(0, .ref _), (1, .int _)]) [1, 0] rfl (e_Mod_next_J287 _ _ _ _)
            · refine EJ_iload_n 258 0 (dk_27 (bt bc_Mod_next_8 1 rfl)) rfl rfl ?_
              refine EJ_bipush 260 (dk_16 (bt bc_Mod_next_8 2 rfl) (bt bc_Mod_next_8 3 rfl) (n := 40) rfl) rfl (v := 40) kB_40 ?_
              refine EJ_icmp_eq 287 263 (dk_159 (bt bc_Mod_next_8 4 rfl) (bt bc_Mod_next_8 5 rfl) (bt bc_Mod_next_8 6 rfl) (n := 27) rfl) (by decide) rfl (fun _ => ?_) (fun _ => ?_)
              · exact EJ_pick (lv2 := [(0, .ref _), (1, .int _)]) [1, 0] rfl (e_Mod_next_J287 _ _ _ _)
              · refine EJ_iload_n 264 0 (dk_27 (bt bc_Mod_next_8 7 rfl)) rfl rfl ?_
                refine EJ_bipush 266 (dk_16 (bt bc_Mod_next_8 8 rfl) (bt bc_Mod_next_8 9 rfl) (n := 41) rfl) rfl (v := 41) kB_41 ?_
                refine EJ_icmp_eq 287 269 (dk_159 (bt bc_Mod_next_8 10 rfl) (bt bc_Mod_next_8 11 rfl) (bt bc_Mod_next_8 12 rfl) (n := 21) rfl) (by decide) rfl (fun _ => ?_) (fun _ => ?_)
                · exact EJ_pick (lv2 := [(0, .ref _), (1, .int _)]) [1, 0] rfl (e_Mod_next_J287 _ _ _ _)
                · refine EJ_iload_n 270 0 (dk_27 (bt bc_Mod_next_8 13 rfl)) rfl rfl ?_
                  refine EJ_bipush 272 (dk_16 (bt bc_Mod_next_8 14 rfl) (bt bc_Mod_next_8 15 rfl) (n := 60) rfl) rfl (v := 60) kB_60 ?_
                  refine EJ_icmp_eq 287 275 (dk_159 (bt bc_Mod_next_8 16 rfl) (bt bc_Mod_next_8 17 rfl) (bt bc_Mod_next_8 18 rfl) (n := 15) rfl) (by decide) rfl (fun _ => ?_) (fun _ => ?_)
                  · exact EJ_pick (lv2 := [(0, .ref _), (1, .int _)]) [1, 0] rfl (e_Mod_next_J287 _ _ _ _)
                  · refine EJ_iload_n 276 0 (dk_27 (bt bc_Mod_next_8 19 rfl)) rfl rfl ?_
                    refine EJ_bipush 278 (dk_16 (bt bc_Mod_next_8 20 rfl) (bt bc_Mod_next_8 21 rfl) (n := 62) rfl) rfl (v := 62) kB_62 ?_
                    refine EJ_icmp_eq 287 281 (dk_159 (bt bc_Mod_next_8 22 rfl) (bt bc_Mod_next_8 23 rfl) (bt bc_Mod_next_8 24 rfl) (n := 9) rfl) (by decide) rfl (fun _ => ?_) (fun _ => ?_)
                    · exact EJ_pick (lv2 := [(0, .ref _), (1, .int _)]) [1, 0] rfl (e_Mod_next_J287 _ _ _ _)
                    · refine EJ_iload_n 282 0 (dk_27 (bt bc_Mod_next_8 25 rfl)) rfl rfl ?_
                      refine EJ_bipush 284 (dk_16 (bt bc_Mod_next_8 26 rfl) (bt bc_Mod_next_8 27 rfl) (n := 61) rfl) rfl (v := 61) kB_61 ?_
                      refine EJ_icmp_ne 291 287 (dk_160 (bt bc_Mod_next_8 28 rfl) (bt bc_Mod_next_8 29 rfl) (bt bc_Mod_next_8 30 rfl) (n := 7) rfl) (by decide) rfl (fun _ => ?_) (fun _ => ?_)
                      · refine EJ_iconst 292 (dk_7 (bt bc_Mod_next_9 3 rfl)) rfl (v := 4) kI_4 ?_
                        exact EJ_pick (lv2 := [(0, .ref _), (1, .int _)]) [1, 0] rfl (e_Mod_next_J292 _ _ _ _ _)
                      · exact EJ_pick (lv2 := [(0, .ref _), (1, .int _)]) [1, 0] rfl (e_Mod_next_J287 _ _ _ _)
          · exact EJ_pick (lv2 := [(0, .ref _)]) [1] rfl (e_Mod_next_L173 fu _ _)
        · refine EJ_aload_n 85 1 (dk_42 (bt bc_Mod_next_2 20 rfl)) rfl rfl ?_
          refine EJ_iconst 86 (dk_4 (bt bc_Mod_next_2 21 rfl)) rfl (v := 1) kI_1 ?_
          refine EJ_ck (fun h43 => ?_)
          refine EJ_putI cf12 59 (by decide) 89 tw_1257 rfl (Or.inl rfl) (dk_181 (bt bc_Mod_next_2 22 rfl) (bt bc_Mod_next_2 23 rfl) (bt bc_Mod_next_2 24 rfl) (n := 366) rfl) rfl (of_decide_eq_true h43) ?_
          refine EJ_aload_n 90 1 (dk_42 (bt bc_Mod_next_2 25 rfl)) rfl rfl ?_
          refine EJ_lconst 91 (dk_9 (bt bc_Mod_next_2 26 rfl)) rfl (v := 0) (by decide) ?_
          refine EJ_putL cf12 64 (by decide) 94 tw_1262 rfl (Or.inl rfl) (dk_181 (bt bc_Mod_next_2 27 rfl) (bt bc_Mod_next_2 28 rfl) (bt bc_Mod_next_2 29 rfl) (n := 357) rfl) rfl (kp_I (of_decide_eq_true h43)) ?_
          exact EJ_pick (lv2 := [(0, .ref _)]) [1] rfl (e_Mod_next_L94 fu _ _)
      · refine EJ_aload_n 66 1 (dk_42 (bt bc_Mod_next_2 1 rfl)) rfl rfl ?_
        refine EJ_iconst 67 (dk_3 (bt bc_Mod_next_2 2 rfl)) rfl (v := 0) kI_0 ?_
        refine EJ_putI cf12 59 (by decide) 70 tw_1257 rfl (Or.inl rfl) (dk_181 (bt bc_Mod_next_2 3 rfl) (bt bc_Mod_next_2 4 rfl) (bt bc_Mod_next_2 5 rfl) (n := 366) rfl) rfl (kp_I (kp_I (kp_L (of_decide_eq_true h13)))) ?_
        refine EJ_goto 310 (dk_167 (bt bc_Mod_next_2 6 rfl) (bt bc_Mod_next_2 7 rfl) (bt bc_Mod_next_2 8 rfl) (n := 240) rfl) (by decide) ?_
        exact EJ_vret rfl (dk_177 (bt bc_Mod_next_9 22 rfl))
    · exact EJ_pick (lv2 := [(0, .ref _)]) [0] rfl (e_Mod_next_J18 k0 hk0 _ _)
def Mod_next_L0 (n : Nat) : Nat → Mm → Option (Unit × Mm) :=
  match n with
  | 0 => fun _ _ => none
  | n + 1 => Mod_next_B0 (Mod_next_L0 n)
theorem e_Mod_next_L0 {G : Gx} : ∀ (n : Nat) (x0 : Nat) (M : Mm), EJ G Y_Mod_next cvV 2 0 [(0, .ref x0)] [] M (Mod_next_L0 n x0 M) := by
  intro n
  induction n with
  | zero => intros; exact EJ_none
  | succ n ih => intro x0 M; exact e_Mod_next_B0 _ ih x0 M
def Mod_next (M : Mm) (a0 : Nat) : Option (Unit × Mm) :=
  Mod_next_L0 fu a0 M
set_option maxRecDepth 100000 in
set_option maxHeartbeats 4000000 in
theorem s_Mod_next (G : Gx) (M : Mm) (a0 : Nat) : FnS G Y_Mod_next cvV 2 [.ref a0] M (Mod_next M a0) := by
  refine FnS.ofE (by decide) (Nat.le_of_ble_eq_true rfl) ?_
  show EJ G Y_Mod_next cvV 2 0 [(0, .ref a0)] [] M _
  unfold Mod_next
  exact EJ_pick (lv2 := [(0, .ref _)]) [0] rfl (e_Mod_next_L0 fu _ _)
abbrev Y_Mod_fails0 : Ym := (⟨"RiceHallModel", "fails", "()V"⟩, prog_14_method_39_code, 1, none)
theorem bc_Mod_fails0_0 : bts prog_14_method_39_code 0 [42, 180, 1, 116, 153, 0, 4, 177, 42, 4, 181, 1, 116, 42, 42, 180, 1, 96, 181, 0, 137, 177] := bts_of (by decide +kernel)
theorem hd_Mod_fails0 : Y_Mod_fails0.1.cls = RX12 ∧ Y_Mod_fails0.1.cls ≠ "java/lang/invoke/MethodHandle" ∧ Y_Mod_fails0.1.cls ≠ "java/lang/invoke/VarHandle" ∧ (parseMethodDescriptor Y_Mod_fails0.1.desc).map (fun d => d.parameters.length) = some 0 := by decide +kernel
def Mod_fails0 (M : Mm) (a0 : Nat) : Option (Unit × Mm) :=
  ck (kO M a0 12 107) (
  if (mI M a0 65) = 0 then (
    let M2 := sI M a0 65 1
    let M3 := sI M2 a0 55 (mI M2 a0 58)
    some ((), M3))
  else (
    some ((), M)))
set_option maxRecDepth 100000 in
set_option maxHeartbeats 4000000 in
theorem s_Mod_fails0 (G : Gx) (M : Mm) (a0 : Nat) : FnS G Y_Mod_fails0 cvV 1 [.ref a0] M (Mod_fails0 M a0) := by
  refine FnS.ofE (by decide) (Nat.le_of_ble_eq_true rfl) ?_
  show EJ G Y_Mod_fails0 cvV 1 0 [(0, .ref a0)] [] M _
  unfold Mod_fails0
  refine EJ_aload_n 1 0 (dk_42 (bt bc_Mod_fails0_0 0 rfl)) rfl rfl ?_
  refine EJ_ck (fun h1 => ?_)
  refine EJ_getI cf12 65 (by decide) 4 tw_1263 (fun _ _ _ => rfl) (dk_180 (bt bc_Mod_fails0_0 1 rfl) (bt bc_Mod_fails0_0 2 rfl) (bt bc_Mod_fails0_0 3 rfl) (n := 372) rfl) rfl (of_decide_eq_true h1) ?_
  refine EJ_if_eq 8 7 (dk_153 (bt bc_Mod_fails0_0 4 rfl) (bt bc_Mod_fails0_0 5 rfl) (bt bc_Mod_fails0_0 6 rfl) (n := 4) rfl) (by decide) rfl (fun _ => ?_) (fun _ => ?_)
  · refine EJ_aload_n 9 0 (dk_42 (bt bc_Mod_fails0_0 8 rfl)) rfl rfl ?_
    refine EJ_iconst 10 (dk_4 (bt bc_Mod_fails0_0 9 rfl)) rfl (v := 1) kI_1 ?_
    refine EJ_putZ cf12 65 (by decide) 13 tw_1263 rfl (Or.inl rfl) (by decide) (dk_181 (bt bc_Mod_fails0_0 10 rfl) (bt bc_Mod_fails0_0 11 rfl) (bt bc_Mod_fails0_0 12 rfl) (n := 372) rfl) rfl (of_decide_eq_true h1) ?_
    refine EJ_aload_n 14 0 (dk_42 (bt bc_Mod_fails0_0 13 rfl)) rfl rfl ?_
    refine EJ_aload_n 15 0 (dk_42 (bt bc_Mod_fails0_0 14 rfl)) rfl rfl ?_
    refine EJ_getI cf12 58 (by decide) 18 tw_1256 (fun _ _ _ => rfl) (dk_180 (bt bc_Mod_fails0_0 15 rfl) (bt bc_Mod_fails0_0 16 rfl) (bt bc_Mod_fails0_0 17 rfl) (n := 352) rfl) rfl (kp_I (of_decide_eq_true h1)) ?_
    refine EJ_putI cf12 55 (by decide) 21 tw_1253 rfl (Or.inl rfl) (dk_181 (bt bc_Mod_fails0_0 18 rfl) (bt bc_Mod_fails0_0 19 rfl) (bt bc_Mod_fails0_0 20 rfl) (n := 137) rfl) rfl (kp_I (of_decide_eq_true h1)) ?_
    exact EJ_vret rfl (dk_177 (bt bc_Mod_fails0_0 21 rfl))
  · exact EJ_vret rfl (dk_177 (bt bc_Mod_fails0_0 7 rfl))
abbrev Y_Mod_isWord : Ym := (⟨"RiceHallModel", "isWord", "(J)Z"⟩, prog_14_method_40_code, 3, (some FieldType.boolean))
theorem bc_Mod_isWord_0 : bts prog_14_method_40_code 0 [42, 180, 1, 110, 4, 160, 0, 16, 42, 180, 1, 101, 31, 148, 154, 0, 7, 4, 167, 0, 4, 3, 172] := bts_of (by decide +kernel)
theorem hd_Mod_isWord : Y_Mod_isWord.1.cls = RX12 ∧ Y_Mod_isWord.1.cls ≠ "java/lang/invoke/MethodHandle" ∧ Y_Mod_isWord.1.cls ≠ "java/lang/invoke/VarHandle" ∧ (parseMethodDescriptor Y_Mod_isWord.1.desc).map (fun d => d.parameters.length) = some 1 := by decide +kernel
def Mod_isWord (M : Mm) (a0 : Nat) (a1 : Int64) : Option (Int32 × Mm) :=
  ck (kO M a0 12 107) (
  if (mI M a0 59) = 1 then (
    if (mL M a0 64) = a1 then (
      some (1, M))
    else (
      some (0, M)))
  else (
    some (0, M)))
set_option maxRecDepth 100000 in
set_option maxHeartbeats 4000000 in
theorem s_Mod_isWord (G : Gx) (M : Mm) (a0 : Nat) (a1 : Int64) : FnS G Y_Mod_isWord cvI 1 [.ref a0, .long a1] M (Mod_isWord M a0 a1) := by
  refine FnS.ofE (by decide) (Nat.le_of_ble_eq_true rfl) ?_
  show EJ G Y_Mod_isWord cvI 1 0 [(0, .ref a0), (1, .long a1)] [] M _
  unfold Mod_isWord
  refine EJ_aload_n 1 0 (dk_42 (bt bc_Mod_isWord_0 0 rfl)) rfl rfl ?_
  refine EJ_ck (fun h1 => ?_)
  refine EJ_getI cf12 59 (by decide) 4 tw_1257 (fun _ _ _ => rfl) (dk_180 (bt bc_Mod_isWord_0 1 rfl) (bt bc_Mod_isWord_0 2 rfl) (bt bc_Mod_isWord_0 3 rfl) (n := 366) rfl) rfl (of_decide_eq_true h1) ?_
  refine EJ_iconst 5 (dk_4 (bt bc_Mod_isWord_0 4 rfl)) rfl (v := 1) kI_1 ?_
  refine EJ_icmp_ne 21 8 (dk_160 (bt bc_Mod_isWord_0 5 rfl) (bt bc_Mod_isWord_0 6 rfl) (bt bc_Mod_isWord_0 7 rfl) (n := 16) rfl) (by decide) rfl (fun _ => ?_) (fun _ => ?_)
  · refine EJ_iconst 22 (dk_3 (bt bc_Mod_isWord_0 21 rfl)) rfl (v := 0) kI_0 ?_
    exact EJ_zret rfl (by decide) (dk_172 (bt bc_Mod_isWord_0 22 rfl))
  · refine EJ_aload_n 9 0 (dk_42 (bt bc_Mod_isWord_0 8 rfl)) rfl rfl ?_
    refine EJ_getL cf12 64 (by decide) 12 tw_1262 (fun _ _ _ => rfl) (dk_180 (bt bc_Mod_isWord_0 9 rfl) (bt bc_Mod_isWord_0 10 rfl) (bt bc_Mod_isWord_0 11 rfl) (n := 357) rfl) rfl (of_decide_eq_true h1) ?_
    refine EJ_lload_n 13 1 (dk_31 (bt bc_Mod_isWord_0 12 rfl)) rfl rfl ?_
    refine EJ_lcmp_ne 21 17 (dk_148 (bt bc_Mod_isWord_0 13 rfl)) (dk_154 (bt bc_Mod_isWord_0 14 rfl) (bt bc_Mod_isWord_0 15 rfl) (bt bc_Mod_isWord_0 16 rfl) (n := 7) rfl) (by decide) rfl (fun _ => ?_) (fun _ => ?_)
    · refine EJ_iconst 22 (dk_3 (bt bc_Mod_isWord_0 21 rfl)) rfl (v := 0) kI_0 ?_
      exact EJ_zret rfl (by decide) (dk_172 (bt bc_Mod_isWord_0 22 rfl))
    · refine EJ_iconst 18 (dk_4 (bt bc_Mod_isWord_0 17 rfl)) rfl (v := 1) kI_1 ?_
      refine EJ_goto 22 (dk_167 (bt bc_Mod_isWord_0 18 rfl) (bt bc_Mod_isWord_0 19 rfl) (bt bc_Mod_isWord_0 20 rfl) (n := 4) rfl) (by decide) ?_
      exact EJ_zret rfl (by decide) (dk_172 (bt bc_Mod_isWord_0 22 rfl))
abbrev Y_Mod_begin : Ym := (⟨"RiceHallModel", "begin", "(I)V"⟩, prog_14_method_46_code, 2, none)
theorem bc_Mod_begin_0 : bts prog_14_method_46_code 0 [42, 180, 0, 140, 42, 180, 1, 165, 27, 79, 42, 180, 0, 143, 42, 180, 1, 165, 3, 79, 42, 180, 0, 146, 42, 180, 1, 165, 2, 79, 42, 89] := bts_of (by decide +kernel)
theorem bc_Mod_begin_1 : bts prog_14_method_46_code 32 [180, 1, 165, 4, 96, 181, 1, 165, 177] := bts_of (by decide +kernel)
theorem hd_Mod_begin : Y_Mod_begin.1.cls = RX12 ∧ Y_Mod_begin.1.cls ≠ "java/lang/invoke/MethodHandle" ∧ Y_Mod_begin.1.cls ≠ "java/lang/invoke/VarHandle" ∧ (parseMethodDescriptor Y_Mod_begin.1.desc).map (fun d => d.parameters.length) = some 1 := by decide +kernel
def Mod_begin (M : Mm) (a0 : Nat) (a1 : Int32) : Option (Unit × Mm) :=
  ck (kO M a0 12 107) (
  nn (mR M a0 66) (fun b2 =>
  ck (kA M b2 20 (mI M a0 69)) (
  let M4 := sI M b2 (ix (mI M a0 69)) a1
  nn (mR M4 a0 67) (fun b5 =>
  ck (kA M4 b5 20 (mI M4 a0 69)) (
  let M7 := sI M4 b5 (ix (mI M4 a0 69)) 0
  nn (mR M7 a0 68) (fun b8 =>
  ck (kA M7 b8 20 (mI M7 a0 69)) (
  let M10 := sI M7 b8 (ix (mI M7 a0 69)) (-1)
  let M11 := sI M10 a0 69 ((mI M10 a0 69) + 1)
  some ((), M11))))))))
set_option maxRecDepth 100000 in
set_option maxHeartbeats 4000000 in
theorem s_Mod_begin (G : Gx) (M : Mm) (a0 : Nat) (a1 : Int32) : FnS G Y_Mod_begin cvV 1 [.ref a0, .int a1] M (Mod_begin M a0 a1) := by
  refine FnS.ofE (by decide) (Nat.le_of_ble_eq_true rfl) ?_
  show EJ G Y_Mod_begin cvV 1 0 [(0, .ref a0), (1, .int a1)] [] M _
  unfold Mod_begin
  refine EJ_aload_n 1 0 (dk_42 (bt bc_Mod_begin_0 0 rfl)) rfl rfl ?_
  refine EJ_ck (fun h1 => ?_)
  refine EJ_getR cf12 66 (by decide) 4 tw_1264 (fun _ _ _ => rfl) (dk_180 (bt bc_Mod_begin_0 1 rfl) (bt bc_Mod_begin_0 2 rfl) (bt bc_Mod_begin_0 3 rfl) (n := 140) rfl) rfl (of_decide_eq_true h1) (fun b2 => ?_)
  refine EJ_aload_n 5 0 (dk_42 (bt bc_Mod_begin_0 4 rfl)) rfl rfl ?_
  refine EJ_getI cf12 69 (by decide) 8 tw_1267 (fun _ _ _ => rfl) (dk_180 (bt bc_Mod_begin_0 5 rfl) (bt bc_Mod_begin_0 6 rfl) (bt bc_Mod_begin_0 7 rfl) (n := 421) rfl) rfl (of_decide_eq_true h1) ?_
  refine EJ_iload_n 9 1 (dk_27 (bt bc_Mod_begin_0 8 rfl)) rfl rfl ?_
  refine EJ_ck (fun h3 => ?_)
  refine EJ_iast 10 h3 (dk_79 (bt bc_Mod_begin_0 9 rfl)) rfl ?_
  refine EJ_aload_n 11 0 (dk_42 (bt bc_Mod_begin_0 10 rfl)) rfl rfl ?_
  refine EJ_getR cf12 67 (by decide) 14 tw_1265 (fun _ _ _ => rfl) (dk_180 (bt bc_Mod_begin_0 11 rfl) (bt bc_Mod_begin_0 12 rfl) (bt bc_Mod_begin_0 13 rfl) (n := 143) rfl) rfl (kp_I (of_decide_eq_true h1)) (fun b5 => ?_)
  refine EJ_aload_n 15 0 (dk_42 (bt bc_Mod_begin_0 14 rfl)) rfl rfl ?_
  refine EJ_getI cf12 69 (by decide) 18 tw_1267 (fun _ _ _ => rfl) (dk_180 (bt bc_Mod_begin_0 15 rfl) (bt bc_Mod_begin_0 16 rfl) (bt bc_Mod_begin_0 17 rfl) (n := 421) rfl) rfl (kp_I (of_decide_eq_true h1)) ?_
  refine EJ_iconst 19 (dk_3 (bt bc_Mod_begin_0 18 rfl)) rfl (v := 0) kI_0 ?_
  refine EJ_ck (fun h6 => ?_)
  refine EJ_iast 20 h6 (dk_79 (bt bc_Mod_begin_0 19 rfl)) rfl ?_
  refine EJ_aload_n 21 0 (dk_42 (bt bc_Mod_begin_0 20 rfl)) rfl rfl ?_
  refine EJ_getR cf12 68 (by decide) 24 tw_1266 (fun _ _ _ => rfl) (dk_180 (bt bc_Mod_begin_0 21 rfl) (bt bc_Mod_begin_0 22 rfl) (bt bc_Mod_begin_0 23 rfl) (n := 146) rfl) rfl (kp_I (kp_I (of_decide_eq_true h1))) (fun b8 => ?_)
  refine EJ_aload_n 25 0 (dk_42 (bt bc_Mod_begin_0 24 rfl)) rfl rfl ?_
  refine EJ_getI cf12 69 (by decide) 28 tw_1267 (fun _ _ _ => rfl) (dk_180 (bt bc_Mod_begin_0 25 rfl) (bt bc_Mod_begin_0 26 rfl) (bt bc_Mod_begin_0 27 rfl) (n := 421) rfl) rfl (kp_I (kp_I (of_decide_eq_true h1))) ?_
  refine EJ_iconst 29 (dk_2 (bt bc_Mod_begin_0 28 rfl)) rfl (v := (-1)) kI_m1 ?_
  refine EJ_ck (fun h9 => ?_)
  refine EJ_iast 30 h9 (dk_79 (bt bc_Mod_begin_0 29 rfl)) rfl ?_
  refine EJ_aload_n 31 0 (dk_42 (bt bc_Mod_begin_0 30 rfl)) rfl rfl ?_
  refine EJ_dup 32 (dk_89 (bt bc_Mod_begin_0 31 rfl)) rfl rfl ?_
  refine EJ_getI cf12 69 (by decide) 35 tw_1267 (fun _ _ _ => rfl) (dk_180 (bt bc_Mod_begin_1 0 rfl) (bt bc_Mod_begin_1 1 rfl) (bt bc_Mod_begin_1 2 rfl) (n := 421) rfl) rfl (kp_I (kp_I (kp_I (of_decide_eq_true h1)))) ?_
  refine EJ_iconst 36 (dk_4 (bt bc_Mod_begin_1 3 rfl)) rfl (v := 1) kI_1 ?_
  refine EJ_iadd 37 (dk_96 (bt bc_Mod_begin_1 4 rfl)) rfl ?_
  refine EJ_putI cf12 69 (by decide) 40 tw_1267 rfl (Or.inl rfl) (dk_181 (bt bc_Mod_begin_1 5 rfl) (bt bc_Mod_begin_1 6 rfl) (bt bc_Mod_begin_1 7 rfl) (n := 421) rfl) rfl (kp_I (kp_I (kp_I (of_decide_eq_true h1)))) ?_
  exact EJ_vret rfl (dk_177 (bt bc_Mod_begin_1 8 rfl))
abbrev Y_Mod_opens : Ym := (⟨"RiceHallModel", "opens", "()V"⟩, prog_14_method_48_code, 1, none)
theorem bc_Mod_opens_0 : bts prog_14_method_48_code 0 [42, 180, 1, 171, 16, 8, 160, 0, 7, 42, 182, 1, 123, 42, 89, 180, 1, 171, 4, 96, 181, 1, 171, 42, 182, 1, 120, 177] := bts_of (by decide +kernel)
theorem hd_Mod_opens : Y_Mod_opens.1.cls = RX12 ∧ Y_Mod_opens.1.cls ≠ "java/lang/invoke/MethodHandle" ∧ Y_Mod_opens.1.cls ≠ "java/lang/invoke/VarHandle" ∧ (parseMethodDescriptor Y_Mod_opens.1.desc).map (fun d => d.parameters.length) = some 0 := by decide +kernel
def Mod_opens_J13 (x0 : Nat) (M : Mm) : Option (Unit × Mm) :=
  ck (kO M x0 12 107) (
  let M3 := sI M x0 62 ((mI M x0 62) + 1)
  bd (Mod_next M3 x0) (fun _ M5 =>
  some ((), M5)))
set_option maxRecDepth 100000 in
set_option maxHeartbeats 4000000 in
theorem e_Mod_opens_J13 {G : Gx} (x0 : Nat) (M : Mm) : EJ G Y_Mod_opens cvV 3 13 [(0, .ref x0)] [] M (Mod_opens_J13 x0 M) := by
  unfold Mod_opens_J13
  refine EJ_aload_n 14 0 (dk_42 (bt bc_Mod_opens_0 13 rfl)) rfl rfl ?_
  refine EJ_dup 15 (dk_89 (bt bc_Mod_opens_0 14 rfl)) rfl rfl ?_
  refine EJ_ck (fun h2 => ?_)
  refine EJ_getI cf12 62 (by decide) 18 tw_1260 (fun _ _ _ => rfl) (dk_180 (bt bc_Mod_opens_0 15 rfl) (bt bc_Mod_opens_0 16 rfl) (bt bc_Mod_opens_0 17 rfl) (n := 427) rfl) rfl (of_decide_eq_true h2) ?_
  refine EJ_iconst 19 (dk_4 (bt bc_Mod_opens_0 18 rfl)) rfl (v := 1) kI_1 ?_
  refine EJ_iadd 20 (dk_96 (bt bc_Mod_opens_0 19 rfl)) rfl ?_
  refine EJ_putI cf12 62 (by decide) 23 tw_1260 rfl (Or.inl rfl) (dk_181 (bt bc_Mod_opens_0 20 rfl) (bt bc_Mod_opens_0 21 rfl) (bt bc_Mod_opens_0 22 rfl) (n := 427) rfl) rfl (of_decide_eq_true h2) ?_
  refine EJ_aload_n 24 0 (dk_42 (bt bc_Mod_opens_0 23 rfl)) rfl rfl ?_
  refine EJ_callVv (Y2 := Y_Mod_next) 27 cf12 (s_Mod_next G _ _) (kp_I (of_decide_eq_true h2)) rfl (dk_182 (bt bc_Mod_opens_0 24 rfl) (bt bc_Mod_opens_0 25 rfl) (bt bc_Mod_opens_0 26 rfl) (n := 376) rfl) rfl tw_1682 tw_1684 ts_51 tw_1685 hd_Mod_next rfl (by decide) (Nat.le_of_ble_eq_true rfl) (fun _ M5 => ?_)
  exact EJ_vret rfl (dk_177 (bt bc_Mod_opens_0 27 rfl))
def Mod_opens (M : Mm) (a0 : Nat) : Option (Unit × Mm) :=
  ck (kO M a0 12 107) (
  if (mI M a0 62) = 8 then (
    bd (Mod_fails0 M a0) (fun _ M7 =>
    Mod_opens_J13 a0 M7))
  else (
    Mod_opens_J13 a0 M))
set_option maxRecDepth 100000 in
set_option maxHeartbeats 4000000 in
theorem s_Mod_opens (G : Gx) (M : Mm) (a0 : Nat) : FnS G Y_Mod_opens cvV 3 [.ref a0] M (Mod_opens M a0) := by
  refine FnS.ofE (by decide) (Nat.le_of_ble_eq_true rfl) ?_
  show EJ G Y_Mod_opens cvV 3 0 [(0, .ref a0)] [] M _
  unfold Mod_opens
  refine EJ_aload_n 1 0 (dk_42 (bt bc_Mod_opens_0 0 rfl)) rfl rfl ?_
  refine EJ_ck (fun h1 => ?_)
  refine EJ_getI cf12 62 (by decide) 4 tw_1260 (fun _ _ _ => rfl) (dk_180 (bt bc_Mod_opens_0 1 rfl) (bt bc_Mod_opens_0 2 rfl) (bt bc_Mod_opens_0 3 rfl) (n := 427) rfl) rfl (of_decide_eq_true h1) ?_
  refine EJ_bipush 6 (dk_16 (bt bc_Mod_opens_0 4 rfl) (bt bc_Mod_opens_0 5 rfl) (n := 8) rfl) rfl (v := 8) kB_8 ?_
  refine EJ_icmp_ne 13 9 (dk_160 (bt bc_Mod_opens_0 6 rfl) (bt bc_Mod_opens_0 7 rfl) (bt bc_Mod_opens_0 8 rfl) (n := 7) rfl) (by decide) rfl (fun _ => ?_) (fun _ => ?_)
  · exact EJ_pick (lv2 := [(0, .ref _)]) [0] rfl (e_Mod_opens_J13 _ _)
  · refine EJ_aload_n 10 0 (dk_42 (bt bc_Mod_opens_0 9 rfl)) rfl rfl ?_
    refine EJ_callVv (Y2 := Y_Mod_fails0) 13 cf12 (s_Mod_fails0 G _ _) (of_decide_eq_true h1) rfl (dk_182 (bt bc_Mod_opens_0 10 rfl) (bt bc_Mod_opens_0 11 rfl) (bt bc_Mod_opens_0 12 rfl) (n := 379) rfl) rfl tw_1693 tw_1695 ts_53 tw_1696 hd_Mod_fails0 rfl (by decide) (Nat.le_of_ble_eq_true rfl) (fun _ M7 => ?_)
    exact EJ_pick (lv2 := [(0, .ref _)]) [0] rfl (e_Mod_opens_J13 _ _)
abbrev Y_Mod_isSign : Ym := (⟨"RiceHallModel", "isSign", "(I)Z"⟩, prog_14_method_41_code, 2, (some FieldType.boolean))
theorem bc_Mod_isSign_0 : bts prog_14_method_41_code 0 [42, 180, 1, 110, 6, 160, 0, 15, 42, 180, 1, 104, 27, 160, 0, 7, 4, 167, 0, 4, 3, 172] := bts_of (by decide +kernel)
theorem hd_Mod_isSign : Y_Mod_isSign.1.cls = RX12 ∧ Y_Mod_isSign.1.cls ≠ "java/lang/invoke/MethodHandle" ∧ Y_Mod_isSign.1.cls ≠ "java/lang/invoke/VarHandle" ∧ (parseMethodDescriptor Y_Mod_isSign.1.desc).map (fun d => d.parameters.length) = some 1 := by decide +kernel
def Mod_isSign (M : Mm) (a0 : Nat) (a1 : Int32) : Option (Int32 × Mm) :=
  ck (kO M a0 12 107) (
  if (mI M a0 59) = 3 then (
    if (mI M a0 60) = a1 then (
      some (1, M))
    else (
      some (0, M)))
  else (
    some (0, M)))
set_option maxRecDepth 100000 in
set_option maxHeartbeats 4000000 in
theorem s_Mod_isSign (G : Gx) (M : Mm) (a0 : Nat) (a1 : Int32) : FnS G Y_Mod_isSign cvI 1 [.ref a0, .int a1] M (Mod_isSign M a0 a1) := by
  refine FnS.ofE (by decide) (Nat.le_of_ble_eq_true rfl) ?_
  show EJ G Y_Mod_isSign cvI 1 0 [(0, .ref a0), (1, .int a1)] [] M _
  unfold Mod_isSign
  refine EJ_aload_n 1 0 (dk_42 (bt bc_Mod_isSign_0 0 rfl)) rfl rfl ?_
  refine EJ_ck (fun h1 => ?_)
  refine EJ_getI cf12 59 (by decide) 4 tw_1257 (fun _ _ _ => rfl) (dk_180 (bt bc_Mod_isSign_0 1 rfl) (bt bc_Mod_isSign_0 2 rfl) (bt bc_Mod_isSign_0 3 rfl) (n := 366) rfl) rfl (of_decide_eq_true h1) ?_
  refine EJ_iconst 5 (dk_6 (bt bc_Mod_isSign_0 4 rfl)) rfl (v := 3) kI_3 ?_
  refine EJ_icmp_ne 20 8 (dk_160 (bt bc_Mod_isSign_0 5 rfl) (bt bc_Mod_isSign_0 6 rfl) (bt bc_Mod_isSign_0 7 rfl) (n := 15) rfl) (by decide) rfl (fun _ => ?_) (fun _ => ?_)
  · refine EJ_iconst 21 (dk_3 (bt bc_Mod_isSign_0 20 rfl)) rfl (v := 0) kI_0 ?_
    exact EJ_zret rfl (by decide) (dk_172 (bt bc_Mod_isSign_0 21 rfl))
  · refine EJ_aload_n 9 0 (dk_42 (bt bc_Mod_isSign_0 8 rfl)) rfl rfl ?_
    refine EJ_getI cf12 60 (by decide) 12 tw_1258 (fun _ _ _ => rfl) (dk_180 (bt bc_Mod_isSign_0 9 rfl) (bt bc_Mod_isSign_0 10 rfl) (bt bc_Mod_isSign_0 11 rfl) (n := 360) rfl) rfl (of_decide_eq_true h1) ?_
    refine EJ_iload_n 13 1 (dk_27 (bt bc_Mod_isSign_0 12 rfl)) rfl rfl ?_
    refine EJ_icmp_ne 20 16 (dk_160 (bt bc_Mod_isSign_0 13 rfl) (bt bc_Mod_isSign_0 14 rfl) (bt bc_Mod_isSign_0 15 rfl) (n := 7) rfl) (by decide) rfl (fun _ => ?_) (fun _ => ?_)
    · refine EJ_iconst 21 (dk_3 (bt bc_Mod_isSign_0 20 rfl)) rfl (v := 0) kI_0 ?_
      exact EJ_zret rfl (by decide) (dk_172 (bt bc_Mod_isSign_0 21 rfl))
    · refine EJ_iconst 17 (dk_4 (bt bc_Mod_isSign_0 16 rfl)) rfl (v := 1) kI_1 ?_
      refine EJ_goto 21 (dk_167 (bt bc_Mod_isSign_0 17 rfl) (bt bc_Mod_isSign_0 18 rfl) (bt bc_Mod_isSign_0 19 rfl) (n := 4) rfl) (by decide) ?_
      exact EJ_zret rfl (by decide) (dk_172 (bt bc_Mod_isSign_0 21 rfl))
