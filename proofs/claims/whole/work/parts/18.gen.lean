abbrev Y_Hall_told : Ym := (⟨"RiceHall", "told", "(II)I"⟩, prog_1_method_16_code, 4, (some FieldType.int))
theorem bc_Hall_told_0 : bts prog_1_method_16_code 0 [42, 27, 182, 0, 111, 154, 0, 6, 18, 177, 172, 42, 180, 0, 18, 27, 50, 78, 28, 170, 0, 0, 0, 88, 0, 0, 0, 0, 0, 0, 0, 6] := bts_of (by decide +kernel)
theorem bc_Hall_told_1 : bts prog_1_method_16_code 32 [0, 0, 0, 41, 0, 0, 0, 46, 0, 0, 0, 51, 0, 0, 0, 56, 0, 0, 0, 61, 0, 0, 0, 66, 0, 0, 0, 71, 45, 180, 0, 178] := bts_of (by decide +kernel)
theorem bc_Hall_told_2 : bts prog_1_method_16_code 64 [172, 45, 180, 0, 181, 172, 45, 180, 0, 184, 172, 45, 180, 0, 187, 172, 45, 180, 0, 190, 172, 45, 180, 0, 193, 172, 45, 42, 5, 182, 0, 147] := bts_of (by decide +kernel)
theorem bc_Hall_told_3 : bts prog_1_method_16_code 96 [182, 0, 196, 20, 0, 200, 184, 0, 202, 136, 172, 28, 16, 10, 16, 9, 42, 180, 0, 104, 96, 184, 0, 80, 153, 0, 15, 45, 180, 0, 117, 28] := bts_of (by decide +kernel)
theorem bc_Hall_told_4 : bts prog_1_method_16_code 128 [16, 10, 100, 46, 167, 0, 5, 18, 177, 172] := bts_of (by decide +kernel)
theorem hd_Hall_told : Y_Hall_told.1.cls = RX11 ∧ Y_Hall_told.1.cls ≠ "java/lang/invoke/MethodHandle" ∧ Y_Hall_told.1.cls ≠ "java/lang/invoke/VarHandle" ∧ (parseMethodDescriptor Y_Hall_told.1.desc).map (fun d => d.parameters.length) = some 2 := by decide +kernel
set_option maxRecDepth 100000 in
theorem ds_Hall_told_19 : decode prog_1_method_16_code 19 = .ok (.tableswitch (88) (0) (6) #[41, 46, 51, 56, 61, 66, 71], 41) := by decide +kernel
def Hall_told (M : Mm) (a0 : Nat) (a1 : Int32) (a2 : Int32) : Option (Int32 × Mm) :=
  ck (kO M a0 11 18) (
  bd (Hall_isPerson M a0 a1) (fun r2 M3 =>
  if r2 = 0 then (
    some ((-100000000), M3))
  else (
    ck (kO M3 a0 11 18) (
    nn (mR M3 a0 1) (fun b5 =>
    ck (kA M3 b5 24 a1) (
    nn (mR M3 b5 (ix a1)) (fun b7 =>
    if a2 = 0 then (
      ck (kO M3 b7 6 9) (
      some (mI M3 b7 0, M3)))
    else (
    if a2 = 1 then (
      ck (kO M3 b7 6 9) (
      some (mI M3 b7 4, M3)))
    else (
    if a2 = 2 then (
      ck (kO M3 b7 6 9) (
      some (mI M3 b7 5, M3)))
    else (
    if a2 = 3 then (
      ck (kO M3 b7 6 9) (
      some (mI M3 b7 6, M3)))
    else (
    if a2 = 4 then (
      ck (kO M3 b7 6 9) (
      some (mI M3 b7 7, M3)))
    else (
    if a2 = 5 then (
      ck (kO M3 b7 6 9) (
      some (mI M3 b7 8, M3)))
    else (
    if a2 = 6 then (
      bd (Hall_askLaw M3 a0 2) (fun r14 M15 =>
      ck (kO M15 b7 6 9) (
      bd (Person_need M15 b7 r14) (fun r17 M18 =>
      bd (Math_min_L M18 r17 2000000000) (fun r19 M20 =>
      some (Int64.toInt32 r19, M20))))))
    else (
    bd (Hall_isWithin M3 a2 10 (9 + (mI M3 a0 4))) (fun r21 M22 =>
    if r21 = 0 then (
      some ((-100000000), M22))
    else (
      ck (kO M22 b7 6 9) (
      nn (mR M22 b7 1) (fun b24 =>
      ck (kA M22 b24 20 (a2 - 10)) (
      some (mI M22 b24 (ix (a2 - 10)), M22))))))))))))))))))))
set_option maxRecDepth 100000 in
set_option maxHeartbeats 4000000 in
theorem s_Hall_told (G : Gx) (M : Mm) (a0 : Nat) (a1 : Int32) (a2 : Int32) : FnS G Y_Hall_told cvI 6 [.ref a0, .int a1, .int a2] M (Hall_told M a0 a1 a2) := by
  refine FnS.ofE (by decide) (Nat.le_of_ble_eq_true rfl) ?_
  show EJ G Y_Hall_told cvI 6 0 [(0, .ref a0), (1, .int a1), (2, .int a2)] [] M _
  unfold Hall_told
  refine EJ_aload_n 1 0 (dk_42 (bt bc_Hall_told_0 0 rfl)) rfl rfl ?_
  refine EJ_iload_n 2 1 (dk_27 (bt bc_Hall_told_0 1 rfl)) rfl rfl ?_
  refine EJ_ck (fun h1 => ?_)
  refine EJ_callVi (Y2 := Y_Hall_isPerson) 5 cf11 (s_Hall_isPerson G _ _ _) (of_decide_eq_true h1) rfl (dk_182 (bt bc_Hall_told_0 2 rfl) (bt bc_Hall_told_0 3 rfl) (bt bc_Hall_told_0 4 rfl) (n := 111) rfl) rfl tw_457 tw_459 ts_8 tw_460 hd_Hall_isPerson rfl (by decide) (Nat.le_of_ble_eq_true rfl) (fun r2 M3 => ?_)
  refine EJ_if_ne 11 8 (dk_154 (bt bc_Hall_told_0 5 rfl) (bt bc_Hall_told_0 6 rfl) (bt bc_Hall_told_0 7 rfl) (n := 6) rfl) (by decide) rfl (fun _ => ?_) (fun _ => ?_)
  · refine EJ_aload_n 12 0 (dk_42 (bt bc_Hall_told_0 11 rfl)) rfl rfl ?_
    refine EJ_ck (fun h4 => ?_)
    refine EJ_getR cf11 1 (by decide) 15 tw_201 (fun _ _ _ => rfl) (dk_180 (bt bc_Hall_told_0 12 rfl) (bt bc_Hall_told_0 13 rfl) (bt bc_Hall_told_0 14 rfl) (n := 18) rfl) rfl (of_decide_eq_true h4) (fun b5 => ?_)
    refine EJ_iload_n 16 1 (dk_27 (bt bc_Hall_told_0 15 rfl)) rfl rfl ?_
    refine EJ_ck (fun h6 => ?_)
    refine EJ_aald 4 17 (by decide) (by decide) rfl h6 (dk_50 (bt bc_Hall_told_0 16 rfl)) rfl (fun b7 => ?_)
    refine EJ_astore_n 18 (lv2 := [(3, .ref _), (0, .ref _), (1, .int _), (2, .int _)]) (dk_78 (bt bc_Hall_told_0 17 rfl)) rfl (by decide) rfl ?_
    refine EJ_iload_n 19 3 (dk_28 (bt bc_Hall_told_0 18 rfl)) rfl rfl ?_
    refine EJ_case 0 60 ds_Hall_told_19 (by decide) rfl (by decide) (fun _ => ?_) (fun hc19_0 => ?_)
    · refine EJ_aload_n 61 0 (dk_45 (bt bc_Hall_told_1 28 rfl)) rfl rfl ?_
      refine EJ_ck (fun h8 => ?_)
      refine EJ_getI cf6 0 (by decide) 64 tw_338 (fun _ _ _ => rfl) (dk_180 (bt bc_Hall_told_1 29 rfl) (bt bc_Hall_told_1 30 rfl) (bt bc_Hall_told_1 31 rfl) (n := 178) rfl) rfl (of_decide_eq_true h8) ?_
      exact EJ_iret rfl (dk_172 (bt bc_Hall_told_2 0 rfl))
    refine EJ_case 1 65 ds_Hall_told_19 (by decide) rfl (by decide) (fun _ => ?_) (fun hc19_1 => ?_)
    · refine EJ_aload_n 66 0 (dk_45 (bt bc_Hall_told_2 1 rfl)) rfl rfl ?_
      refine EJ_ck (fun h9 => ?_)
      refine EJ_getI cf6 4 (by decide) 69 tw_350 (fun _ _ _ => rfl) (dk_180 (bt bc_Hall_told_2 2 rfl) (bt bc_Hall_told_2 3 rfl) (bt bc_Hall_told_2 4 rfl) (n := 181) rfl) rfl (of_decide_eq_true h9) ?_
      exact EJ_iret rfl (dk_172 (bt bc_Hall_told_2 5 rfl))
    refine EJ_case 2 70 ds_Hall_told_19 (by decide) rfl (by decide) (fun _ => ?_) (fun hc19_2 => ?_)
    · refine EJ_aload_n 71 0 (dk_45 (bt bc_Hall_told_2 6 rfl)) rfl rfl ?_
      refine EJ_ck (fun h10 => ?_)
      refine EJ_getI cf6 5 (by decide) 74 tw_352 (fun _ _ _ => rfl) (dk_180 (bt bc_Hall_told_2 7 rfl) (bt bc_Hall_told_2 8 rfl) (bt bc_Hall_told_2 9 rfl) (n := 184) rfl) rfl (of_decide_eq_true h10) ?_
      exact EJ_iret rfl (dk_172 (bt bc_Hall_told_2 10 rfl))
    refine EJ_case 3 75 ds_Hall_told_19 (by decide) rfl (by decide) (fun _ => ?_) (fun hc19_3 => ?_)
    · refine EJ_aload_n 76 0 (dk_45 (bt bc_Hall_told_2 11 rfl)) rfl rfl ?_
      refine EJ_ck (fun h11 => ?_)
      refine EJ_getI cf6 6 (by decide) 79 tw_355 (fun _ _ _ => rfl) (dk_180 (bt bc_Hall_told_2 12 rfl) (bt bc_Hall_told_2 13 rfl) (bt bc_Hall_told_2 14 rfl) (n := 187) rfl) rfl (of_decide_eq_true h11) ?_
      exact EJ_iret rfl (dk_172 (bt bc_Hall_told_2 15 rfl))
    refine EJ_case 4 80 ds_Hall_told_19 (by decide) rfl (by decide) (fun _ => ?_) (fun hc19_4 => ?_)
    · refine EJ_aload_n 81 0 (dk_45 (bt bc_Hall_told_2 16 rfl)) rfl rfl ?_
      refine EJ_ck (fun h12 => ?_)
      refine EJ_getI cf6 7 (by decide) 84 tw_357 (fun _ _ _ => rfl) (dk_180 (bt bc_Hall_told_2 17 rfl) (bt bc_Hall_told_2 18 rfl) (bt bc_Hall_told_2 19 rfl) (n := 190) rfl) rfl (of_decide_eq_true h12) ?_
      exact EJ_iret rfl (dk_172 (bt bc_Hall_told_2 20 rfl))
    refine EJ_case 5 85 ds_Hall_told_19 (by decide) rfl (by decide) (fun _ => ?_) (fun hc19_5 => ?_)
    · refine EJ_aload_n 86 0 (dk_45 (bt bc_Hall_told_2 21 rfl)) rfl rfl ?_
      refine EJ_ck (fun h13 => ?_)
      refine EJ_getI cf6 8 (by decide) 89 tw_359 (fun _ _ _ => rfl) (dk_180 (bt bc_Hall_told_2 22 rfl) (bt bc_Hall_told_2 23 rfl) (bt bc_Hall_told_2 24 rfl) (n := 193) rfl) rfl (of_decide_eq_true h13) ?_
      exact EJ_iret rfl (dk_172 (bt bc_Hall_told_2 25 rfl))
    refine EJ_case 6 90 ds_Hall_told_19 (by decide) rfl (by decide) (fun _ => ?_) (fun hc19_6 => ?_)
    · refine EJ_aload_n 91 0 (dk_45 (bt bc_Hall_told_2 26 rfl)) rfl rfl ?_
      refine EJ_aload_n 92 1 (dk_42 (bt bc_Hall_told_2 27 rfl)) rfl rfl ?_
      refine EJ_iconst 93 (dk_5 (bt bc_Hall_told_2 28 rfl)) rfl (v := 2) kI_2 ?_
      refine EJ_callVi (Y2 := Y_Hall_askLaw) 96 cf11 (s_Hall_askLaw G _ _ _) (of_decide_eq_true h4) rfl (dk_182 (bt bc_Hall_told_2 29 rfl) (bt bc_Hall_told_2 30 rfl) (bt bc_Hall_told_2 31 rfl) (n := 147) rfl) rfl tw_499 tw_501 ts_10 tw_502 hd_Hall_askLaw rfl (by decide) (Nat.le_of_ble_eq_true rfl) (fun r14 M15 => ?_)
      refine EJ_ck (fun h16 => ?_)
      refine EJ_callVl (Y2 := Y_Person_need) 99 cf6 (s_Person_need G _ _ _) (of_decide_eq_true h16) rfl (dk_182 (bt bc_Hall_told_3 0 rfl) (bt bc_Hall_told_3 1 rfl) (bt bc_Hall_told_3 2 rfl) (n := 196) rfl) rfl tw_583 tw_584 tw_585 tw_586 hd_Person_need rfl (by decide) (Nat.le_of_ble_eq_true rfl) (fun r17 M18 => ?_)
      refine EJ_ldc2 102 (dk_20 (bt bc_Hall_told_3 3 rfl) (bt bc_Hall_told_3 4 rfl) (bt bc_Hall_told_3 5 rfl) (n := 200) rfl) rfl tw_590 ?_
      refine EJ_callSl (Y2 := Y_Math_min_L) 105 (s_Math_min_L G _ _ _) rfl (dk_184 (bt bc_Hall_told_3 6 rfl) (bt bc_Hall_told_3 7 rfl) (bt bc_Hall_told_3 8 rfl) (n := 202) rfl) rfl tw_591 tw_592 tw_9 tw_593 hd_Math_min_L rfl (by decide) (Nat.le_of_ble_eq_true rfl) (fun r19 M20 => ?_)
      refine EJ_l2i 106 (dk_136 (bt bc_Hall_told_3 9 rfl)) rfl ?_
      exact EJ_iret rfl (dk_172 (bt bc_Hall_told_3 10 rfl))
    refine EJ_tabOut 107 ds_Hall_told_19 (tabOut (fun k k1 k2 => by
        rcases (show k = 0 ∨ k = 1 ∨ k = 2 ∨ k = 3 ∨ k = 4 ∨ k = 5 ∨ k = 6 by omega) with rfl | rfl | rfl | rfl | rfl | rfl | rfl
        · exact hc19_0
        · exact hc19_1
        · exact hc19_2
        · exact hc19_3
        · exact hc19_4
        · exact hc19_5
        · exact hc19_6)) (by decide) ?_
    refine EJ_iload_n 108 3 (dk_28 (bt bc_Hall_told_3 11 rfl)) rfl rfl ?_
    refine EJ_bipush 110 (dk_16 (bt bc_Hall_told_3 12 rfl) (bt bc_Hall_told_3 13 rfl) (n := 10) rfl) rfl (v := 10) kB_10 ?_
    refine EJ_bipush 112 (dk_16 (bt bc_Hall_told_3 14 rfl) (bt bc_Hall_told_3 15 rfl) (n := 9) rfl) rfl (v := 9) kB_9 ?_
    refine EJ_aload_n 113 1 (dk_42 (bt bc_Hall_told_3 16 rfl)) rfl rfl ?_
    refine EJ_getI cf11 4 (by decide) 116 tw_204 (fun _ _ _ => rfl) (dk_180 (bt bc_Hall_told_3 17 rfl) (bt bc_Hall_told_3 18 rfl) (bt bc_Hall_told_3 19 rfl) (n := 104) rfl) rfl (of_decide_eq_true h4) ?_
    refine EJ_iadd 117 (dk_96 (bt bc_Hall_told_3 20 rfl)) rfl ?_
    refine EJ_callSi (Y2 := Y_Hall_isWithin) 120 (s_Hall_isWithin G _ _ _ _) rfl (dk_184 (bt bc_Hall_told_3 21 rfl) (bt bc_Hall_told_3 22 rfl) (bt bc_Hall_told_3 23 rfl) (n := 80) rfl) rfl tw_292 tw_276 tw_1 tw_277 hd_Hall_isWithin rfl (by decide) (Nat.le_of_ble_eq_true rfl) (fun r21 M22 => ?_)
    refine EJ_if_eq 135 123 (dk_153 (bt bc_Hall_told_3 24 rfl) (bt bc_Hall_told_3 25 rfl) (bt bc_Hall_told_3 26 rfl) (n := 15) rfl) (by decide) rfl (fun _ => ?_) (fun _ => ?_)
    · refine EJ_ldc 137 (dk_18 (bt bc_Hall_told_4 7 rfl) (bt bc_Hall_told_4 8 rfl)) rfl tw_582 ?_
      exact EJ_iret rfl (dk_172 (bt bc_Hall_told_4 9 rfl))
    · refine EJ_aload_n 124 0 (dk_45 (bt bc_Hall_told_3 27 rfl)) rfl rfl ?_
      refine EJ_ck (fun h23 => ?_)
      refine EJ_getR cf6 1 (by decide) 127 tw_341 (fun _ _ _ => rfl) (dk_180 (bt bc_Hall_told_3 28 rfl) (bt bc_Hall_told_3 29 rfl) (bt bc_Hall_told_3 30 rfl) (n := 117) rfl) rfl (of_decide_eq_true h23) (fun b24 => ?_)
      refine EJ_iload_n 128 3 (dk_28 (bt bc_Hall_told_3 31 rfl)) rfl rfl ?_
      refine EJ_bipush 130 (dk_16 (bt bc_Hall_told_4 0 rfl) (bt bc_Hall_told_4 1 rfl) (n := 10) rfl) rfl (v := 10) kB_10 ?_
      refine EJ_isub 131 (dk_100 (bt bc_Hall_told_4 2 rfl)) rfl ?_
      refine EJ_ck (fun h25 => ?_)
      refine EJ_iald 132 h25 (dk_46 (bt bc_Hall_told_4 3 rfl)) rfl ?_
      refine EJ_goto 137 (dk_167 (bt bc_Hall_told_4 4 rfl) (bt bc_Hall_told_4 5 rfl) (bt bc_Hall_told_4 6 rfl) (n := 5) rfl) (by decide) ?_
      exact EJ_iret rfl (dk_172 (bt bc_Hall_told_4 9 rfl))
  · refine EJ_ldc 10 (dk_18 (bt bc_Hall_told_0 8 rfl) (bt bc_Hall_told_0 9 rfl)) rfl tw_582 ?_
    exact EJ_iret rfl (dk_172 (bt bc_Hall_told_0 10 rfl))
abbrev Y_Hall_coins : Ym := (⟨"RiceHall", "coins", "(I)J"⟩, prog_1_method_17_code, 2, (some FieldType.long))
theorem bc_Hall_coins_0 : bts prog_1_method_17_code 0 [27, 2, 160, 0, 11, 42, 180, 0, 42, 180, 0, 208, 173, 42, 27, 182, 0, 111, 153, 0, 15, 42, 180, 0, 18, 27, 50, 180, 0, 212, 167, 0] := bts_of (by decide +kernel)
theorem bc_Hall_coins_1 : bts prog_1_method_17_code 32 [6, 20, 0, 215, 173] := bts_of (by decide +kernel)
theorem hd_Hall_coins : Y_Hall_coins.1.cls = RX11 ∧ Y_Hall_coins.1.cls ≠ "java/lang/invoke/MethodHandle" ∧ Y_Hall_coins.1.cls ≠ "java/lang/invoke/VarHandle" ∧ (parseMethodDescriptor Y_Hall_coins.1.desc).map (fun d => d.parameters.length) = some 1 := by decide +kernel
def Hall_coins (M : Mm) (a0 : Nat) (a1 : Int32) : Option (Int64 × Mm) :=
  if a1 = (-1) then (
    ck (kO M a0 11 18) (
    nn (mR M a0 10) (fun b10 =>
    ck (kO M b10 3 7) (
    some (mL M b10 4, M)))))
  else (
    ck (kO M a0 11 18) (
    bd (Hall_isPerson M a0 a1) (fun r2 M3 =>
    if r2 = 0 then (
      some ((-1000000000000), M3))
    else (
      ck (kO M3 a0 11 18) (
      nn (mR M3 a0 1) (fun b5 =>
      ck (kA M3 b5 24 a1) (
      nn (mR M3 b5 (ix a1)) (fun b7 =>
      ck (kO M3 b7 6 9) (
      some (mL M3 b7 3, M3))))))))))
set_option maxRecDepth 100000 in
set_option maxHeartbeats 4000000 in
theorem s_Hall_coins (G : Gx) (M : Mm) (a0 : Nat) (a1 : Int32) : FnS G Y_Hall_coins cvL 2 [.ref a0, .int a1] M (Hall_coins M a0 a1) := by
  refine FnS.ofE (by decide) (Nat.le_of_ble_eq_true rfl) ?_
  show EJ G Y_Hall_coins cvL 2 0 [(0, .ref a0), (1, .int a1)] [] M _
  unfold Hall_coins
  refine EJ_iload_n 1 1 (dk_27 (bt bc_Hall_coins_0 0 rfl)) rfl rfl ?_
  refine EJ_iconst 2 (dk_2 (bt bc_Hall_coins_0 1 rfl)) rfl (v := (-1)) kI_m1 ?_
  refine EJ_icmp_ne 13 5 (dk_160 (bt bc_Hall_coins_0 2 rfl) (bt bc_Hall_coins_0 3 rfl) (bt bc_Hall_coins_0 4 rfl) (n := 11) rfl) (by decide) rfl (fun _ => ?_) (fun _ => ?_)
  · refine EJ_aload_n 14 0 (dk_42 (bt bc_Hall_coins_0 13 rfl)) rfl rfl ?_
    refine EJ_iload_n 15 1 (dk_27 (bt bc_Hall_coins_0 14 rfl)) rfl rfl ?_
    refine EJ_ck (fun h1 => ?_)
    refine EJ_callVi (Y2 := Y_Hall_isPerson) 18 cf11 (s_Hall_isPerson G _ _ _) (of_decide_eq_true h1) rfl (dk_182 (bt bc_Hall_coins_0 15 rfl) (bt bc_Hall_coins_0 16 rfl) (bt bc_Hall_coins_0 17 rfl) (n := 111) rfl) rfl tw_457 tw_459 ts_8 tw_460 hd_Hall_isPerson rfl (by decide) (Nat.le_of_ble_eq_true rfl) (fun r2 M3 => ?_)
    refine EJ_if_eq 33 21 (dk_153 (bt bc_Hall_coins_0 18 rfl) (bt bc_Hall_coins_0 19 rfl) (bt bc_Hall_coins_0 20 rfl) (n := 15) rfl) (by decide) rfl (fun _ => ?_) (fun _ => ?_)
    · refine EJ_ldc2 36 (dk_20 (bt bc_Hall_coins_1 1 rfl) (bt bc_Hall_coins_1 2 rfl) (bt bc_Hall_coins_1 3 rfl) (n := 215) rfl) rfl tw_598 ?_
      exact EJ_lret rfl (dk_173 (bt bc_Hall_coins_1 4 rfl))
    · refine EJ_aload_n 22 0 (dk_42 (bt bc_Hall_coins_0 21 rfl)) rfl rfl ?_
      refine EJ_ck (fun h4 => ?_)
      refine EJ_getR cf11 1 (by decide) 25 tw_201 (fun _ _ _ => rfl) (dk_180 (bt bc_Hall_coins_0 22 rfl) (bt bc_Hall_coins_0 23 rfl) (bt bc_Hall_coins_0 24 rfl) (n := 18) rfl) rfl (of_decide_eq_true h4) (fun b5 => ?_)
      refine EJ_iload_n 26 1 (dk_27 (bt bc_Hall_coins_0 25 rfl)) rfl rfl ?_
      refine EJ_ck (fun h6 => ?_)
      refine EJ_aald 4 27 (by decide) (by decide) rfl h6 (dk_50 (bt bc_Hall_coins_0 26 rfl)) rfl (fun b7 => ?_)
      refine EJ_ck (fun h8 => ?_)
      refine EJ_getL cf6 3 (by decide) 30 tw_347 (fun _ _ _ => rfl) (dk_180 (bt bc_Hall_coins_0 27 rfl) (bt bc_Hall_coins_0 28 rfl) (bt bc_Hall_coins_0 29 rfl) (n := 212) rfl) rfl (of_decide_eq_true h8) ?_
      refine EJ_goto 36 (dk_167 (bt bc_Hall_coins_0 30 rfl) (bt bc_Hall_coins_0 31 rfl) (bt bc_Hall_coins_1 0 rfl) (n := 6) rfl) (by decide) ?_
      exact EJ_lret rfl (dk_173 (bt bc_Hall_coins_1 4 rfl))
  · refine EJ_aload_n 6 0 (dk_42 (bt bc_Hall_coins_0 5 rfl)) rfl rfl ?_
    refine EJ_ck (fun h9 => ?_)
    refine EJ_getR cf11 10 (by decide) 9 tw_210 (fun _ _ _ => rfl) (dk_180 (bt bc_Hall_coins_0 6 rfl) (bt bc_Hall_coins_0 7 rfl) (bt bc_Hall_coins_0 8 rfl) (n := 42) rfl) rfl (of_decide_eq_true h9) (fun b10 => ?_)
    refine EJ_ck (fun h11 => ?_)
    refine EJ_getL cf3 4 (by decide) 12 tw_153 (fun _ _ _ => rfl) (dk_180 (bt bc_Hall_coins_0 9 rfl) (bt bc_Hall_coins_0 10 rfl) (bt bc_Hall_coins_0 11 rfl) (n := 208) rfl) rfl (of_decide_eq_true h11) ?_
    exact EJ_lret rfl (dk_173 (bt bc_Hall_coins_0 12 rfl))
abbrev Y_Hall_pay : Ym := (⟨"RiceHall", "pay", "(II)Z"⟩, prog_1_method_18_code, 3, (some FieldType.boolean))
theorem bc_Hall_pay_0 : bts prog_1_method_18_code 0 [42, 27, 182, 0, 111, 153, 0, 13, 28, 4, 18, 146, 184, 0, 80, 154, 0, 5, 3, 172, 42, 180, 0, 18, 27, 50, 89, 180, 0, 212, 28, 133] := bts_of (by decide +kernel)
theorem bc_Hall_pay_1 : bts prog_1_method_18_code 32 [97, 181, 0, 212, 42, 180, 0, 42, 89, 180, 0, 217, 28, 133, 97, 181, 0, 217, 4, 172] := bts_of (by decide +kernel)
theorem hd_Hall_pay : Y_Hall_pay.1.cls = RX11 ∧ Y_Hall_pay.1.cls ≠ "java/lang/invoke/MethodHandle" ∧ Y_Hall_pay.1.cls ≠ "java/lang/invoke/VarHandle" ∧ (parseMethodDescriptor Y_Hall_pay.1.desc).map (fun d => d.parameters.length) = some 2 := by decide +kernel
def Hall_pay (M : Mm) (a0 : Nat) (a1 : Int32) (a2 : Int32) : Option (Int32 × Mm) :=
  ck (kO M a0 11 18) (
  bd (Hall_isPerson M a0 a1) (fun r2 M3 =>
  if r2 = 0 then (
    some (0, M3))
  else (
    bd (Hall_isWithin M3 a2 1 99999) (fun r4 M5 =>
    if r4 = 0 then (
      some (0, M5))
    else (
      ck (kO M5 a0 11 18) (
      nn (mR M5 a0 1) (fun b7 =>
      ck (kA M5 b7 24 a1) (
      nn (mR M5 b7 (ix a1)) (fun b9 =>
      ck (kO M5 b9 6 9) (
      let M11 := sL M5 b9 3 ((mL M5 b9 3) + (Int32.toInt64 a2))
      nn (mR M11 a0 10) (fun b12 =>
      ck (kO M11 b12 3 7) (
      let M14 := sL M11 b12 5 ((mL M11 b12 5) + (Int32.toInt64 a2))
      some (1, M14)))))))))))))
set_option maxRecDepth 100000 in
set_option maxHeartbeats 4000000 in
theorem s_Hall_pay (G : Gx) (M : Mm) (a0 : Nat) (a1 : Int32) (a2 : Int32) : FnS G Y_Hall_pay cvI 2 [.ref a0, .int a1, .int a2] M (Hall_pay M a0 a1 a2) := by
  refine FnS.ofE (by decide) (Nat.le_of_ble_eq_true rfl) ?_
  show EJ G Y_Hall_pay cvI 2 0 [(0, .ref a0), (1, .int a1), (2, .int a2)] [] M _
  unfold Hall_pay
  refine EJ_aload_n 1 0 (dk_42 (bt bc_Hall_pay_0 0 rfl)) rfl rfl ?_
  refine EJ_iload_n 2 1 (dk_27 (bt bc_Hall_pay_0 1 rfl)) rfl rfl ?_
  refine EJ_ck (fun h1 => ?_)
  refine EJ_callVi (Y2 := Y_Hall_isPerson) 5 cf11 (s_Hall_isPerson G _ _ _) (of_decide_eq_true h1) rfl (dk_182 (bt bc_Hall_pay_0 2 rfl) (bt bc_Hall_pay_0 3 rfl) (bt bc_Hall_pay_0 4 rfl) (n := 111) rfl) rfl tw_457 tw_459 ts_8 tw_460 hd_Hall_isPerson rfl (by decide) (Nat.le_of_ble_eq_true rfl) (fun r2 M3 => ?_)
  refine EJ_if_eq 18 8 (dk_153 (bt bc_Hall_pay_0 5 rfl) (bt bc_Hall_pay_0 6 rfl) (bt bc_Hall_pay_0 7 rfl) (n := 13) rfl) (by decide) rfl (fun _ => ?_) (fun _ => ?_)
  · refine EJ_iconst 19 (dk_3 (bt bc_Hall_pay_0 18 rfl)) rfl (v := 0) kI_0 ?_
    exact EJ_zret rfl (by decide) (dk_172 (bt bc_Hall_pay_0 19 rfl))
  · refine EJ_iload_n 9 2 (dk_28 (bt bc_Hall_pay_0 8 rfl)) rfl rfl ?_
    refine EJ_iconst 10 (dk_4 (bt bc_Hall_pay_0 9 rfl)) rfl (v := 1) kI_1 ?_
    refine EJ_ldc 12 (dk_18 (bt bc_Hall_pay_0 10 rfl) (bt bc_Hall_pay_0 11 rfl)) rfl tw_494 ?_
    refine EJ_callSi (Y2 := Y_Hall_isWithin) 15 (s_Hall_isWithin G _ _ _ _) rfl (dk_184 (bt bc_Hall_pay_0 12 rfl) (bt bc_Hall_pay_0 13 rfl) (bt bc_Hall_pay_0 14 rfl) (n := 80) rfl) rfl tw_292 tw_276 tw_1 tw_277 hd_Hall_isWithin rfl (by decide) (Nat.le_of_ble_eq_true rfl) (fun r4 M5 => ?_)
    refine EJ_if_ne 20 18 (dk_154 (bt bc_Hall_pay_0 15 rfl) (bt bc_Hall_pay_0 16 rfl) (bt bc_Hall_pay_0 17 rfl) (n := 5) rfl) (by decide) rfl (fun _ => ?_) (fun _ => ?_)
    · refine EJ_aload_n 21 0 (dk_42 (bt bc_Hall_pay_0 20 rfl)) rfl rfl ?_
      refine EJ_ck (fun h6 => ?_)
      refine EJ_getR cf11 1 (by decide) 24 tw_201 (fun _ _ _ => rfl) (dk_180 (bt bc_Hall_pay_0 21 rfl) (bt bc_Hall_pay_0 22 rfl) (bt bc_Hall_pay_0 23 rfl) (n := 18) rfl) rfl (of_decide_eq_true h6) (fun b7 => ?_)
      refine EJ_iload_n 25 1 (dk_27 (bt bc_Hall_pay_0 24 rfl)) rfl rfl ?_
      refine EJ_ck (fun h8 => ?_)
      refine EJ_aald 4 26 (by decide) (by decide) rfl h8 (dk_50 (bt bc_Hall_pay_0 25 rfl)) rfl (fun b9 => ?_)
      refine EJ_dup 27 (dk_89 (bt bc_Hall_pay_0 26 rfl)) rfl rfl ?_
      refine EJ_ck (fun h10 => ?_)
      refine EJ_getL cf6 3 (by decide) 30 tw_347 (fun _ _ _ => rfl) (dk_180 (bt bc_Hall_pay_0 27 rfl) (bt bc_Hall_pay_0 28 rfl) (bt bc_Hall_pay_0 29 rfl) (n := 212) rfl) rfl (of_decide_eq_true h10) ?_
      refine EJ_iload_n 31 2 (dk_28 (bt bc_Hall_pay_0 30 rfl)) rfl rfl ?_
      refine EJ_i2l 32 (dk_133 (bt bc_Hall_pay_0 31 rfl)) rfl ?_
      refine EJ_ladd 33 (dk_97 (bt bc_Hall_pay_1 0 rfl)) rfl ?_
      refine EJ_putL cf6 3 (by decide) 36 tw_347 rfl (Or.inl rfl) (dk_181 (bt bc_Hall_pay_1 1 rfl) (bt bc_Hall_pay_1 2 rfl) (bt bc_Hall_pay_1 3 rfl) (n := 212) rfl) rfl (of_decide_eq_true h10) ?_
      refine EJ_aload_n 37 0 (dk_42 (bt bc_Hall_pay_1 4 rfl)) rfl rfl ?_
      refine EJ_getR cf11 10 (by decide) 40 tw_210 (fun _ _ _ => rfl) (dk_180 (bt bc_Hall_pay_1 5 rfl) (bt bc_Hall_pay_1 6 rfl) (bt bc_Hall_pay_1 7 rfl) (n := 42) rfl) rfl (kp_L (of_decide_eq_true h6)) (fun b12 => ?_)
      refine EJ_dup 41 (dk_89 (bt bc_Hall_pay_1 8 rfl)) rfl rfl ?_
      refine EJ_ck (fun h13 => ?_)
      refine EJ_getL cf3 5 (by decide) 44 tw_154 (fun _ _ _ => rfl) (dk_180 (bt bc_Hall_pay_1 9 rfl) (bt bc_Hall_pay_1 10 rfl) (bt bc_Hall_pay_1 11 rfl) (n := 217) rfl) rfl (of_decide_eq_true h13) ?_
      refine EJ_iload_n 45 2 (dk_28 (bt bc_Hall_pay_1 12 rfl)) rfl rfl ?_
      refine EJ_i2l 46 (dk_133 (bt bc_Hall_pay_1 13 rfl)) rfl ?_
      refine EJ_ladd 47 (dk_97 (bt bc_Hall_pay_1 14 rfl)) rfl ?_
      refine EJ_putL cf3 5 (by decide) 50 tw_154 rfl (Or.inl rfl) (dk_181 (bt bc_Hall_pay_1 15 rfl) (bt bc_Hall_pay_1 16 rfl) (bt bc_Hall_pay_1 17 rfl) (n := 217) rfl) rfl (of_decide_eq_true h13) ?_
      refine EJ_iconst 51 (dk_4 (bt bc_Hall_pay_1 18 rfl)) rfl (v := 1) kI_1 ?_
      exact EJ_zret rfl (by decide) (dk_172 (bt bc_Hall_pay_1 19 rfl))
    · refine EJ_iconst 19 (dk_3 (bt bc_Hall_pay_0 18 rfl)) rfl (v := 0) kI_0 ?_
      exact EJ_zret rfl (by decide) (dk_172 (bt bc_Hall_pay_0 19 rfl))
abbrev Y_Hall_draw : Ym := (⟨"RiceHall", "draw", "(II)Z"⟩, prog_1_method_19_code, 4, (some FieldType.boolean))
theorem bc_Hall_draw_0 : bts prog_1_method_19_code 0 [42, 27, 182, 0, 111, 153, 0, 13, 28, 4, 18, 146, 184, 0, 80, 154, 0, 5, 3, 172, 42, 180, 0, 18, 27, 50, 78, 45, 180, 0, 212, 28] := bts_of (by decide +kernel)
theorem bc_Hall_draw_1 : bts prog_1_method_19_code 32 [133, 101, 45, 42, 5, 182, 0, 147, 182, 0, 196, 148, 156, 0, 5, 3, 172, 45, 89, 180, 0, 212, 28, 133, 101, 181, 0, 212, 42, 180, 0, 42] := bts_of (by decide +kernel)
theorem bc_Hall_draw_2 : bts prog_1_method_19_code 64 [89, 180, 0, 220, 28, 133, 97, 181, 0, 220, 4, 172] := bts_of (by decide +kernel)
theorem hd_Hall_draw : Y_Hall_draw.1.cls = RX11 ∧ Y_Hall_draw.1.cls ≠ "java/lang/invoke/MethodHandle" ∧ Y_Hall_draw.1.cls ≠ "java/lang/invoke/VarHandle" ∧ (parseMethodDescriptor Y_Hall_draw.1.desc).map (fun d => d.parameters.length) = some 2 := by decide +kernel
def Hall_draw (M : Mm) (a0 : Nat) (a1 : Int32) (a2 : Int32) : Option (Int32 × Mm) :=
  ck (kO M a0 11 18) (
  bd (Hall_isPerson M a0 a1) (fun r2 M3 =>
  if r2 = 0 then (
    some (0, M3))
  else (
    bd (Hall_isWithin M3 a2 1 99999) (fun r4 M5 =>
    if r4 = 0 then (
      some (0, M5))
    else (
      ck (kO M5 a0 11 18) (
      nn (mR M5 a0 1) (fun b7 =>
      ck (kA M5 b7 24 a1) (
      nn (mR M5 b7 (ix a1)) (fun b9 =>
      ck (kO M5 b9 6 9) (
      bd (Hall_askLaw M5 a0 2) (fun r11 M12 =>
      ck (kO M12 b9 6 9) (
      bd (Person_need M12 b9 r11) (fun r14 M15 =>
      if r14 ≤ ((mL M5 b9 3) - (Int32.toInt64 a2)) then (
        ck (kO M15 b9 6 9) (
        let M17 := sL M15 b9 3 ((mL M15 b9 3) - (Int32.toInt64 a2))
        ck (kO M17 a0 11 18) (
        nn (mR M17 a0 10) (fun b19 =>
        ck (kO M17 b19 3 7) (
        let M21 := sL M17 b19 6 ((mL M17 b19 6) + (Int32.toInt64 a2))
        some (1, M21))))))
      else (
        some (0, M15)))))))))))))))
set_option maxRecDepth 100000 in
set_option maxHeartbeats 4000000 in
theorem s_Hall_draw (G : Gx) (M : Mm) (a0 : Nat) (a1 : Int32) (a2 : Int32) : FnS G Y_Hall_draw cvI 6 [.ref a0, .int a1, .int a2] M (Hall_draw M a0 a1 a2) := by
  refine FnS.ofE (by decide) (Nat.le_of_ble_eq_true rfl) ?_
  show EJ G Y_Hall_draw cvI 6 0 [(0, .ref a0), (1, .int a1), (2, .int a2)] [] M _
  unfold Hall_draw
  refine EJ_aload_n 1 0 (dk_42 (bt bc_Hall_draw_0 0 rfl)) rfl rfl ?_
  refine EJ_iload_n 2 1 (dk_27 (bt bc_Hall_draw_0 1 rfl)) rfl rfl ?_
  refine EJ_ck (fun h1 => ?_)
  refine EJ_callVi (Y2 := Y_Hall_isPerson) 5 cf11 (s_Hall_isPerson G _ _ _) (of_decide_eq_true h1) rfl (dk_182 (bt bc_Hall_draw_0 2 rfl) (bt bc_Hall_draw_0 3 rfl) (bt bc_Hall_draw_0 4 rfl) (n := 111) rfl) rfl tw_457 tw_459 ts_8 tw_460 hd_Hall_isPerson rfl (by decide) (Nat.le_of_ble_eq_true rfl) (fun r2 M3 => ?_)
  refine EJ_if_eq 18 8 (dk_153 (bt bc_Hall_draw_0 5 rfl) (bt bc_Hall_draw_0 6 rfl) (bt bc_Hall_draw_0 7 rfl) (n := 13) rfl) (by decide) rfl (fun _ => ?_) (fun _ => ?_)
  · refine EJ_iconst 19 (dk_3 (bt bc_Hall_draw_0 18 rfl)) rfl (v := 0) kI_0 ?_
    exact EJ_zret rfl (by decide) (dk_172 (bt bc_Hall_draw_0 19 rfl))
  · refine EJ_iload_n 9 2 (dk_28 (bt bc_Hall_draw_0 8 rfl)) rfl rfl ?_
    refine EJ_iconst 10 (dk_4 (bt bc_Hall_draw_0 9 rfl)) rfl (v := 1) kI_1 ?_
    refine EJ_ldc 12 (dk_18 (bt bc_Hall_draw_0 10 rfl) (bt bc_Hall_draw_0 11 rfl)) rfl tw_494 ?_
    refine EJ_callSi (Y2 := Y_Hall_isWithin) 15 (s_Hall_isWithin G _ _ _ _) rfl (dk_184 (bt bc_Hall_draw_0 12 rfl) (bt bc_Hall_draw_0 13 rfl) (bt bc_Hall_draw_0 14 rfl) (n := 80) rfl) rfl tw_292 tw_276 tw_1 tw_277 hd_Hall_isWithin rfl (by decide) (Nat.le_of_ble_eq_true rfl) (fun r4 M5 => ?_)
    refine EJ_if_ne 20 18 (dk_154 (bt bc_Hall_draw_0 15 rfl) (bt bc_Hall_draw_0 16 rfl) (bt bc_Hall_draw_0 17 rfl) (n := 5) rfl) (by decide) rfl (fun _ => ?_) (fun _ => ?_)
    · refine EJ_aload_n 21 0 (dk_42 (bt bc_Hall_draw_0 20 rfl)) rfl rfl ?_
      refine EJ_ck (fun h6 => ?_)
      refine EJ_getR cf11 1 (by decide) 24 tw_201 (fun _ _ _ => rfl) (dk_180 (bt bc_Hall_draw_0 21 rfl) (bt bc_Hall_draw_0 22 rfl) (bt bc_Hall_draw_0 23 rfl) (n := 18) rfl) rfl (of_decide_eq_true h6) (fun b7 => ?_)
      refine EJ_iload_n 25 1 (dk_27 (bt bc_Hall_draw_0 24 rfl)) rfl rfl ?_
      refine EJ_ck (fun h8 => ?_)
      refine EJ_aald 4 26 (by decide) (by decide) rfl h8 (dk_50 (bt bc_Hall_draw_0 25 rfl)) rfl (fun b9 => ?_)
      refine EJ_astore_n 27 (lv2 := [(3, .ref _), (0, .ref _), (1, .int _), (2, .int _)]) (dk_78 (bt bc_Hall_draw_0 26 rfl)) rfl (by decide) rfl ?_
      refine EJ_aload_n 28 0 (dk_45 (bt bc_Hall_draw_0 27 rfl)) rfl rfl ?_
      refine EJ_ck (fun h10 => ?_)
      refine EJ_getL cf6 3 (by decide) 31 tw_347 (fun _ _ _ => rfl) (dk_180 (bt bc_Hall_draw_0 28 rfl) (bt bc_Hall_draw_0 29 rfl) (bt bc_Hall_draw_0 30 rfl) (n := 212) rfl) rfl (of_decide_eq_true h10) ?_
      refine EJ_iload_n 32 3 (dk_28 (bt bc_Hall_draw_0 31 rfl)) rfl rfl ?_
      refine EJ_i2l 33 (dk_133 (bt bc_Hall_draw_1 0 rfl)) rfl ?_
      refine EJ_lsub 34 (dk_101 (bt bc_Hall_draw_1 1 rfl)) rfl ?_
      refine EJ_aload_n 35 0 (dk_45 (bt bc_Hall_draw_1 2 rfl)) rfl rfl ?_
      refine EJ_aload_n 36 1 (dk_42 (bt bc_Hall_draw_1 3 rfl)) rfl rfl ?_
      refine EJ_iconst 37 (dk_5 (bt bc_Hall_draw_1 4 rfl)) rfl (v := 2) kI_2 ?_
      refine EJ_callVi (Y2 := Y_Hall_askLaw) 40 cf11 (s_Hall_askLaw G _ _ _) (of_decide_eq_true h6) rfl (dk_182 (bt bc_Hall_draw_1 5 rfl) (bt bc_Hall_draw_1 6 rfl) (bt bc_Hall_draw_1 7 rfl) (n := 147) rfl) rfl tw_499 tw_501 ts_10 tw_502 hd_Hall_askLaw rfl (by decide) (Nat.le_of_ble_eq_true rfl) (fun r11 M12 => ?_)
      refine EJ_ck (fun h13 => ?_)
      refine EJ_callVl (Y2 := Y_Person_need) 43 cf6 (s_Person_need G _ _ _) (of_decide_eq_true h13) rfl (dk_182 (bt bc_Hall_draw_1 8 rfl) (bt bc_Hall_draw_1 9 rfl) (bt bc_Hall_draw_1 10 rfl) (n := 196) rfl) rfl tw_583 tw_584 tw_585 tw_586 hd_Person_need rfl (by decide) (Nat.le_of_ble_eq_true rfl) (fun r14 M15 => ?_)
      refine EJ_lcmp_ge 49 47 (dk_148 (bt bc_Hall_draw_1 11 rfl)) (dk_156 (bt bc_Hall_draw_1 12 rfl) (bt bc_Hall_draw_1 13 rfl) (bt bc_Hall_draw_1 14 rfl) (n := 5) rfl) (by decide) rfl (fun _ => ?_) (fun _ => ?_)
      · refine EJ_aload_n 50 0 (dk_45 (bt bc_Hall_draw_1 17 rfl)) rfl rfl ?_
        refine EJ_dup 51 (dk_89 (bt bc_Hall_draw_1 18 rfl)) rfl rfl ?_
        refine EJ_ck (fun h16 => ?_)
        refine EJ_getL cf6 3 (by decide) 54 tw_347 (fun _ _ _ => rfl) (dk_180 (bt bc_Hall_draw_1 19 rfl) (bt bc_Hall_draw_1 20 rfl) (bt bc_Hall_draw_1 21 rfl) (n := 212) rfl) rfl (of_decide_eq_true h16) ?_
        refine EJ_iload_n 55 3 (dk_28 (bt bc_Hall_draw_1 22 rfl)) rfl rfl ?_
        refine EJ_i2l 56 (dk_133 (bt bc_Hall_draw_1 23 rfl)) rfl ?_
        refine EJ_lsub 57 (dk_101 (bt bc_Hall_draw_1 24 rfl)) rfl ?_
        refine EJ_putL cf6 3 (by decide) 60 tw_347 rfl (Or.inl rfl) (dk_181 (bt bc_Hall_draw_1 25 rfl) (bt bc_Hall_draw_1 26 rfl) (bt bc_Hall_draw_1 27 rfl) (n := 212) rfl) rfl (of_decide_eq_true h16) ?_
        refine EJ_aload_n 61 1 (dk_42 (bt bc_Hall_draw_1 28 rfl)) rfl rfl ?_
        refine EJ_ck (fun h18 => ?_)
        refine EJ_getR cf11 10 (by decide) 64 tw_210 (fun _ _ _ => rfl) (dk_180 (bt bc_Hall_draw_1 29 rfl) (bt bc_Hall_draw_1 30 rfl) (bt bc_Hall_draw_1 31 rfl) (n := 42) rfl) rfl (of_decide_eq_true h18) (fun b19 => ?_)
        refine EJ_dup 65 (dk_89 (bt bc_Hall_draw_2 0 rfl)) rfl rfl ?_
        refine EJ_ck (fun h20 => ?_)
        refine EJ_getL cf3 6 (by decide) 68 tw_155 (fun _ _ _ => rfl) (dk_180 (bt bc_Hall_draw_2 1 rfl) (bt bc_Hall_draw_2 2 rfl) (bt bc_Hall_draw_2 3 rfl) (n := 220) rfl) rfl (of_decide_eq_true h20) ?_
        refine EJ_iload_n 69 3 (dk_28 (bt bc_Hall_draw_2 4 rfl)) rfl rfl ?_
        refine EJ_i2l 70 (dk_133 (bt bc_Hall_draw_2 5 rfl)) rfl ?_
        refine EJ_ladd 71 (dk_97 (bt bc_Hall_draw_2 6 rfl)) rfl ?_
        refine EJ_putL cf3 6 (by decide) 74 tw_155 rfl (Or.inl rfl) (dk_181 (bt bc_Hall_draw_2 7 rfl) (bt bc_Hall_draw_2 8 rfl) (bt bc_Hall_draw_2 9 rfl) (n := 220) rfl) rfl (of_decide_eq_true h20) ?_
        refine EJ_iconst 75 (dk_4 (bt bc_Hall_draw_2 10 rfl)) rfl (v := 1) kI_1 ?_
        exact EJ_zret rfl (by decide) (dk_172 (bt bc_Hall_draw_2 11 rfl))
      · refine EJ_iconst 48 (dk_3 (bt bc_Hall_draw_1 15 rfl)) rfl (v := 0) kI_0 ?_
        exact EJ_zret rfl (by decide) (dk_172 (bt bc_Hall_draw_1 16 rfl))
    · refine EJ_iconst 19 (dk_3 (bt bc_Hall_draw_0 18 rfl)) rfl (v := 0) kI_0 ?_
      exact EJ_zret rfl (by decide) (dk_172 (bt bc_Hall_draw_0 19 rfl))
abbrev Y_Hall_addBytes : Ym := (⟨"RiceHall", "addBytes", "(I)V"⟩, prog_1_method_50_code, 3, none)
theorem bc_Hall_addBytes_0 : bts prog_1_method_50_code 0 [16, 24, 61, 28, 155, 0, 42, 42, 180, 0, 223, 17, 1, 244, 162, 0, 32, 42, 180, 0, 28, 42, 180, 0, 223, 27, 28, 122, 145, 84, 42, 89] := bts_of (by decide +kernel)
theorem bc_Hall_addBytes_1 : bts prog_1_method_50_code 32 [180, 0, 223, 4, 96, 181, 0, 223, 132, 2, 248, 167, 255, 216, 177] := bts_of (by decide +kernel)
theorem hd_Hall_addBytes : Y_Hall_addBytes.1.cls = RX11 ∧ Y_Hall_addBytes.1.cls ≠ "java/lang/invoke/MethodHandle" ∧ Y_Hall_addBytes.1.cls ≠ "java/lang/invoke/VarHandle" ∧ (parseMethodDescriptor Y_Hall_addBytes.1.desc).map (fun d => d.parameters.length) = some 1 := by decide +kernel
def Hall_addBytes_B3 (k3 : Nat → Int32 → Int32 → Mm → Option (Unit × Mm)) (x0 : Nat) (x1 : Int32) (x2 : Int32) (M : Mm) : Option (Unit × Mm) :=
  if x2 < 0 then (
    some ((), M))
  else (
    ck (kO M x0 11 18) (
    if 500 ≤ (mI M x0 8) then (
      some ((), M))
    else (
      nn (mR M x0 7) (fun b2 =>
      ck (kA M b2 21 (mI M x0 8)) (
      let M4 := sI M b2 (ix (mI M x0 8)) (i2b (x1 >>> (x2 &&& 31)))
      let M5 := sI M4 x0 8 ((mI M4 x0 8) + 1)
      let v6 : Int32 := x2 + (-8)
      k3 x0 x1 v6 M5)))))
set_option maxRecDepth 100000 in
set_option maxHeartbeats 4000000 in
theorem e_Hall_addBytes_B3 {G : Gx} (k3 : Nat → Int32 → Int32 → Mm → Option (Unit × Mm)) (hk3 : ∀ (x0 : Nat) (x1 : Int32) (x2 : Int32) (M : Mm), EJ G Y_Hall_addBytes cvV 1 3 [(0, .ref x0), (1, .int x1), (2, .int x2)] [] M (k3 x0 x1 x2 M)) (x0 : Nat) (x1 : Int32) (x2 : Int32) (M : Mm) : EJ G Y_Hall_addBytes cvV 1 3 [(0, .ref x0), (1, .int x1), (2, .int x2)] [] M (Hall_addBytes_B3 k3 x0 x1 x2 M) := by
  unfold Hall_addBytes_B3
  refine EJ_iload_n 4 2 (dk_28 (bt bc_Hall_addBytes_0 3 rfl)) rfl rfl ?_
  refine EJ_if_lt 46 7 (dk_155 (bt bc_Hall_addBytes_0 4 rfl) (bt bc_Hall_addBytes_0 5 rfl) (bt bc_Hall_addBytes_0 6 rfl) (n := 42) rfl) (by decide) rfl (fun _ => ?_) (fun _ => ?_)
  · exact EJ_vret rfl (dk_177 (bt bc_Hall_addBytes_1 14 rfl))
  · refine EJ_aload_n 8 0 (dk_42 (bt bc_Hall_addBytes_0 7 rfl)) rfl rfl ?_
    refine EJ_ck (fun h1 => ?_)
    refine EJ_getI cf11 8 (by decide) 11 tw_208 (fun _ _ _ => rfl) (dk_180 (bt bc_Hall_addBytes_0 8 rfl) (bt bc_Hall_addBytes_0 9 rfl) (bt bc_Hall_addBytes_0 10 rfl) (n := 223) rfl) rfl (of_decide_eq_true h1) ?_
    refine EJ_sipush 14 (dk_17 (bt bc_Hall_addBytes_0 11 rfl) (bt bc_Hall_addBytes_0 12 rfl) (bt bc_Hall_addBytes_0 13 rfl) (n := 500) rfl) rfl (v := 500) kS_500 ?_
    refine EJ_icmp_ge 46 17 (dk_162 (bt bc_Hall_addBytes_0 14 rfl) (bt bc_Hall_addBytes_0 15 rfl) (bt bc_Hall_addBytes_0 16 rfl) (n := 32) rfl) (by decide) rfl (fun _ => ?_) (fun _ => ?_)
    · exact EJ_vret rfl (dk_177 (bt bc_Hall_addBytes_1 14 rfl))
    · refine EJ_aload_n 18 0 (dk_42 (bt bc_Hall_addBytes_0 17 rfl)) rfl rfl ?_
      refine EJ_getR cf11 7 (by decide) 21 tw_207 (fun _ _ _ => rfl) (dk_180 (bt bc_Hall_addBytes_0 18 rfl) (bt bc_Hall_addBytes_0 19 rfl) (bt bc_Hall_addBytes_0 20 rfl) (n := 28) rfl) rfl (of_decide_eq_true h1) (fun b2 => ?_)
      refine EJ_aload_n 22 0 (dk_42 (bt bc_Hall_addBytes_0 21 rfl)) rfl rfl ?_
      refine EJ_getI cf11 8 (by decide) 25 tw_208 (fun _ _ _ => rfl) (dk_180 (bt bc_Hall_addBytes_0 22 rfl) (bt bc_Hall_addBytes_0 23 rfl) (bt bc_Hall_addBytes_0 24 rfl) (n := 223) rfl) rfl (of_decide_eq_true h1) ?_
      refine EJ_iload_n 26 1 (dk_27 (bt bc_Hall_addBytes_0 25 rfl)) rfl rfl ?_
      refine EJ_iload_n 27 2 (dk_28 (bt bc_Hall_addBytes_0 26 rfl)) rfl rfl ?_
      refine EJ_ishr 28 (dk_122 (bt bc_Hall_addBytes_0 27 rfl)) rfl ?_
      refine EJ_i2b 29 (dk_145 (bt bc_Hall_addBytes_0 28 rfl)) rfl ?_
      refine EJ_ck (fun h3 => ?_)
      refine EJ_bast 30 h3 (pk_nb _) (dk_84 (bt bc_Hall_addBytes_0 29 rfl)) rfl ?_
      refine EJ_aload_n 31 0 (dk_42 (bt bc_Hall_addBytes_0 30 rfl)) rfl rfl ?_
      refine EJ_dup 32 (dk_89 (bt bc_Hall_addBytes_0 31 rfl)) rfl rfl ?_
      refine EJ_getI cf11 8 (by decide) 35 tw_208 (fun _ _ _ => rfl) (dk_180 (bt bc_Hall_addBytes_1 0 rfl) (bt bc_Hall_addBytes_1 1 rfl) (bt bc_Hall_addBytes_1 2 rfl) (n := 223) rfl) rfl (kp_I (of_decide_eq_true h1)) ?_
      refine EJ_iconst 36 (dk_4 (bt bc_Hall_addBytes_1 3 rfl)) rfl (v := 1) kI_1 ?_
      refine EJ_iadd 37 (dk_96 (bt bc_Hall_addBytes_1 4 rfl)) rfl ?_
      refine EJ_putI cf11 8 (by decide) 40 tw_208 rfl (Or.inl rfl) (dk_181 (bt bc_Hall_addBytes_1 5 rfl) (bt bc_Hall_addBytes_1 6 rfl) (bt bc_Hall_addBytes_1 7 rfl) (n := 223) rfl) rfl (kp_I (of_decide_eq_true h1)) ?_
      refine EJ_iinc 43 2 (lv2 := [(2, .int _), (0, .ref _), (1, .int _)]) (dk_132 (bt bc_Hall_addBytes_1 8 rfl) (bt bc_Hall_addBytes_1 9 rfl) (bt bc_Hall_addBytes_1 10 rfl) (n := -8) rfl) rfl (by decide) rfl (v := (-8)) kI_m8 rfl ?_
      refine EJ_goto 3 (dk_167 (bt bc_Hall_addBytes_1 11 rfl) (bt bc_Hall_addBytes_1 12 rfl) (bt bc_Hall_addBytes_1 13 rfl) (n := -40) rfl) (by decide) ?_
      exact EJ_pick (lv2 := [(0, .ref _), (1, .int _), (2, .int _)]) [1, 2, 0] rfl (hk3 _ _ _ _)
def Hall_addBytes_L3 (n : Nat) : Nat → Int32 → Int32 → Mm → Option (Unit × Mm) :=
  match n with
  | 0 => fun _ _ _ _ => none
  | n + 1 => Hall_addBytes_B3 (Hall_addBytes_L3 n)
theorem e_Hall_addBytes_L3 {G : Gx} : ∀ (n : Nat) (x0 : Nat) (x1 : Int32) (x2 : Int32) (M : Mm), EJ G Y_Hall_addBytes cvV 1 3 [(0, .ref x0), (1, .int x1), (2, .int x2)] [] M (Hall_addBytes_L3 n x0 x1 x2 M) := by
  intro n
  induction n with
  | zero => intros; exact EJ_none
  | succ n ih => intro x0 x1 x2 M; exact e_Hall_addBytes_B3 _ ih x0 x1 x2 M
def Hall_addBytes (M : Mm) (a0 : Nat) (a1 : Int32) : Option (Unit × Mm) :=
  Hall_addBytes_L3 fu a0 a1 24 M
set_option maxRecDepth 100000 in
set_option maxHeartbeats 4000000 in
theorem s_Hall_addBytes (G : Gx) (M : Mm) (a0 : Nat) (a1 : Int32) : FnS G Y_Hall_addBytes cvV 1 [.ref a0, .int a1] M (Hall_addBytes M a0 a1) := by
  refine FnS.ofE (by decide) (Nat.le_of_ble_eq_true rfl) ?_
  show EJ G Y_Hall_addBytes cvV 1 0 [(0, .ref a0), (1, .int a1)] [] M _
  unfold Hall_addBytes
  refine EJ_bipush 2 (dk_16 (bt bc_Hall_addBytes_0 0 rfl) (bt bc_Hall_addBytes_0 1 rfl) (n := 24) rfl) rfl (v := 24) kB_24 ?_
  refine EJ_istore_n 3 (lv2 := [(2, .int _), (0, .ref _), (1, .int _)]) (dk_61 (bt bc_Hall_addBytes_0 2 rfl)) rfl (by decide) rfl ?_
  exact EJ_pick (lv2 := [(0, .ref _), (1, .int _), (2, .int _)]) [1, 2, 0] rfl (e_Hall_addBytes_L3 fu _ _ _ _)
abbrev Y_Hall_feed : Ym := (⟨"RiceHall", "feed", "(IIIII)I"⟩, prog_1_method_20_code, 6, (some FieldType.int))
theorem bc_Hall_feed_0 : bts prog_1_method_20_code 0 [42, 180, 0, 223, 16, 20, 96, 17, 1, 244, 164, 0, 5, 2, 172, 42, 27, 182, 0, 226, 42, 28, 182, 0, 226, 42, 29, 182, 0, 226, 42, 21] := bts_of (by decide +kernel)
theorem bc_Hall_feed_1 : bts prog_1_method_20_code 32 [4, 182, 0, 226, 42, 21, 5, 182, 0, 226, 42, 180, 0, 223, 172] := bts_of (by decide +kernel)
theorem hd_Hall_feed : Y_Hall_feed.1.cls = RX11 ∧ Y_Hall_feed.1.cls ≠ "java/lang/invoke/MethodHandle" ∧ Y_Hall_feed.1.cls ≠ "java/lang/invoke/VarHandle" ∧ (parseMethodDescriptor Y_Hall_feed.1.desc).map (fun d => d.parameters.length) = some 5 := by decide +kernel
def Hall_feed (M : Mm) (a0 : Nat) (a1 : Int32) (a2 : Int32) (a3 : Int32) (a4 : Int32) (a5 : Int32) : Option (Int32 × Mm) :=
  ck (kO M a0 11 18) (
  if ((mI M a0 8) + 20) ≤ 500 then (
    bd (Hall_addBytes M a0 a1) (fun _ M3 =>
    ck (kO M3 a0 11 18) (
    bd (Hall_addBytes M3 a0 a2) (fun _ M6 =>
    ck (kO M6 a0 11 18) (
    bd (Hall_addBytes M6 a0 a3) (fun _ M9 =>
    ck (kO M9 a0 11 18) (
    bd (Hall_addBytes M9 a0 a4) (fun _ M12 =>
    ck (kO M12 a0 11 18) (
    bd (Hall_addBytes M12 a0 a5) (fun _ M15 =>
    ck (kO M15 a0 11 18) (
    some (mI M15 a0 8, M15))))))))))))
  else (
    some ((-1), M)))
set_option maxRecDepth 100000 in
set_option maxHeartbeats 4000000 in
theorem s_Hall_feed (G : Gx) (M : Mm) (a0 : Nat) (a1 : Int32) (a2 : Int32) (a3 : Int32) (a4 : Int32) (a5 : Int32) : FnS G Y_Hall_feed cvI 2 [.ref a0, .int a1, .int a2, .int a3, .int a4, .int a5] M (Hall_feed M a0 a1 a2 a3 a4 a5) := by
  refine FnS.ofE (by decide) (Nat.le_of_ble_eq_true rfl) ?_
  show EJ G Y_Hall_feed cvI 2 0 [(0, .ref a0), (1, .int a1), (2, .int a2), (3, .int a3), (4, .int a4), (5, .int a5)] [] M _
  unfold Hall_feed
  refine EJ_aload_n 1 0 (dk_42 (bt bc_Hall_feed_0 0 rfl)) rfl rfl ?_
  refine EJ_ck (fun h1 => ?_)
  refine EJ_getI cf11 8 (by decide) 4 tw_208 (fun _ _ _ => rfl) (dk_180 (bt bc_Hall_feed_0 1 rfl) (bt bc_Hall_feed_0 2 rfl) (bt bc_Hall_feed_0 3 rfl) (n := 223) rfl) rfl (of_decide_eq_true h1) ?_
  refine EJ_bipush 6 (dk_16 (bt bc_Hall_feed_0 4 rfl) (bt bc_Hall_feed_0 5 rfl) (n := 20) rfl) rfl (v := 20) kB_20 ?_
  refine EJ_iadd 7 (dk_96 (bt bc_Hall_feed_0 6 rfl)) rfl ?_
  refine EJ_sipush 10 (dk_17 (bt bc_Hall_feed_0 7 rfl) (bt bc_Hall_feed_0 8 rfl) (bt bc_Hall_feed_0 9 rfl) (n := 500) rfl) rfl (v := 500) kS_500 ?_
  refine EJ_icmp_le 15 13 (dk_164 (bt bc_Hall_feed_0 10 rfl) (bt bc_Hall_feed_0 11 rfl) (bt bc_Hall_feed_0 12 rfl) (n := 5) rfl) (by decide) rfl (fun _ => ?_) (fun _ => ?_)
  · refine EJ_aload_n 16 0 (dk_42 (bt bc_Hall_feed_0 15 rfl)) rfl rfl ?_
    refine EJ_iload_n 17 1 (dk_27 (bt bc_Hall_feed_0 16 rfl)) rfl rfl ?_
    refine EJ_callVv (Y2 := Y_Hall_addBytes) 20 cf11 (s_Hall_addBytes G _ _ _) (of_decide_eq_true h1) rfl (dk_182 (bt bc_Hall_feed_0 17 rfl) (bt bc_Hall_feed_0 18 rfl) (bt bc_Hall_feed_0 19 rfl) (n := 226) rfl) rfl tw_611 tw_613 ts_14 tw_614 hd_Hall_addBytes rfl (by decide) (Nat.le_of_ble_eq_true rfl) (fun _ M3 => ?_)
    refine EJ_aload_n 21 0 (dk_42 (bt bc_Hall_feed_0 20 rfl)) rfl rfl ?_
    refine EJ_iload_n 22 2 (dk_28 (bt bc_Hall_feed_0 21 rfl)) rfl rfl ?_
    refine EJ_ck (fun h4 => ?_)
    refine EJ_callVv (Y2 := Y_Hall_addBytes) 25 cf11 (s_Hall_addBytes G _ _ _) (of_decide_eq_true h4) rfl (dk_182 (bt bc_Hall_feed_0 22 rfl) (bt bc_Hall_feed_0 23 rfl) (bt bc_Hall_feed_0 24 rfl) (n := 226) rfl) rfl tw_611 tw_613 ts_14 tw_614 hd_Hall_addBytes rfl (by decide) (Nat.le_of_ble_eq_true rfl) (fun _ M6 => ?_)
    refine EJ_aload_n 26 0 (dk_42 (bt bc_Hall_feed_0 25 rfl)) rfl rfl ?_
    refine EJ_iload_n 27 3 (dk_29 (bt bc_Hall_feed_0 26 rfl)) rfl rfl ?_
    refine EJ_ck (fun h7 => ?_)
    refine EJ_callVv (Y2 := Y_Hall_addBytes) 30 cf11 (s_Hall_addBytes G _ _ _) (of_decide_eq_true h7) rfl (dk_182 (bt bc_Hall_feed_0 27 rfl) (bt bc_Hall_feed_0 28 rfl) (bt bc_Hall_feed_0 29 rfl) (n := 226) rfl) rfl tw_611 tw_613 ts_14 tw_614 hd_Hall_addBytes rfl (by decide) (Nat.le_of_ble_eq_true rfl) (fun _ M9 => ?_)
    refine EJ_aload_n 31 0 (dk_42 (bt bc_Hall_feed_0 30 rfl)) rfl rfl ?_
    refine EJ_iload 33 4 (dk_21 (bt bc_Hall_feed_0 31 rfl) (bt bc_Hall_feed_1 0 rfl)) rfl rfl ?_
    refine EJ_ck (fun h10 => ?_)
    refine EJ_callVv (Y2 := Y_Hall_addBytes) 36 cf11 (s_Hall_addBytes G _ _ _) (of_decide_eq_true h10) rfl (dk_182 (bt bc_Hall_feed_1 1 rfl) (bt bc_Hall_feed_1 2 rfl) (bt bc_Hall_feed_1 3 rfl) (n := 226) rfl) rfl tw_611 tw_613 ts_14 tw_614 hd_Hall_addBytes rfl (by decide) (Nat.le_of_ble_eq_true rfl) (fun _ M12 => ?_)
    refine EJ_aload_n 37 0 (dk_42 (bt bc_Hall_feed_1 4 rfl)) rfl rfl ?_
    refine EJ_iload 39 5 (dk_21 (bt bc_Hall_feed_1 5 rfl) (bt bc_Hall_feed_1 6 rfl)) rfl rfl ?_
    refine EJ_ck (fun h13 => ?_)
    refine EJ_callVv (Y2 := Y_Hall_addBytes) 42 cf11 (s_Hall_addBytes G _ _ _) (of_decide_eq_true h13) rfl (dk_182 (bt bc_Hall_feed_1 7 rfl) (bt bc_Hall_feed_1 8 rfl) (bt bc_Hall_feed_1 9 rfl) (n := 226) rfl) rfl tw_611 tw_613 ts_14 tw_614 hd_Hall_addBytes rfl (by decide) (Nat.le_of_ble_eq_true rfl) (fun _ M15 => ?_)
    refine EJ_aload_n 43 0 (dk_42 (bt bc_Hall_feed_1 10 rfl)) rfl rfl ?_
    refine EJ_ck (fun h16 => ?_)
    refine EJ_getI cf11 8 (by decide) 46 tw_208 (fun _ _ _ => rfl) (dk_180 (bt bc_Hall_feed_1 11 rfl) (bt bc_Hall_feed_1 12 rfl) (bt bc_Hall_feed_1 13 rfl) (n := 223) rfl) rfl (of_decide_eq_true h16) ?_
    exact EJ_iret rfl (dk_172 (bt bc_Hall_feed_1 14 rfl))
  · refine EJ_iconst 14 (dk_2 (bt bc_Hall_feed_0 13 rfl)) rfl (v := (-1)) kI_m1 ?_
    exact EJ_iret rfl (dk_172 (bt bc_Hall_feed_0 14 rfl))
abbrev Y_Hall_rules : Ym := (⟨"RiceHall", "rules", "(II)I"⟩, prog_1_method_21_code, 4, (some FieldType.int))
theorem bc_Hall_rules_0 : bts prog_1_method_21_code 0 [42, 180, 0, 10, 27, 182, 0, 75, 153, 0, 15, 28, 3, 42, 180, 0, 223, 184, 0, 80, 154, 0, 6, 16, 254, 172, 42, 180, 0, 35, 182, 0] := bts_of (by decide +kernel)
theorem bc_Hall_rules_1 : bts prog_1_method_21_code 32 [229, 153, 0, 6, 16, 253, 172, 42, 3, 181, 0, 223, 42, 180, 0, 35, 42, 180, 0, 28, 28, 182, 0, 233, 154, 0, 5, 2, 172, 42, 180, 0] := bts_of (by decide +kernel)
theorem bc_Hall_rules_2 : bts prog_1_method_21_code 64 [10, 27, 42, 180, 0, 120, 182, 0, 83, 42, 180, 0, 10, 3, 182, 0, 87, 62, 29, 2, 159, 0, 9, 29, 18, 79, 164, 0, 6, 16, 252, 172] := bts_of (by decide +kernel)
theorem bc_Hall_rules_3 : bts prog_1_method_21_code 96 [42, 180, 0, 35, 29, 182, 0, 237, 172] := bts_of (by decide +kernel)
theorem hd_Hall_rules : Y_Hall_rules.1.cls = RX11 ∧ Y_Hall_rules.1.cls ≠ "java/lang/invoke/MethodHandle" ∧ Y_Hall_rules.1.cls ≠ "java/lang/invoke/VarHandle" ∧ (parseMethodDescriptor Y_Hall_rules.1.desc).map (fun d => d.parameters.length) = some 2 := by decide +kernel
def Hall_rules (M : Mm) (a0 : Nat) (a1 : Int32) (a2 : Int32) : Option (Int32 × Mm) :=
  ck (kO M a0 11 18) (
  nn (mR M a0 0) (fun b2 =>
  ck (kO M b2 4 7) (
  bd (Land_has M b2 a1) (fun r4 M5 =>
  if r4 = 0 then (
    some ((-2), M5))
  else (
    ck (kO M5 a0 11 18) (
    bd (Hall_isWithin M5 a2 0 (mI M5 a0 8)) (fun r7 M8 =>
    if r7 = 0 then (
      some ((-2), M8))
    else (
      ck (kO M8 a0 11 18) (
      nn (mR M8 a0 9) (fun b10 =>
      ck (kO M8 b10 5 5) (
      bd (Law_isFull M8 b10) (fun r12 M13 =>
      if r12 = 0 then (
        ck (kO M13 a0 11 18) (
        let M15 := sI M13 a0 8 0
        nn (mR M15 a0 9) (fun b16 =>
        nn (mR M15 a0 7) (fun b17 =>
        ck (kO M15 b16 5 5) (
        bd (Law_read M15 b16 b17 a2) (fun r19 M20 =>
        if r19 = 0 then (
          some ((-1), M20))
        else (
          ck (kO M20 a0 11 18) (
          nn (mR M20 a0 0) (fun b22 =>
          ck (kO M20 b22 4 7) (
          bd (Land_spread M20 b22 a1 (mI M20 a0 16)) (fun _ M25 =>
          ck (kO M25 a0 11 18) (
          nn (mR M25 a0 0) (fun b27 =>
          ck (kO M25 b27 4 7) (
          bd (Land_minuteIn M25 b27 0) (fun r29 M30 =>
          if r29 = (-1) then (
            some ((-4), M30))
          else (
            if r29 ≤ 57600 then (
              ck (kO M30 a0 11 18) (
              nn (mR M30 a0 9) (fun b32 =>
              ck (kO M30 b32 5 5) (
              bd (Law_keep M30 b32 r29) (fun r34 M35 =>
              some (r34, M35))))))
            else (
              some ((-4), M30))))))))))))))))))
      else (
        some ((-3), M13))))))))))))))
set_option maxRecDepth 100000 in
set_option maxHeartbeats 4000000 in
theorem s_Hall_rules (G : Gx) (M : Mm) (a0 : Nat) (a1 : Int32) (a2 : Int32) : FnS G Y_Hall_rules cvI 49 [.ref a0, .int a1, .int a2] M (Hall_rules M a0 a1 a2) := by
  refine FnS.ofE (by decide) (Nat.le_of_ble_eq_true rfl) ?_
  show EJ G Y_Hall_rules cvI 49 0 [(0, .ref a0), (1, .int a1), (2, .int a2)] [] M _
  unfold Hall_rules
  refine EJ_aload_n 1 0 (dk_42 (bt bc_Hall_rules_0 0 rfl)) rfl rfl ?_
  refine EJ_ck (fun h1 => ?_)
  refine EJ_getR cf11 0 (by decide) 4 tw_200 (fun _ _ _ => rfl) (dk_180 (bt bc_Hall_rules_0 1 rfl) (bt bc_Hall_rules_0 2 rfl) (bt bc_Hall_rules_0 3 rfl) (n := 10) rfl) rfl (of_decide_eq_true h1) (fun b2 => ?_)
  refine EJ_iload_n 5 1 (dk_27 (bt bc_Hall_rules_0 4 rfl)) rfl rfl ?_
  refine EJ_ck (fun h3 => ?_)
  refine EJ_callVi (Y2 := Y_Land_has) 8 cf4 (s_Land_has G _ _ _) (of_decide_eq_true h3) rfl (dk_182 (bt bc_Hall_rules_0 5 rfl) (bt bc_Hall_rules_0 6 rfl) (bt bc_Hall_rules_0 7 rfl) (n := 75) rfl) rfl tw_290 tw_272 tw_273 tw_274 hd_Land_has rfl (by decide) (Nat.le_of_ble_eq_true rfl) (fun r4 M5 => ?_)
  refine EJ_if_eq 23 11 (dk_153 (bt bc_Hall_rules_0 8 rfl) (bt bc_Hall_rules_0 9 rfl) (bt bc_Hall_rules_0 10 rfl) (n := 15) rfl) (by decide) rfl (fun _ => ?_) (fun _ => ?_)
  · refine EJ_bipush 25 (dk_16 (bt bc_Hall_rules_0 23 rfl) (bt bc_Hall_rules_0 24 rfl) (n := -2) rfl) rfl (v := (-2)) kB_m2 ?_
    exact EJ_iret rfl (dk_172 (bt bc_Hall_rules_0 25 rfl))
  · refine EJ_iload_n 12 2 (dk_28 (bt bc_Hall_rules_0 11 rfl)) rfl rfl ?_
    refine EJ_iconst 13 (dk_3 (bt bc_Hall_rules_0 12 rfl)) rfl (v := 0) kI_0 ?_
    refine EJ_aload_n 14 0 (dk_42 (bt bc_Hall_rules_0 13 rfl)) rfl rfl ?_
    refine EJ_ck (fun h6 => ?_)
    refine EJ_getI cf11 8 (by decide) 17 tw_208 (fun _ _ _ => rfl) (dk_180 (bt bc_Hall_rules_0 14 rfl) (bt bc_Hall_rules_0 15 rfl) (bt bc_Hall_rules_0 16 rfl) (n := 223) rfl) rfl (of_decide_eq_true h6) ?_
    refine EJ_callSi (Y2 := Y_Hall_isWithin) 20 (s_Hall_isWithin G _ _ _ _) rfl (dk_184 (bt bc_Hall_rules_0 17 rfl) (bt bc_Hall_rules_0 18 rfl) (bt bc_Hall_rules_0 19 rfl) (n := 80) rfl) rfl tw_292 tw_276 tw_1 tw_277 hd_Hall_isWithin rfl (by decide) (Nat.le_of_ble_eq_true rfl) (fun r7 M8 => ?_)
    refine EJ_if_ne 26 23 (dk_154 (bt bc_Hall_rules_0 20 rfl) (bt bc_Hall_rules_0 21 rfl) (bt bc_Hall_rules_0 22 rfl) (n := 6) rfl) (by decide) rfl (fun _ => ?_) (fun _ => ?_)
    · refine EJ_aload_n 27 0 (dk_42 (bt bc_Hall_rules_0 26 rfl)) rfl rfl ?_
      refine EJ_ck (fun h9 => ?_)
      refine EJ_getR cf11 9 (by decide) 30 tw_209 (fun _ _ _ => rfl) (dk_180 (bt bc_Hall_rules_0 27 rfl) (bt bc_Hall_rules_0 28 rfl) (bt bc_Hall_rules_0 29 rfl) (n := 35) rfl) rfl (of_decide_eq_true h9) (fun b10 => ?_)
      refine EJ_ck (fun h11 => ?_)
      refine EJ_callVi (Y2 := Y_Law_isFull) 33 cf5 (s_Law_isFull G _ _) (of_decide_eq_true h11) rfl (dk_182 (bt bc_Hall_rules_0 30 rfl) (bt bc_Hall_rules_0 31 rfl) (bt bc_Hall_rules_1 0 rfl) (n := 229) rfl) rfl tw_619 tw_620 tw_621 tw_622 hd_Law_isFull rfl (by decide) (Nat.le_of_ble_eq_true rfl) (fun r12 M13 => ?_)
      refine EJ_if_eq 39 36 (dk_153 (bt bc_Hall_rules_1 1 rfl) (bt bc_Hall_rules_1 2 rfl) (bt bc_Hall_rules_1 3 rfl) (n := 6) rfl) (by decide) rfl (fun _ => ?_) (fun _ => ?_)
      · refine EJ_aload_n 40 0 (dk_42 (bt bc_Hall_rules_1 7 rfl)) rfl rfl ?_
        refine EJ_iconst 41 (dk_3 (bt bc_Hall_rules_1 8 rfl)) rfl (v := 0) kI_0 ?_
        refine EJ_ck (fun h14 => ?_)
        refine EJ_putI cf11 8 (by decide) 44 tw_208 rfl (Or.inl rfl) (dk_181 (bt bc_Hall_rules_1 9 rfl) (bt bc_Hall_rules_1 10 rfl) (bt bc_Hall_rules_1 11 rfl) (n := 223) rfl) rfl (of_decide_eq_true h14) ?_
        refine EJ_aload_n 45 0 (dk_42 (bt bc_Hall_rules_1 12 rfl)) rfl rfl ?_
        refine EJ_getR cf11 9 (by decide) 48 tw_209 (fun _ _ _ => rfl) (dk_180 (bt bc_Hall_rules_1 13 rfl) (bt bc_Hall_rules_1 14 rfl) (bt bc_Hall_rules_1 15 rfl) (n := 35) rfl) rfl (kp_I (of_decide_eq_true h14)) (fun b16 => ?_)
        refine EJ_aload_n 49 0 (dk_42 (bt bc_Hall_rules_1 16 rfl)) rfl rfl ?_
        refine EJ_getR cf11 7 (by decide) 52 tw_207 (fun _ _ _ => rfl) (dk_180 (bt bc_Hall_rules_1 17 rfl) (bt bc_Hall_rules_1 18 rfl) (bt bc_Hall_rules_1 19 rfl) (n := 28) rfl) rfl (kp_I (of_decide_eq_true h14)) (fun b17 => ?_)
        refine EJ_iload_n 53 2 (dk_28 (bt bc_Hall_rules_1 20 rfl)) rfl rfl ?_
        refine EJ_ck (fun h18 => ?_)
        refine EJ_callVi (Y2 := Y_Law_read) 56 cf5 (s_Law_read G _ _ _ _) (of_decide_eq_true h18) rfl (dk_182 (bt bc_Hall_rules_1 21 rfl) (bt bc_Hall_rules_1 22 rfl) (bt bc_Hall_rules_1 23 rfl) (n := 233) rfl) rfl tw_623 tw_624 tw_625 tw_626 hd_Law_read rfl (by decide) (Nat.le_of_ble_eq_true rfl) (fun r19 M20 => ?_)
        refine EJ_if_ne 61 59 (dk_154 (bt bc_Hall_rules_1 24 rfl) (bt bc_Hall_rules_1 25 rfl) (bt bc_Hall_rules_1 26 rfl) (n := 5) rfl) (by decide) rfl (fun _ => ?_) (fun _ => ?_)
        · refine EJ_aload_n 62 0 (dk_42 (bt bc_Hall_rules_1 29 rfl)) rfl rfl ?_
          refine EJ_ck (fun h21 => ?_)
          refine EJ_getR cf11 0 (by decide) 65 tw_200 (fun _ _ _ => rfl) (dk_180 (bt bc_Hall_rules_1 30 rfl) (bt bc_Hall_rules_1 31 rfl) (bt bc_Hall_rules_2 0 rfl) (n := 10) rfl) rfl (of_decide_eq_true h21) (fun b22 => ?_)
          refine EJ_iload_n 66 1 (dk_27 (bt bc_Hall_rules_2 1 rfl)) rfl rfl ?_
          refine EJ_aload_n 67 0 (dk_42 (bt bc_Hall_rules_2 2 rfl)) rfl rfl ?_
          refine EJ_getI cf11 16 (by decide) 70 tw_216 (fun _ _ _ => rfl) (dk_180 (bt bc_Hall_rules_2 3 rfl) (bt bc_Hall_rules_2 4 rfl) (bt bc_Hall_rules_2 5 rfl) (n := 120) rfl) rfl (of_decide_eq_true h21) ?_
          refine EJ_ck (fun h23 => ?_)
          refine EJ_callVv (Y2 := Y_Land_spread) 73 cf4 (s_Land_spread G _ _ _ _) (of_decide_eq_true h23) rfl (dk_182 (bt bc_Hall_rules_2 6 rfl) (bt bc_Hall_rules_2 7 rfl) (bt bc_Hall_rules_2 8 rfl) (n := 83) rfl) rfl tw_293 tw_294 tw_295 tw_296 hd_Land_spread rfl (by decide) (Nat.le_of_ble_eq_true rfl) (fun _ M25 => ?_)
          refine EJ_aload_n 74 0 (dk_42 (bt bc_Hall_rules_2 9 rfl)) rfl rfl ?_
          refine EJ_ck (fun h26 => ?_)
          refine EJ_getR cf11 0 (by decide) 77 tw_200 (fun _ _ _ => rfl) (dk_180 (bt bc_Hall_rules_2 10 rfl) (bt bc_Hall_rules_2 11 rfl) (bt bc_Hall_rules_2 12 rfl) (n := 10) rfl) rfl (of_decide_eq_true h26) (fun b27 => ?_)
          refine EJ_iconst 78 (dk_3 (bt bc_Hall_rules_2 13 rfl)) rfl (v := 0) kI_0 ?_
          refine EJ_ck (fun h28 => ?_)
          refine EJ_callVi (Y2 := Y_Land_minuteIn) 81 cf4 (s_Land_minuteIn G _ _ _) (of_decide_eq_true h28) rfl (dk_182 (bt bc_Hall_rules_2 14 rfl) (bt bc_Hall_rules_2 15 rfl) (bt bc_Hall_rules_2 16 rfl) (n := 87) rfl) rfl tw_324 tw_325 tw_326 tw_327 hd_Land_minuteIn rfl (by decide) (Nat.le_of_ble_eq_true rfl) (fun r29 M30 => ?_)
          refine EJ_istore_n 82 (lv2 := [(3, .int _), (0, .ref _), (1, .int _), (2, .int _)]) (dk_62 (bt bc_Hall_rules_2 17 rfl)) rfl (by decide) rfl ?_
          refine EJ_iload_n 83 0 (dk_29 (bt bc_Hall_rules_2 18 rfl)) rfl rfl ?_
          refine EJ_iconst 84 (dk_2 (bt bc_Hall_rules_2 19 rfl)) rfl (v := (-1)) kI_m1 ?_
          refine EJ_icmp_eq 93 87 (dk_159 (bt bc_Hall_rules_2 20 rfl) (bt bc_Hall_rules_2 21 rfl) (bt bc_Hall_rules_2 22 rfl) (n := 9) rfl) (by decide) rfl (fun _ => ?_) (fun _ => ?_)
          · refine EJ_bipush 95 (dk_16 (bt bc_Hall_rules_2 29 rfl) (bt bc_Hall_rules_2 30 rfl) (n := -4) rfl) rfl (v := (-4)) kB_m4 ?_
            exact EJ_iret rfl (dk_172 (bt bc_Hall_rules_2 31 rfl))
          · refine EJ_iload_n 88 0 (dk_29 (bt bc_Hall_rules_2 23 rfl)) rfl rfl ?_
            refine EJ_ldc 90 (dk_18 (bt bc_Hall_rules_2 24 rfl) (bt bc_Hall_rules_2 25 rfl)) rfl tw_291 ?_
            refine EJ_icmp_le 96 93 (dk_164 (bt bc_Hall_rules_2 26 rfl) (bt bc_Hall_rules_2 27 rfl) (bt bc_Hall_rules_2 28 rfl) (n := 6) rfl) (by decide) rfl (fun _ => ?_) (fun _ => ?_)
            · refine EJ_aload_n 97 1 (dk_42 (bt bc_Hall_rules_3 0 rfl)) rfl rfl ?_
              refine EJ_ck (fun h31 => ?_)
              refine EJ_getR cf11 9 (by decide) 100 tw_209 (fun _ _ _ => rfl) (dk_180 (bt bc_Hall_rules_3 1 rfl) (bt bc_Hall_rules_3 2 rfl) (bt bc_Hall_rules_3 3 rfl) (n := 35) rfl) rfl (of_decide_eq_true h31) (fun b32 => ?_)
              refine EJ_iload_n 101 0 (dk_29 (bt bc_Hall_rules_3 4 rfl)) rfl rfl ?_
              refine EJ_ck (fun h33 => ?_)
              refine EJ_callVi (Y2 := Y_Law_keep) 104 cf5 (s_Law_keep G _ _ _) (of_decide_eq_true h33) rfl (dk_182 (bt bc_Hall_rules_3 5 rfl) (bt bc_Hall_rules_3 6 rfl) (bt bc_Hall_rules_3 7 rfl) (n := 237) rfl) rfl tw_753 tw_754 tw_755 tw_756 hd_Law_keep rfl (by decide) (Nat.le_of_ble_eq_true rfl) (fun r34 M35 => ?_)
              exact EJ_iret rfl (dk_172 (bt bc_Hall_rules_3 8 rfl))
            · refine EJ_bipush 95 (dk_16 (bt bc_Hall_rules_2 29 rfl) (bt bc_Hall_rules_2 30 rfl) (n := -4) rfl) rfl (v := (-4)) kB_m4 ?_
              exact EJ_iret rfl (dk_172 (bt bc_Hall_rules_2 31 rfl))
        · refine EJ_iconst 60 (dk_2 (bt bc_Hall_rules_1 27 rfl)) rfl (v := (-1)) kI_m1 ?_
          exact EJ_iret rfl (dk_172 (bt bc_Hall_rules_1 28 rfl))
      · refine EJ_bipush 38 (dk_16 (bt bc_Hall_rules_1 4 rfl) (bt bc_Hall_rules_1 5 rfl) (n := -3) rfl) rfl (v := (-3)) kB_m3 ?_
        exact EJ_iret rfl (dk_172 (bt bc_Hall_rules_1 6 rfl))
    · refine EJ_bipush 25 (dk_16 (bt bc_Hall_rules_0 23 rfl) (bt bc_Hall_rules_0 24 rfl) (n := -2) rfl) rfl (v := (-2)) kB_m2 ?_
      exact EJ_iret rfl (dk_172 (bt bc_Hall_rules_0 25 rfl))
abbrev Y_Hall_fault : Ym := (⟨"RiceHall", "fault", "()I"⟩, prog_1_method_22_code, 1, (some FieldType.int))
theorem bc_Hall_fault_0 : bts prog_1_method_22_code 0 [42, 180, 0, 35, 180, 0, 240, 172] := bts_of (by decide +kernel)
theorem hd_Hall_fault : Y_Hall_fault.1.cls = RX11 ∧ Y_Hall_fault.1.cls ≠ "java/lang/invoke/MethodHandle" ∧ Y_Hall_fault.1.cls ≠ "java/lang/invoke/VarHandle" ∧ (parseMethodDescriptor Y_Hall_fault.1.desc).map (fun d => d.parameters.length) = some 0 := by decide +kernel
def Hall_fault (M : Mm) (a0 : Nat) : Option (Int32 × Mm) :=
  ck (kO M a0 11 18) (
  nn (mR M a0 9) (fun b2 =>
  ck (kO M b2 5 5) (
  some (mI M b2 4, M))))
set_option maxRecDepth 100000 in
set_option maxHeartbeats 4000000 in
theorem s_Hall_fault (G : Gx) (M : Mm) (a0 : Nat) : FnS G Y_Hall_fault cvI 1 [.ref a0] M (Hall_fault M a0) := by
  refine FnS.ofE (by decide) (Nat.le_of_ble_eq_true rfl) ?_
  show EJ G Y_Hall_fault cvI 1 0 [(0, .ref a0)] [] M _
  unfold Hall_fault
  refine EJ_aload_n 1 0 (dk_42 (bt bc_Hall_fault_0 0 rfl)) rfl rfl ?_
  refine EJ_ck (fun h1 => ?_)
  refine EJ_getR cf11 9 (by decide) 4 tw_209 (fun _ _ _ => rfl) (dk_180 (bt bc_Hall_fault_0 1 rfl) (bt bc_Hall_fault_0 2 rfl) (bt bc_Hall_fault_0 3 rfl) (n := 35) rfl) rfl (of_decide_eq_true h1) (fun b2 => ?_)
  refine EJ_ck (fun h3 => ?_)
  refine EJ_getI cf5 4 (by decide) 7 tw_128 (fun _ _ _ => rfl) (dk_180 (bt bc_Hall_fault_0 4 rfl) (bt bc_Hall_fault_0 5 rfl) (bt bc_Hall_fault_0 6 rfl) (n := 240) rfl) rfl (of_decide_eq_true h3) ?_
  exact EJ_iret rfl (dk_172 (bt bc_Hall_fault_0 7 rfl))
abbrev Y_Hall_rule : Ym := (⟨"RiceHall", "rule", "(I)I"⟩, prog_1_method_23_code, 2, (some FieldType.int))
theorem bc_Hall_rule_0 : bts prog_1_method_23_code 0 [27, 16, 11, 160, 0, 15, 42, 180, 0, 35, 42, 180, 0, 120, 182, 0, 243, 172, 27, 3, 16, 10, 184, 0, 80, 153, 0, 11, 42, 27, 182, 0] := bts_of (by decide +kernel)
theorem bc_Hall_rule_1 : bts prog_1_method_23_code 32 [147, 167, 0, 4, 2, 172] := bts_of (by decide +kernel)
theorem hd_Hall_rule : Y_Hall_rule.1.cls = RX11 ∧ Y_Hall_rule.1.cls ≠ "java/lang/invoke/MethodHandle" ∧ Y_Hall_rule.1.cls ≠ "java/lang/invoke/VarHandle" ∧ (parseMethodDescriptor Y_Hall_rule.1.desc).map (fun d => d.parameters.length) = some 1 := by decide +kernel
def Hall_rule (M : Mm) (a0 : Nat) (a1 : Int32) : Option (Int32 × Mm) :=
  if a1 = 11 then (
    ck (kO M a0 11 18) (
    nn (mR M a0 9) (fun b7 =>
    ck (kO M b7 5 5) (
    bd (Law_inForce M b7 (mI M a0 16)) (fun r9 M10 =>
    some (r9, M10))))))
  else (
    bd (Hall_isWithin M a1 0 10) (fun r1 M2 =>
    if r1 = 0 then (
      some ((-1), M2))
    else (
      ck (kO M2 a0 11 18) (
      bd (Hall_askLaw M2 a0 a1) (fun r4 M5 =>
      some (r4, M5))))))
set_option maxRecDepth 100000 in
set_option maxHeartbeats 4000000 in
theorem s_Hall_rule (G : Gx) (M : Mm) (a0 : Nat) (a1 : Int32) : FnS G Y_Hall_rule cvI 6 [.ref a0, .int a1] M (Hall_rule M a0 a1) := by
  refine FnS.ofE (by decide) (Nat.le_of_ble_eq_true rfl) ?_
  show EJ G Y_Hall_rule cvI 6 0 [(0, .ref a0), (1, .int a1)] [] M _
  unfold Hall_rule
  refine EJ_iload_n 1 1 (dk_27 (bt bc_Hall_rule_0 0 rfl)) rfl rfl ?_
  refine EJ_bipush 3 (dk_16 (bt bc_Hall_rule_0 1 rfl) (bt bc_Hall_rule_0 2 rfl) (n := 11) rfl) rfl (v := 11) kB_11 ?_
  refine EJ_icmp_ne 18 6 (dk_160 (bt bc_Hall_rule_0 3 rfl) (bt bc_Hall_rule_0 4 rfl) (bt bc_Hall_rule_0 5 rfl) (n := 15) rfl) (by decide) rfl (fun _ => ?_) (fun _ => ?_)
  · refine EJ_iload_n 19 1 (dk_27 (bt bc_Hall_rule_0 18 rfl)) rfl rfl ?_
    refine EJ_iconst 20 (dk_3 (bt bc_Hall_rule_0 19 rfl)) rfl (v := 0) kI_0 ?_
    refine EJ_bipush 22 (dk_16 (bt bc_Hall_rule_0 20 rfl) (bt bc_Hall_rule_0 21 rfl) (n := 10) rfl) rfl (v := 10) kB_10 ?_
    refine EJ_callSi (Y2 := Y_Hall_isWithin) 25 (s_Hall_isWithin G _ _ _ _) rfl (dk_184 (bt bc_Hall_rule_0 22 rfl) (bt bc_Hall_rule_0 23 rfl) (bt bc_Hall_rule_0 24 rfl) (n := 80) rfl) rfl tw_292 tw_276 tw_1 tw_277 hd_Hall_isWithin rfl (by decide) (Nat.le_of_ble_eq_true rfl) (fun r1 M2 => ?_)
    refine EJ_if_eq 36 28 (dk_153 (bt bc_Hall_rule_0 25 rfl) (bt bc_Hall_rule_0 26 rfl) (bt bc_Hall_rule_0 27 rfl) (n := 11) rfl) (by decide) rfl (fun _ => ?_) (fun _ => ?_)
    · refine EJ_iconst 37 (dk_2 (bt bc_Hall_rule_1 4 rfl)) rfl (v := (-1)) kI_m1 ?_
      exact EJ_iret rfl (dk_172 (bt bc_Hall_rule_1 5 rfl))
    · refine EJ_aload_n 29 0 (dk_42 (bt bc_Hall_rule_0 28 rfl)) rfl rfl ?_
      refine EJ_iload_n 30 1 (dk_27 (bt bc_Hall_rule_0 29 rfl)) rfl rfl ?_
      refine EJ_ck (fun h3 => ?_)
      refine EJ_callVi (Y2 := Y_Hall_askLaw) 33 cf11 (s_Hall_askLaw G _ _ _) (of_decide_eq_true h3) rfl (dk_182 (bt bc_Hall_rule_0 30 rfl) (bt bc_Hall_rule_0 31 rfl) (bt bc_Hall_rule_1 0 rfl) (n := 147) rfl) rfl tw_499 tw_501 ts_10 tw_502 hd_Hall_askLaw rfl (by decide) (Nat.le_of_ble_eq_true rfl) (fun r4 M5 => ?_)
      refine EJ_goto 37 (dk_167 (bt bc_Hall_rule_1 1 rfl) (bt bc_Hall_rule_1 2 rfl) (bt bc_Hall_rule_1 3 rfl) (n := 4) rfl) (by decide) ?_
      exact EJ_iret rfl (dk_172 (bt bc_Hall_rule_1 5 rfl))
  · refine EJ_aload_n 7 0 (dk_42 (bt bc_Hall_rule_0 6 rfl)) rfl rfl ?_
    refine EJ_ck (fun h6 => ?_)
    refine EJ_getR cf11 9 (by decide) 10 tw_209 (fun _ _ _ => rfl) (dk_180 (bt bc_Hall_rule_0 7 rfl) (bt bc_Hall_rule_0 8 rfl) (bt bc_Hall_rule_0 9 rfl) (n := 35) rfl) rfl (of_decide_eq_true h6) (fun b7 => ?_)
    refine EJ_aload_n 11 0 (dk_42 (bt bc_Hall_rule_0 10 rfl)) rfl rfl ?_
    refine EJ_getI cf11 16 (by decide) 14 tw_216 (fun _ _ _ => rfl) (dk_180 (bt bc_Hall_rule_0 11 rfl) (bt bc_Hall_rule_0 12 rfl) (bt bc_Hall_rule_0 13 rfl) (n := 120) rfl) rfl (of_decide_eq_true h6) ?_
    refine EJ_ck (fun h8 => ?_)
    refine EJ_callVi (Y2 := Y_Law_inForce) 17 cf5 (s_Law_inForce G _ _ _) (of_decide_eq_true h8) rfl (dk_182 (bt bc_Hall_rule_0 14 rfl) (bt bc_Hall_rule_0 15 rfl) (bt bc_Hall_rule_0 16 rfl) (n := 243) rfl) rfl tw_802 tw_524 tw_525 tw_526 hd_Law_inForce rfl (by decide) (Nat.le_of_ble_eq_true rfl) (fun r9 M10 => ?_)
    exact EJ_iret rfl (dk_172 (bt bc_Hall_rule_0 17 rfl))
abbrev Y_Hall_heard : Ym := (⟨"RiceHall", "heard", "(I)I"⟩, prog_1_method_24_code, 2, (some FieldType.int))
theorem bc_Hall_heard_0 : bts prog_1_method_24_code 0 [42, 180, 0, 35, 27, 182, 0, 246, 172] := bts_of (by decide +kernel)
theorem hd_Hall_heard : Y_Hall_heard.1.cls = RX11 ∧ Y_Hall_heard.1.cls ≠ "java/lang/invoke/MethodHandle" ∧ Y_Hall_heard.1.cls ≠ "java/lang/invoke/VarHandle" ∧ (parseMethodDescriptor Y_Hall_heard.1.desc).map (fun d => d.parameters.length) = some 1 := by decide +kernel
def Hall_heard (M : Mm) (a0 : Nat) (a1 : Int32) : Option (Int32 × Mm) :=
  ck (kO M a0 11 18) (
  nn (mR M a0 9) (fun b2 =>
  ck (kO M b2 5 5) (
  bd (Law_minuteOf M b2 a1) (fun r4 M5 =>
  some (r4, M5)))))
set_option maxRecDepth 100000 in
set_option maxHeartbeats 4000000 in
theorem s_Hall_heard (G : Gx) (M : Mm) (a0 : Nat) (a1 : Int32) : FnS G Y_Hall_heard cvI 2 [.ref a0, .int a1] M (Hall_heard M a0 a1) := by
  refine FnS.ofE (by decide) (Nat.le_of_ble_eq_true rfl) ?_
  show EJ G Y_Hall_heard cvI 2 0 [(0, .ref a0), (1, .int a1)] [] M _
  unfold Hall_heard
  refine EJ_aload_n 1 0 (dk_42 (bt bc_Hall_heard_0 0 rfl)) rfl rfl ?_
  refine EJ_ck (fun h1 => ?_)
  refine EJ_getR cf11 9 (by decide) 4 tw_209 (fun _ _ _ => rfl) (dk_180 (bt bc_Hall_heard_0 1 rfl) (bt bc_Hall_heard_0 2 rfl) (bt bc_Hall_heard_0 3 rfl) (n := 35) rfl) rfl (of_decide_eq_true h1) (fun b2 => ?_)
  refine EJ_iload_n 5 1 (dk_27 (bt bc_Hall_heard_0 4 rfl)) rfl rfl ?_
  refine EJ_ck (fun h3 => ?_)
  refine EJ_callVi (Y2 := Y_Law_minuteOf) 8 cf5 (s_Law_minuteOf G _ _ _) (of_decide_eq_true h3) rfl (dk_182 (bt bc_Hall_heard_0 5 rfl) (bt bc_Hall_heard_0 6 rfl) (bt bc_Hall_heard_0 7 rfl) (n := 246) rfl) rfl tw_807 tw_808 tw_809 tw_810 hd_Law_minuteOf rfl (by decide) (Nat.le_of_ble_eq_true rfl) (fun r4 M5 => ?_)
  exact EJ_iret rfl (dk_172 (bt bc_Hall_heard_0 8 rfl))
abbrev Y_Hall_wind : Ym := (⟨"RiceHall", "wind", "(I)Z"⟩, prog_1_method_25_code, 2, (some FieldType.boolean))
theorem bc_Hall_wind_0 : bts prog_1_method_25_code 0 [27, 3, 16, 9, 184, 0, 80, 154, 0, 5, 3, 172, 42, 27, 181, 0, 249, 4, 172] := bts_of (by decide +kernel)
theorem hd_Hall_wind : Y_Hall_wind.1.cls = RX11 ∧ Y_Hall_wind.1.cls ≠ "java/lang/invoke/MethodHandle" ∧ Y_Hall_wind.1.cls ≠ "java/lang/invoke/VarHandle" ∧ (parseMethodDescriptor Y_Hall_wind.1.desc).map (fun d => d.parameters.length) = some 1 := by decide +kernel
def Hall_wind (M : Mm) (a0 : Nat) (a1 : Int32) : Option (Int32 × Mm) :=
  bd (Hall_isWithin M a1 0 9) (fun r1 M2 =>
  if r1 = 0 then (
    some (0, M2))
  else (
    ck (kO M2 a0 11 18) (
    let M4 := sI M2 a0 17 a1
    some (1, M4))))
set_option maxRecDepth 100000 in
set_option maxHeartbeats 4000000 in
theorem s_Hall_wind (G : Gx) (M : Mm) (a0 : Nat) (a1 : Int32) : FnS G Y_Hall_wind cvI 2 [.ref a0, .int a1] M (Hall_wind M a0 a1) := by
  refine FnS.ofE (by decide) (Nat.le_of_ble_eq_true rfl) ?_
  show EJ G Y_Hall_wind cvI 2 0 [(0, .ref a0), (1, .int a1)] [] M _
  unfold Hall_wind
  refine EJ_iload_n 1 1 (dk_27 (bt bc_Hall_wind_0 0 rfl)) rfl rfl ?_
  refine EJ_iconst 2 (dk_3 (bt bc_Hall_wind_0 1 rfl)) rfl (v := 0) kI_0 ?_
  refine EJ_bipush 4 (dk_16 (bt bc_Hall_wind_0 2 rfl) (bt bc_Hall_wind_0 3 rfl) (n := 9) rfl) rfl (v := 9) kB_9 ?_
  refine EJ_callSi (Y2 := Y_Hall_isWithin) 7 (s_Hall_isWithin G _ _ _ _) rfl (dk_184 (bt bc_Hall_wind_0 4 rfl) (bt bc_Hall_wind_0 5 rfl) (bt bc_Hall_wind_0 6 rfl) (n := 80) rfl) rfl tw_292 tw_276 tw_1 tw_277 hd_Hall_isWithin rfl (by decide) (Nat.le_of_ble_eq_true rfl) (fun r1 M2 => ?_)
  refine EJ_if_ne 12 10 (dk_154 (bt bc_Hall_wind_0 7 rfl) (bt bc_Hall_wind_0 8 rfl) (bt bc_Hall_wind_0 9 rfl) (n := 5) rfl) (by decide) rfl (fun _ => ?_) (fun _ => ?_)
  · refine EJ_aload_n 13 0 (dk_42 (bt bc_Hall_wind_0 12 rfl)) rfl rfl ?_
    refine EJ_iload_n 14 1 (dk_27 (bt bc_Hall_wind_0 13 rfl)) rfl rfl ?_
    refine EJ_ck (fun h3 => ?_)
    refine EJ_putI cf11 17 (by decide) 17 tw_217 rfl (Or.inl rfl) (dk_181 (bt bc_Hall_wind_0 14 rfl) (bt bc_Hall_wind_0 15 rfl) (bt bc_Hall_wind_0 16 rfl) (n := 249) rfl) rfl (of_decide_eq_true h3) ?_
    refine EJ_iconst 18 (dk_4 (bt bc_Hall_wind_0 17 rfl)) rfl (v := 1) kI_1 ?_
    exact EJ_zret rfl (by decide) (dk_172 (bt bc_Hall_wind_0 18 rfl))
  · refine EJ_iconst 11 (dk_3 (bt bc_Hall_wind_0 10 rfl)) rfl (v := 0) kI_0 ?_
    exact EJ_zret rfl (by decide) (dk_172 (bt bc_Hall_wind_0 11 rfl))
abbrev Y_Hall_light : Ym := (⟨"RiceHall", "light", "()I"⟩, prog_1_method_26_code, 1, (some FieldType.int))
theorem bc_Hall_light_0 : bts prog_1_method_26_code 0 [42, 180, 0, 252, 199, 0, 12, 42, 180, 1, 0, 16, 24, 161, 0, 5, 2, 172, 42, 187, 0, 53, 89, 42, 180, 0, 120, 42, 6, 182, 0, 147] := bts_of (by decide +kernel)
theorem bc_Hall_light_1 : bts prog_1_method_26_code 32 [183, 1, 3, 181, 0, 252, 42, 180, 0, 55, 42, 180, 1, 0, 42, 180, 0, 252, 83, 42, 89, 180, 1, 0, 4, 96, 181, 1, 0, 42, 180, 1] := bts_of (by decide +kernel)
theorem bc_Hall_light_2 : bts prog_1_method_26_code 64 [0, 4, 100, 172] := bts_of (by decide +kernel)
theorem hd_Hall_light : Y_Hall_light.1.cls = RX11 ∧ Y_Hall_light.1.cls ≠ "java/lang/invoke/MethodHandle" ∧ Y_Hall_light.1.cls ≠ "java/lang/invoke/VarHandle" ∧ (parseMethodDescriptor Y_Hall_light.1.desc).map (fun d => d.parameters.length) = some 0 := by decide +kernel
def Hall_light (M : Mm) (a0 : Nat) : Option (Int32 × Mm) :=
  ck (kO M a0 11 18) (
  nl (mR M a0 14) (
    if (mI M a0 13) < 24 then (
      let M3 := nw M 9 11
      ck (kO M3 a0 11 18) (
      bd (Hall_askLaw M3 a0 3) (fun r5 M6 =>
      bd (Session_new M6 (mZ M) (mI M3 a0 16) r5) (fun _ M8 =>
      ck (kO M8 a0 11 18) (
      let M10 := sR M8 a0 14 (some (mZ M))
      nn (mR M10 a0 12) (fun b11 =>
      nn (mR M10 a0 14) (fun b12 =>
      ck (kA M10 b11 26 (mI M10 a0 13)) (
      ck (kO M10 b12 9 11) (
      let M15 := sR M10 b11 (ix (mI M10 a0 13)) (some b12)
      let M16 := sI M15 a0 13 ((mI M15 a0 13) + 1)
      some ((mI M16 a0 13) - 1, M16))))))))))
    else (
      some ((-1), M)))
  (fun b2 =>
    some ((-1), M)))
set_option maxRecDepth 100000 in
set_option maxHeartbeats 4000000 in
theorem s_Hall_light (G : Gx) (M : Mm) (a0 : Nat) : FnS G Y_Hall_light cvI 6 [.ref a0] M (Hall_light M a0) := by
  refine FnS.ofE (by decide) (Nat.le_of_ble_eq_true rfl) ?_
  show EJ G Y_Hall_light cvI 6 0 [(0, .ref a0)] [] M _
  unfold Hall_light
  refine EJ_aload_n 1 0 (dk_42 (bt bc_Hall_light_0 0 rfl)) rfl rfl ?_
  refine EJ_ck (fun h1 => ?_)
  refine EJ_getN cf11 14 (by decide) 4 tw_214 (fun _ _ _ => rfl) (dk_180 (bt bc_Hall_light_0 1 rfl) (bt bc_Hall_light_0 2 rfl) (bt bc_Hall_light_0 3 rfl) (n := 252) rfl) rfl (of_decide_eq_true h1) ?_ (fun b2 => ?_)
  · refine EJ_ifnonnull_N 7 (dk_199 (bt bc_Hall_light_0 4 rfl) (bt bc_Hall_light_0 5 rfl) (bt bc_Hall_light_0 6 rfl) (n := 12) rfl) rfl ?_
    refine EJ_aload_n 8 0 (dk_42 (bt bc_Hall_light_0 7 rfl)) rfl rfl ?_
    refine EJ_getI cf11 13 (by decide) 11 tw_213 (fun _ _ _ => rfl) (dk_180 (bt bc_Hall_light_0 8 rfl) (bt bc_Hall_light_0 9 rfl) (bt bc_Hall_light_0 10 rfl) (n := 256) rfl) rfl (of_decide_eq_true h1) ?_
    refine EJ_bipush 13 (dk_16 (bt bc_Hall_light_0 11 rfl) (bt bc_Hall_light_0 12 rfl) (n := 24) rfl) rfl (v := 24) kB_24 ?_
    refine EJ_icmp_lt 18 16 (dk_161 (bt bc_Hall_light_0 13 rfl) (bt bc_Hall_light_0 14 rfl) (bt bc_Hall_light_0 15 rfl) (n := 5) rfl) (by decide) rfl (fun _ => ?_) (fun _ => ?_)
    · refine EJ_aload_n 19 0 (dk_42 (bt bc_Hall_light_0 18 rfl)) rfl rfl ?_
      refine EJ_new cf9 22 tw_198 (dk_187 (bt bc_Hall_light_0 19 rfl) (bt bc_Hall_light_0 20 rfl) (bt bc_Hall_light_0 21 rfl) (n := 53) rfl) rfl ?_
      refine EJ_dup 23 (dk_89 (bt bc_Hall_light_0 22 rfl)) rfl rfl ?_
      refine EJ_aload_n 24 0 (dk_42 (bt bc_Hall_light_0 23 rfl)) rfl rfl ?_
      refine EJ_ck (fun h4 => ?_)
      refine EJ_getI cf11 16 (by decide) 27 tw_216 (fun _ _ _ => rfl) (dk_180 (bt bc_Hall_light_0 24 rfl) (bt bc_Hall_light_0 25 rfl) (bt bc_Hall_light_0 26 rfl) (n := 120) rfl) rfl (of_decide_eq_true h4) ?_
      refine EJ_aload_n 28 0 (dk_42 (bt bc_Hall_light_0 27 rfl)) rfl rfl ?_
      refine EJ_iconst 29 (dk_6 (bt bc_Hall_light_0 28 rfl)) rfl (v := 3) kI_3 ?_
      refine EJ_callVi (Y2 := Y_Hall_askLaw) 32 cf11 (s_Hall_askLaw G _ _ _) (of_decide_eq_true h4) rfl (dk_182 (bt bc_Hall_light_0 29 rfl) (bt bc_Hall_light_0 30 rfl) (bt bc_Hall_light_0 31 rfl) (n := 147) rfl) rfl tw_499 tw_501 ts_10 tw_502 hd_Hall_askLaw rfl (by decide) (Nat.le_of_ble_eq_true rfl) (fun r5 M6 => ?_)
      refine EJ_callIv (Y2 := Y_Session_new) 35 (s_Session_new G _ _ _ _) rfl (dk_183 (bt bc_Hall_light_1 0 rfl) (bt bc_Hall_light_1 1 rfl) (bt bc_Hall_light_1 2 rfl) (n := 259) rfl) rfl rfl tw_820 tw_821 tw_18 tw_822 rfl hd_Session_new rfl (by decide) (Nat.le_of_ble_eq_true rfl) (fun _ M8 => ?_)
      refine EJ_ck (fun h9 => ?_)
      refine EJ_putR cf11 14 (by decide) 38 tw_214 (fun _ _ _ => rfl) (fun _ => rfl) (fun _ => rfl) (Or.inl rfl) (dk_181 (bt bc_Hall_light_1 3 rfl) (bt bc_Hall_light_1 4 rfl) (bt bc_Hall_light_1 5 rfl) (n := 252) rfl) rfl (of_decide_eq_true h9) ?_
      refine EJ_aload_n 39 0 (dk_42 (bt bc_Hall_light_1 6 rfl)) rfl rfl ?_
      refine EJ_getR cf11 12 (by decide) 42 tw_212 (fun _ _ _ => rfl) (dk_180 (bt bc_Hall_light_1 7 rfl) (bt bc_Hall_light_1 8 rfl) (bt bc_Hall_light_1 9 rfl) (n := 55) rfl) rfl (kp_R (of_decide_eq_true h9)) (fun b11 => ?_)
      refine EJ_aload_n 43 0 (dk_42 (bt bc_Hall_light_1 10 rfl)) rfl rfl ?_
      refine EJ_getI cf11 13 (by decide) 46 tw_213 (fun _ _ _ => rfl) (dk_180 (bt bc_Hall_light_1 11 rfl) (bt bc_Hall_light_1 12 rfl) (bt bc_Hall_light_1 13 rfl) (n := 256) rfl) rfl (kp_R (of_decide_eq_true h9)) ?_
      refine EJ_aload_n 47 0 (dk_42 (bt bc_Hall_light_1 14 rfl)) rfl rfl ?_
      refine EJ_getR cf11 14 (by decide) 50 tw_214 (fun _ _ _ => rfl) (dk_180 (bt bc_Hall_light_1 15 rfl) (bt bc_Hall_light_1 16 rfl) (bt bc_Hall_light_1 17 rfl) (n := 252) rfl) rfl (kp_R (of_decide_eq_true h9)) (fun b12 => ?_)
      refine EJ_ck (fun h13 => ?_)
      refine EJ_ck (fun h14 => ?_)
      refine EJ_aast 6 51 cf9 (by decide) (by decide) rfl h13 (of_decide_eq_true h14) (dk_83 (bt bc_Hall_light_1 18 rfl)) rfl ?_
      refine EJ_aload_n 52 0 (dk_42 (bt bc_Hall_light_1 19 rfl)) rfl rfl ?_
      refine EJ_dup 53 (dk_89 (bt bc_Hall_light_1 20 rfl)) rfl rfl ?_
      refine EJ_getI cf11 13 (by decide) 56 tw_213 (fun _ _ _ => rfl) (dk_180 (bt bc_Hall_light_1 21 rfl) (bt bc_Hall_light_1 22 rfl) (bt bc_Hall_light_1 23 rfl) (n := 256) rfl) rfl (kp_R (kp_R (of_decide_eq_true h9))) ?_
      refine EJ_iconst 57 (dk_4 (bt bc_Hall_light_1 24 rfl)) rfl (v := 1) kI_1 ?_
      refine EJ_iadd 58 (dk_96 (bt bc_Hall_light_1 25 rfl)) rfl ?_
      refine EJ_putI cf11 13 (by decide) 61 tw_213 rfl (Or.inl rfl) (dk_181 (bt bc_Hall_light_1 26 rfl) (bt bc_Hall_light_1 27 rfl) (bt bc_Hall_light_1 28 rfl) (n := 256) rfl) rfl (kp_R (kp_R (of_decide_eq_true h9))) ?_
      refine EJ_aload_n 62 0 (dk_42 (bt bc_Hall_light_1 29 rfl)) rfl rfl ?_
      refine EJ_getI cf11 13 (by decide) 65 tw_213 (fun _ _ _ => rfl) (dk_180 (bt bc_Hall_light_1 30 rfl) (bt bc_Hall_light_1 31 rfl) (bt bc_Hall_light_2 0 rfl) (n := 256) rfl) rfl (kp_I (kp_R (kp_R (of_decide_eq_true h9)))) ?_
      refine EJ_iconst 66 (dk_4 (bt bc_Hall_light_2 1 rfl)) rfl (v := 1) kI_1 ?_
      refine EJ_isub 67 (dk_100 (bt bc_Hall_light_2 2 rfl)) rfl ?_
      exact EJ_iret rfl (dk_172 (bt bc_Hall_light_2 3 rfl))
    · refine EJ_iconst 17 (dk_2 (bt bc_Hall_light_0 16 rfl)) rfl (v := (-1)) kI_m1 ?_
      exact EJ_iret rfl (dk_172 (bt bc_Hall_light_0 17 rfl))
  · refine EJ_ifnonnull_R 16 (dk_199 (bt bc_Hall_light_0 4 rfl) (bt bc_Hall_light_0 5 rfl) (bt bc_Hall_light_0 6 rfl) (n := 12) rfl) (by decide) ?_
    refine EJ_iconst 17 (dk_2 (bt bc_Hall_light_0 16 rfl)) rfl (v := (-1)) kI_m1 ?_
    exact EJ_iret rfl (dk_172 (bt bc_Hall_light_0 17 rfl))
abbrev Y_Hall_cry : Ym := (⟨"RiceHall", "cry", "(IZII)I"⟩, prog_1_method_27_code, 6, (some FieldType.int))
theorem bc_Hall_cry_0 : bts prog_1_method_27_code 0 [42, 180, 0, 252, 198, 0, 45, 42, 27, 182, 0, 111, 153, 0, 37, 29, 4, 16, 50, 184, 0, 80, 153, 0, 27, 21, 4, 4, 17, 39, 15, 184] := bts_of (by decide +kernel)
theorem bc_Hall_cry_1 : bts prog_1_method_27_code 32 [0, 80, 153, 0, 15, 42, 180, 0, 252, 180, 1, 5, 16, 60, 161, 0, 5, 2, 172, 42, 16, 10, 182, 0, 147, 4, 160, 0, 6, 16, 254, 172] := bts_of (by decide +kernel)
theorem bc_Hall_cry_2 : bts prog_1_method_27_code 64 [42, 180, 0, 18, 27, 50, 180, 0, 187, 2, 159, 0, 6, 16, 252, 172, 42, 180, 0, 252, 187, 1, 8, 89, 27, 28, 29, 21, 4, 42, 180, 0] := bts_of (by decide +kernel)
theorem bc_Hall_cry_3 : bts prog_1_method_27_code 96 [120, 183, 1, 10, 182, 1, 13, 54, 5, 21, 4, 42, 3, 182, 0, 147, 42, 4, 182, 0, 147, 184, 0, 80, 154, 0, 6, 16, 253, 172, 42, 180] := bts_of (by decide +kernel)
theorem bc_Hall_cry_4 : bts prog_1_method_27_code 128 [0, 252, 21, 5, 182, 1, 17, 21, 5, 172] := bts_of (by decide +kernel)
theorem hd_Hall_cry : Y_Hall_cry.1.cls = RX11 ∧ Y_Hall_cry.1.cls ≠ "java/lang/invoke/MethodHandle" ∧ Y_Hall_cry.1.cls ≠ "java/lang/invoke/VarHandle" ∧ (parseMethodDescriptor Y_Hall_cry.1.desc).map (fun d => d.parameters.length) = some 4 := by decide +kernel
def Hall_cry (M : Mm) (a0 : Nat) (a1 : Int32) (a2 : Int32) (a3 : Int32) (a4 : Int32) : Option (Int32 × Mm) :=
  ck (kO M a0 11 18) (
  nl (mR M a0 14) (
    some ((-1), M))
  (fun b2 =>
    bd (Hall_isPerson M a0 a1) (fun r3 M4 =>
    if r3 = 0 then (
      some ((-1), M4))
    else (
      bd (Hall_isWithin M4 a3 1 50) (fun r5 M6 =>
      if r5 = 0 then (
        some ((-1), M6))
      else (
        bd (Hall_isWithin M6 a4 1 9999) (fun r7 M8 =>
        if r7 = 0 then (
          some ((-1), M8))
        else (
          ck (kO M8 a0 11 18) (
          nn (mR M8 a0 14) (fun b10 =>
          ck (kO M8 b10 9 11) (
          if (mI M8 b10 4) < 60 then (
            bd (Hall_askLaw M8 a0 10) (fun r12 M13 =>
            if r12 = 1 then (
              some ((-2), M13))
            else (
              ck (kO M13 a0 11 18) (
              nn (mR M13 a0 1) (fun b15 =>
              ck (kA M13 b15 24 a1) (
              nn (mR M13 b15 (ix a1)) (fun b17 =>
              ck (kO M13 b17 6 9) (
              if (mI M13 b17 6) = (-1) then (
                nn (mR M13 a0 14) (fun b19 =>
                let M20 := nw M13 1 6
                ck (kO M20 a0 11 18) (
                bd (Cry_new M20 (mZ M13) a1 a2 a3 a4 (mI M20 a0 16)) (fun _ M23 =>
                ck (kO M23 b19 9 11) (
                bd (Session_addCry M23 b19 (mZ M13)) (fun r25 M26 =>
                ck (kO M26 a0 11 18) (
                bd (Hall_askLaw M26 a0 0) (fun r28 M29 =>
                ck (kO M29 a0 11 18) (
                bd (Hall_askLaw M29 a0 1) (fun r31 M32 =>
                bd (Hall_isWithin M32 a4 r28 r31) (fun r33 M34 =>
                if r33 = 0 then (
                  some ((-3), M34))
                else (
                  ck (kO M34 a0 11 18) (
                  nn (mR M34 a0 14) (fun b36 =>
                  ck (kO M34 b36 9 11) (
                  bd (Session_meet M34 b36 r25) (fun _ M39 =>
                  some (r25, M39)))))))))))))))))
              else (
                some ((-4), M13))))))))))
          else (
            some ((-1), M8)))))))))))))
set_option maxRecDepth 100000 in
set_option maxHeartbeats 4000000 in
theorem s_Hall_cry (G : Gx) (M : Mm) (a0 : Nat) (a1 : Int32) (a2 : Int32) (a3 : Int32) (a4 : Int32) : FnS G Y_Hall_cry cvI 6 [.ref a0, .int a1, .int a2, .int a3, .int a4] M (Hall_cry M a0 a1 a2 a3 a4) := by
  refine FnS.ofE (by decide) (Nat.le_of_ble_eq_true rfl) ?_
  show EJ G Y_Hall_cry cvI 6 0 [(0, .ref a0), (1, .int a1), (2, .int a2), (3, .int a3), (4, .int a4)] [] M _
  unfold Hall_cry
  refine EJ_aload_n 1 0 (dk_42 (bt bc_Hall_cry_0 0 rfl)) rfl rfl ?_
  refine EJ_ck (fun h1 => ?_)
  refine EJ_getN cf11 14 (by decide) 4 tw_214 (fun _ _ _ => rfl) (dk_180 (bt bc_Hall_cry_0 1 rfl) (bt bc_Hall_cry_0 2 rfl) (bt bc_Hall_cry_0 3 rfl) (n := 252) rfl) rfl (of_decide_eq_true h1) ?_ (fun b2 => ?_)
  · refine EJ_ifnull_N 49 (dk_198 (bt bc_Hall_cry_0 4 rfl) (bt bc_Hall_cry_0 5 rfl) (bt bc_Hall_cry_0 6 rfl) (n := 45) rfl) (by decide) ?_
    refine EJ_iconst 50 (dk_2 (bt bc_Hall_cry_1 17 rfl)) rfl (v := (-1)) kI_m1 ?_
    exact EJ_iret rfl (dk_172 (bt bc_Hall_cry_1 18 rfl))
  · refine EJ_ifnull_R 7 (dk_198 (bt bc_Hall_cry_0 4 rfl) (bt bc_Hall_cry_0 5 rfl) (bt bc_Hall_cry_0 6 rfl) (n := 45) rfl) rfl ?_
    refine EJ_aload_n 8 0 (dk_42 (bt bc_Hall_cry_0 7 rfl)) rfl rfl ?_
    refine EJ_iload_n 9 1 (dk_27 (bt bc_Hall_cry_0 8 rfl)) rfl rfl ?_
    refine EJ_callVi (Y2 := Y_Hall_isPerson) 12 cf11 (s_Hall_isPerson G _ _ _) (of_decide_eq_true h1) rfl (dk_182 (bt bc_Hall_cry_0 9 rfl) (bt bc_Hall_cry_0 10 rfl) (bt bc_Hall_cry_0 11 rfl) (n := 111) rfl) rfl tw_457 tw_459 ts_8 tw_460 hd_Hall_isPerson rfl (by decide) (Nat.le_of_ble_eq_true rfl) (fun r3 M4 => ?_)
    refine EJ_if_eq 49 15 (dk_153 (bt bc_Hall_cry_0 12 rfl) (bt bc_Hall_cry_0 13 rfl) (bt bc_Hall_cry_0 14 rfl) (n := 37) rfl) (by decide) rfl (fun _ => ?_) (fun _ => ?_)
    · refine EJ_iconst 50 (dk_2 (bt bc_Hall_cry_1 17 rfl)) rfl (v := (-1)) kI_m1 ?_
      exact EJ_iret rfl (dk_172 (bt bc_Hall_cry_1 18 rfl))
    · refine EJ_iload_n 16 3 (dk_29 (bt bc_Hall_cry_0 15 rfl)) rfl rfl ?_
      refine EJ_iconst 17 (dk_4 (bt bc_Hall_cry_0 16 rfl)) rfl (v := 1) kI_1 ?_
      refine EJ_bipush 19 (dk_16 (bt bc_Hall_cry_0 17 rfl) (bt bc_Hall_cry_0 18 rfl) (n := 50) rfl) rfl (v := 50) kB_50 ?_
      refine EJ_callSi (Y2 := Y_Hall_isWithin) 22 (s_Hall_isWithin G _ _ _ _) rfl (dk_184 (bt bc_Hall_cry_0 19 rfl) (bt bc_Hall_cry_0 20 rfl) (bt bc_Hall_cry_0 21 rfl) (n := 80) rfl) rfl tw_292 tw_276 tw_1 tw_277 hd_Hall_isWithin rfl (by decide) (Nat.le_of_ble_eq_true rfl) (fun r5 M6 => ?_)
      refine EJ_if_eq 49 25 (dk_153 (bt bc_Hall_cry_0 22 rfl) (bt bc_Hall_cry_0 23 rfl) (bt bc_Hall_cry_0 24 rfl) (n := 27) rfl) (by decide) rfl (fun _ => ?_) (fun _ => ?_)
      · refine EJ_iconst 50 (dk_2 (bt bc_Hall_cry_1 17 rfl)) rfl (v := (-1)) kI_m1 ?_
        exact EJ_iret rfl (dk_172 (bt bc_Hall_cry_1 18 rfl))
      · refine EJ_iload 27 4 (dk_21 (bt bc_Hall_cry_0 25 rfl) (bt bc_Hall_cry_0 26 rfl)) rfl rfl ?_
        refine EJ_iconst 28 (dk_4 (bt bc_Hall_cry_0 27 rfl)) rfl (v := 1) kI_1 ?_
        refine EJ_sipush 31 (dk_17 (bt bc_Hall_cry_0 28 rfl) (bt bc_Hall_cry_0 29 rfl) (bt bc_Hall_cry_0 30 rfl) (n := 9999) rfl) rfl (v := 9999) kS_9999 ?_
        refine EJ_callSi (Y2 := Y_Hall_isWithin) 34 (s_Hall_isWithin G _ _ _ _) rfl (dk_184 (bt bc_Hall_cry_0 31 rfl) (bt bc_Hall_cry_1 0 rfl) (bt bc_Hall_cry_1 1 rfl) (n := 80) rfl) rfl tw_292 tw_276 tw_1 tw_277 hd_Hall_isWithin rfl (by decide) (Nat.le_of_ble_eq_true rfl) (fun r7 M8 => ?_)
        refine EJ_if_eq 49 37 (dk_153 (bt bc_Hall_cry_1 2 rfl) (bt bc_Hall_cry_1 3 rfl) (bt bc_Hall_cry_1 4 rfl) (n := 15) rfl) (by decide) rfl (fun _ => ?_) (fun _ => ?_)
        · refine EJ_iconst 50 (dk_2 (bt bc_Hall_cry_1 17 rfl)) rfl (v := (-1)) kI_m1 ?_
          exact EJ_iret rfl (dk_172 (bt bc_Hall_cry_1 18 rfl))
        · refine EJ_aload_n 38 0 (dk_42 (bt bc_Hall_cry_1 5 rfl)) rfl rfl ?_
          refine EJ_ck (fun h9 => ?_)
          refine EJ_getR cf11 14 (by decide) 41 tw_214 (fun _ _ _ => rfl) (dk_180 (bt bc_Hall_cry_1 6 rfl) (bt bc_Hall_cry_1 7 rfl) (bt bc_Hall_cry_1 8 rfl) (n := 252) rfl) rfl (of_decide_eq_true h9) (fun b10 => ?_)
          refine EJ_ck (fun h11 => ?_)
          refine EJ_getI cf9 4 (by decide) 44 tw_836 (fun _ _ _ => rfl) (dk_180 (bt bc_Hall_cry_1 9 rfl) (bt bc_Hall_cry_1 10 rfl) (bt bc_Hall_cry_1 11 rfl) (n := 261) rfl) rfl (of_decide_eq_true h11) ?_
          refine EJ_bipush 46 (dk_16 (bt bc_Hall_cry_1 12 rfl) (bt bc_Hall_cry_1 13 rfl) (n := 60) rfl) rfl (v := 60) kB_60 ?_
          refine EJ_icmp_lt 51 49 (dk_161 (bt bc_Hall_cry_1 14 rfl) (bt bc_Hall_cry_1 15 rfl) (bt bc_Hall_cry_1 16 rfl) (n := 5) rfl) (by decide) rfl (fun _ => ?_) (fun _ => ?_)
          · refine EJ_aload_n 52 0 (dk_42 (bt bc_Hall_cry_1 19 rfl)) rfl rfl ?_
            refine EJ_bipush 54 (dk_16 (bt bc_Hall_cry_1 20 rfl) (bt bc_Hall_cry_1 21 rfl) (n := 10) rfl) rfl (v := 10) kB_10 ?_
            refine EJ_callVi (Y2 := Y_Hall_askLaw) 57 cf11 (s_Hall_askLaw G _ _ _) (of_decide_eq_true h9) rfl (dk_182 (bt bc_Hall_cry_1 22 rfl) (bt bc_Hall_cry_1 23 rfl) (bt bc_Hall_cry_1 24 rfl) (n := 147) rfl) rfl tw_499 tw_501 ts_10 tw_502 hd_Hall_askLaw rfl (by decide) (Nat.le_of_ble_eq_true rfl) (fun r12 M13 => ?_)
            refine EJ_iconst 58 (dk_4 (bt bc_Hall_cry_1 25 rfl)) rfl (v := 1) kI_1 ?_
            refine EJ_icmp_ne 64 61 (dk_160 (bt bc_Hall_cry_1 26 rfl) (bt bc_Hall_cry_1 27 rfl) (bt bc_Hall_cry_1 28 rfl) (n := 6) rfl) (by decide) rfl (fun _ => ?_) (fun _ => ?_)
            · refine EJ_aload_n 65 0 (dk_42 (bt bc_Hall_cry_2 0 rfl)) rfl rfl ?_
              refine EJ_ck (fun h14 => ?_)
              refine EJ_getR cf11 1 (by decide) 68 tw_201 (fun _ _ _ => rfl) (dk_180 (bt bc_Hall_cry_2 1 rfl) (bt bc_Hall_cry_2 2 rfl) (bt bc_Hall_cry_2 3 rfl) (n := 18) rfl) rfl (of_decide_eq_true h14) (fun b15 => ?_)
              refine EJ_iload_n 69 1 (dk_27 (bt bc_Hall_cry_2 4 rfl)) rfl rfl ?_
              refine EJ_ck (fun h16 => ?_)
              refine EJ_aald 4 70 (by decide) (by decide) rfl h16 (dk_50 (bt bc_Hall_cry_2 5 rfl)) rfl (fun b17 => ?_)
              refine EJ_ck (fun h18 => ?_)
              refine EJ_getI cf6 6 (by decide) 73 tw_355 (fun _ _ _ => rfl) (dk_180 (bt bc_Hall_cry_2 6 rfl) (bt bc_Hall_cry_2 7 rfl) (bt bc_Hall_cry_2 8 rfl) (n := 187) rfl) rfl (of_decide_eq_true h18) ?_
              refine EJ_iconst 74 (dk_2 (bt bc_Hall_cry_2 9 rfl)) rfl (v := (-1)) kI_m1 ?_
              refine EJ_icmp_eq 80 77 (dk_159 (bt bc_Hall_cry_2 10 rfl) (bt bc_Hall_cry_2 11 rfl) (bt bc_Hall_cry_2 12 rfl) (n := 6) rfl) (by decide) rfl (fun _ => ?_) (fun _ => ?_)
              · refine EJ_aload_n 81 0 (dk_42 (bt bc_Hall_cry_2 16 rfl)) rfl rfl ?_
                refine EJ_getR cf11 14 (by decide) 84 tw_214 (fun _ _ _ => rfl) (dk_180 (bt bc_Hall_cry_2 17 rfl) (bt bc_Hall_cry_2 18 rfl) (bt bc_Hall_cry_2 19 rfl) (n := 252) rfl) rfl (of_decide_eq_true h14) (fun b19 => ?_)
                refine EJ_new cf1 87 tw_877 (dk_187 (bt bc_Hall_cry_2 20 rfl) (bt bc_Hall_cry_2 21 rfl) (bt bc_Hall_cry_2 22 rfl) (n := 264) rfl) rfl ?_
                refine EJ_dup 88 (dk_89 (bt bc_Hall_cry_2 23 rfl)) rfl rfl ?_
                refine EJ_iload_n 89 1 (dk_27 (bt bc_Hall_cry_2 24 rfl)) rfl rfl ?_
                refine EJ_iload_n 90 2 (dk_28 (bt bc_Hall_cry_2 25 rfl)) rfl rfl ?_
                refine EJ_iload_n 91 3 (dk_29 (bt bc_Hall_cry_2 26 rfl)) rfl rfl ?_
                refine EJ_iload 93 4 (dk_21 (bt bc_Hall_cry_2 27 rfl) (bt bc_Hall_cry_2 28 rfl)) rfl rfl ?_
                refine EJ_aload_n 94 0 (dk_42 (bt bc_Hall_cry_2 29 rfl)) rfl rfl ?_
                refine EJ_ck (fun h21 => ?_)
                refine EJ_getI cf11 16 (by decide) 97 tw_216 (fun _ _ _ => rfl) (dk_180 (bt bc_Hall_cry_2 30 rfl) (bt bc_Hall_cry_2 31 rfl) (bt bc_Hall_cry_3 0 rfl) (n := 120) rfl) rfl (of_decide_eq_true h21) ?_
                refine EJ_callIv (Y2 := Y_Cry_new) 100 (s_Cry_new G _ _ _ _ _ _ _) rfl (dk_183 (bt bc_Hall_cry_3 1 rfl) (bt bc_Hall_cry_3 2 rfl) (bt bc_Hall_cry_3 3 rfl) (n := 266) rfl) rfl rfl tw_879 tw_880 tw_19 tw_881 rfl hd_Cry_new rfl (by decide) (Nat.le_of_ble_eq_true rfl) (fun _ M23 => ?_)
                refine EJ_ck (fun h24 => ?_)
                refine EJ_callVi (Y2 := Y_Session_addCry) 103 cf9 (s_Session_addCry G _ _ _) (of_decide_eq_true h24) rfl (dk_182 (bt bc_Hall_cry_3 4 rfl) (bt bc_Hall_cry_3 5 rfl) (bt bc_Hall_cry_3 6 rfl) (n := 269) rfl) rfl tw_911 tw_912 tw_913 tw_914 hd_Session_addCry rfl (by decide) (Nat.le_of_ble_eq_true rfl) (fun r25 M26 => ?_)
                refine EJ_istore 105 (lv2 := [(5, .int _), (0, .ref _), (1, .int _), (2, .int _), (3, .int _), (4, .int _)]) (dk_54 (bt bc_Hall_cry_3 7 rfl) (bt bc_Hall_cry_3 8 rfl)) rfl (by decide) rfl ?_
                refine EJ_iload 107 5 (dk_21 (bt bc_Hall_cry_3 9 rfl) (bt bc_Hall_cry_3 10 rfl)) rfl rfl ?_
                refine EJ_aload_n 108 1 (dk_42 (bt bc_Hall_cry_3 11 rfl)) rfl rfl ?_
                refine EJ_iconst 109 (dk_3 (bt bc_Hall_cry_3 12 rfl)) rfl (v := 0) kI_0 ?_
                refine EJ_ck (fun h27 => ?_)
                refine EJ_callVi (Y2 := Y_Hall_askLaw) 112 cf11 (s_Hall_askLaw G _ _ _) (of_decide_eq_true h27) rfl (dk_182 (bt bc_Hall_cry_3 13 rfl) (bt bc_Hall_cry_3 14 rfl) (bt bc_Hall_cry_3 15 rfl) (n := 147) rfl) rfl tw_499 tw_501 ts_10 tw_502 hd_Hall_askLaw rfl (by decide) (Nat.le_of_ble_eq_true rfl) (fun r28 M29 => ?_)
                refine EJ_aload_n 113 1 (dk_42 (bt bc_Hall_cry_3 16 rfl)) rfl rfl ?_
                refine EJ_iconst 114 (dk_4 (bt bc_Hall_cry_3 17 rfl)) rfl (v := 1) kI_1 ?_
                refine EJ_ck (fun h30 => ?_)
                refine EJ_callVi (Y2 := Y_Hall_askLaw) 117 cf11 (s_Hall_askLaw G _ _ _) (of_decide_eq_true h30) rfl (dk_182 (bt bc_Hall_cry_3 18 rfl) (bt bc_Hall_cry_3 19 rfl) (bt bc_Hall_cry_3 20 rfl) (n := 147) rfl) rfl tw_499 tw_501 ts_10 tw_502 hd_Hall_askLaw rfl (by decide) (Nat.le_of_ble_eq_true rfl) (fun r31 M32 => ?_)
                refine EJ_callSi (Y2 := Y_Hall_isWithin) 120 (s_Hall_isWithin G _ _ _ _) rfl (dk_184 (bt bc_Hall_cry_3 21 rfl) (bt bc_Hall_cry_3 22 rfl) (bt bc_Hall_cry_3 23 rfl) (n := 80) rfl) rfl tw_292 tw_276 tw_1 tw_277 hd_Hall_isWithin rfl (by decide) (Nat.le_of_ble_eq_true rfl) (fun r33 M34 => ?_)
                refine EJ_if_ne 126 123 (dk_154 (bt bc_Hall_cry_3 24 rfl) (bt bc_Hall_cry_3 25 rfl) (bt bc_Hall_cry_3 26 rfl) (n := 6) rfl) (by decide) rfl (fun _ => ?_) (fun _ => ?_)
                · refine EJ_aload_n 127 1 (dk_42 (bt bc_Hall_cry_3 30 rfl)) rfl rfl ?_
                  refine EJ_ck (fun h35 => ?_)
                  refine EJ_getR cf11 14 (by decide) 130 tw_214 (fun _ _ _ => rfl) (dk_180 (bt bc_Hall_cry_3 31 rfl) (bt bc_Hall_cry_4 0 rfl) (bt bc_Hall_cry_4 1 rfl) (n := 252) rfl) rfl (of_decide_eq_true h35) (fun b36 => ?_)
                  refine EJ_iload 132 0 (dk_21 (bt bc_Hall_cry_4 2 rfl) (bt bc_Hall_cry_4 3 rfl)) rfl rfl ?_
                  refine EJ_ck (fun h37 => ?_)
                  refine EJ_callVv (Y2 := Y_Session_meet) 135 cf9 (s_Session_meet G _ _ _) (of_decide_eq_true h37) rfl (dk_182 (bt bc_Hall_cry_4 4 rfl) (bt bc_Hall_cry_4 5 rfl) (bt bc_Hall_cry_4 6 rfl) (n := 273) rfl) rfl tw_915 tw_916 tw_917 tw_918 hd_Session_meet rfl (by decide) (Nat.le_of_ble_eq_true rfl) (fun _ M39 => ?_)
                  refine EJ_iload 137 0 (dk_21 (bt bc_Hall_cry_4 7 rfl) (bt bc_Hall_cry_4 8 rfl)) rfl rfl ?_
                  exact EJ_iret rfl (dk_172 (bt bc_Hall_cry_4 9 rfl))
                · refine EJ_bipush 125 (dk_16 (bt bc_Hall_cry_3 27 rfl) (bt bc_Hall_cry_3 28 rfl) (n := -3) rfl) rfl (v := (-3)) kB_m3 ?_
                  exact EJ_iret rfl (dk_172 (bt bc_Hall_cry_3 29 rfl))
              · refine EJ_bipush 79 (dk_16 (bt bc_Hall_cry_2 13 rfl) (bt bc_Hall_cry_2 14 rfl) (n := -4) rfl) rfl (v := (-4)) kB_m4 ?_
                exact EJ_iret rfl (dk_172 (bt bc_Hall_cry_2 15 rfl))
            · refine EJ_bipush 63 (dk_16 (bt bc_Hall_cry_1 29 rfl) (bt bc_Hall_cry_1 30 rfl) (n := -2) rfl) rfl (v := (-2)) kB_m2 ?_
              exact EJ_iret rfl (dk_172 (bt bc_Hall_cry_1 31 rfl))
          · refine EJ_iconst 50 (dk_2 (bt bc_Hall_cry_1 17 rfl)) rfl (v := (-1)) kI_m1 ?_
            exact EJ_iret rfl (dk_172 (bt bc_Hall_cry_1 18 rfl))
abbrev Y_Hall_back : Ym := (⟨"RiceHall", "back", "(I)I"⟩, prog_1_method_28_code, 2, (some FieldType.int))
theorem bc_Hall_back_0 : bts prog_1_method_28_code 0 [42, 180, 0, 252, 199, 0, 7, 2, 167, 0, 11, 42, 180, 0, 252, 27, 182, 1, 20, 172] := bts_of (by decide +kernel)
theorem hd_Hall_back : Y_Hall_back.1.cls = RX11 ∧ Y_Hall_back.1.cls ≠ "java/lang/invoke/MethodHandle" ∧ Y_Hall_back.1.cls ≠ "java/lang/invoke/VarHandle" ∧ (parseMethodDescriptor Y_Hall_back.1.desc).map (fun d => d.parameters.length) = some 1 := by decide +kernel
def Hall_back (M : Mm) (a0 : Nat) (a1 : Int32) : Option (Int32 × Mm) :=
  ck (kO M a0 11 18) (
  nl (mR M a0 14) (
    some ((-1), M))
  (fun b2 =>
    nn (mR M a0 14) (fun b3 =>
    ck (kO M b3 9 11) (
    bd (Session_takeBack M b3 a1) (fun r5 M6 =>
    some (r5, M6))))))
set_option maxRecDepth 100000 in
set_option maxHeartbeats 4000000 in
theorem s_Hall_back (G : Gx) (M : Mm) (a0 : Nat) (a1 : Int32) : FnS G Y_Hall_back cvI 2 [.ref a0, .int a1] M (Hall_back M a0 a1) := by
  refine FnS.ofE (by decide) (Nat.le_of_ble_eq_true rfl) ?_
  show EJ G Y_Hall_back cvI 2 0 [(0, .ref a0), (1, .int a1)] [] M _
  unfold Hall_back
  refine EJ_aload_n 1 0 (dk_42 (bt bc_Hall_back_0 0 rfl)) rfl rfl ?_
  refine EJ_ck (fun h1 => ?_)
  refine EJ_getN cf11 14 (by decide) 4 tw_214 (fun _ _ _ => rfl) (dk_180 (bt bc_Hall_back_0 1 rfl) (bt bc_Hall_back_0 2 rfl) (bt bc_Hall_back_0 3 rfl) (n := 252) rfl) rfl (of_decide_eq_true h1) ?_ (fun b2 => ?_)
  · refine EJ_ifnonnull_N 7 (dk_199 (bt bc_Hall_back_0 4 rfl) (bt bc_Hall_back_0 5 rfl) (bt bc_Hall_back_0 6 rfl) (n := 7) rfl) rfl ?_
    refine EJ_iconst 8 (dk_2 (bt bc_Hall_back_0 7 rfl)) rfl (v := (-1)) kI_m1 ?_
    refine EJ_goto 19 (dk_167 (bt bc_Hall_back_0 8 rfl) (bt bc_Hall_back_0 9 rfl) (bt bc_Hall_back_0 10 rfl) (n := 11) rfl) (by decide) ?_
    exact EJ_iret rfl (dk_172 (bt bc_Hall_back_0 19 rfl))
  · refine EJ_ifnonnull_R 11 (dk_199 (bt bc_Hall_back_0 4 rfl) (bt bc_Hall_back_0 5 rfl) (bt bc_Hall_back_0 6 rfl) (n := 7) rfl) (by decide) ?_
    refine EJ_aload_n 12 0 (dk_42 (bt bc_Hall_back_0 11 rfl)) rfl rfl ?_
    refine EJ_getR cf11 14 (by decide) 15 tw_214 (fun _ _ _ => rfl) (dk_180 (bt bc_Hall_back_0 12 rfl) (bt bc_Hall_back_0 13 rfl) (bt bc_Hall_back_0 14 rfl) (n := 252) rfl) rfl (of_decide_eq_true h1) (fun b3 => ?_)
    refine EJ_iload_n 16 1 (dk_27 (bt bc_Hall_back_0 15 rfl)) rfl rfl ?_
    refine EJ_ck (fun h4 => ?_)
    refine EJ_callVi (Y2 := Y_Session_takeBack) 19 cf9 (s_Session_takeBack G _ _ _) (of_decide_eq_true h4) rfl (dk_182 (bt bc_Hall_back_0 16 rfl) (bt bc_Hall_back_0 17 rfl) (bt bc_Hall_back_0 18 rfl) (n := 276) rfl) rfl tw_1001 tw_1002 tw_1003 tw_1004 hd_Session_takeBack rfl (by decide) (Nat.le_of_ble_eq_true rfl) (fun r5 M6 => ?_)
    exact EJ_iret rfl (dk_172 (bt bc_Hall_back_0 19 rfl))
abbrev Y_Hall_note : Ym := (⟨"RiceHall", "note", "(IZII)Z"⟩, prog_1_method_29_code, 5, (some FieldType.boolean))
theorem bc_Hall_note_0 : bts prog_1_method_29_code 0 [42, 180, 0, 252, 198, 0, 36, 42, 180, 0, 252, 27, 182, 1, 23, 153, 0, 25, 29, 4, 16, 99, 184, 0, 80, 153, 0, 15, 21, 4, 4, 17] := bts_of (by decide +kernel)
theorem bc_Hall_note_1 : bts prog_1_method_29_code 32 [39, 15, 184, 0, 80, 154, 0, 5, 3, 172, 42, 180, 0, 252, 180, 1, 26, 27, 50, 28, 29, 21, 4, 182, 1, 30, 4, 172] := bts_of (by decide +kernel)
theorem hd_Hall_note : Y_Hall_note.1.cls = RX11 ∧ Y_Hall_note.1.cls ≠ "java/lang/invoke/MethodHandle" ∧ Y_Hall_note.1.cls ≠ "java/lang/invoke/VarHandle" ∧ (parseMethodDescriptor Y_Hall_note.1.desc).map (fun d => d.parameters.length) = some 4 := by decide +kernel
def Hall_note (M : Mm) (a0 : Nat) (a1 : Int32) (a2 : Int32) (a3 : Int32) (a4 : Int32) : Option (Int32 × Mm) :=
  ck (kO M a0 11 18) (
  nl (mR M a0 14) (
    some (0, M))
  (fun b2 =>
    nn (mR M a0 14) (fun b3 =>
    ck (kO M b3 9 11) (
    bd (Session_hasBargain M b3 a1) (fun r5 M6 =>
    if r5 = 0 then (
      some (0, M6))
    else (
      bd (Hall_isWithin M6 a3 1 99) (fun r7 M8 =>
      if r7 = 0 then (
        some (0, M8))
      else (
        bd (Hall_isWithin M8 a4 1 9999) (fun r9 M10 =>
        if r9 = 0 then (
          some (0, M10))
        else (
          ck (kO M10 a0 11 18) (
          nn (mR M10 a0 14) (fun b12 =>
          ck (kO M10 b12 9 11) (
          nn (mR M10 b12 3) (fun b14 =>
          ck (kA M10 b14 29 a1) (
          nn (mR M10 b14 (ix a1)) (fun b16 =>
          ck (kO M10 b16 0 14) (
          bd (Bargain_write M10 b16 a2 a3 a4) (fun _ M19 =>
          some (1, M19)))))))))))))))))))
set_option maxRecDepth 100000 in
set_option maxHeartbeats 4000000 in
theorem s_Hall_note (G : Gx) (M : Mm) (a0 : Nat) (a1 : Int32) (a2 : Int32) (a3 : Int32) (a4 : Int32) : FnS G Y_Hall_note cvI 2 [.ref a0, .int a1, .int a2, .int a3, .int a4] M (Hall_note M a0 a1 a2 a3 a4) := by
  refine FnS.ofE (by decide) (Nat.le_of_ble_eq_true rfl) ?_
  show EJ G Y_Hall_note cvI 2 0 [(0, .ref a0), (1, .int a1), (2, .int a2), (3, .int a3), (4, .int a4)] [] M _
  unfold Hall_note
  refine EJ_aload_n 1 0 (dk_42 (bt bc_Hall_note_0 0 rfl)) rfl rfl ?_
  refine EJ_ck (fun h1 => ?_)
  refine EJ_getN cf11 14 (by decide) 4 tw_214 (fun _ _ _ => rfl) (dk_180 (bt bc_Hall_note_0 1 rfl) (bt bc_Hall_note_0 2 rfl) (bt bc_Hall_note_0 3 rfl) (n := 252) rfl) rfl (of_decide_eq_true h1) ?_ (fun b2 => ?_)
  · refine EJ_ifnull_N 40 (dk_198 (bt bc_Hall_note_0 4 rfl) (bt bc_Hall_note_0 5 rfl) (bt bc_Hall_note_0 6 rfl) (n := 36) rfl) (by decide) ?_
    refine EJ_iconst 41 (dk_3 (bt bc_Hall_note_1 8 rfl)) rfl (v := 0) kI_0 ?_
    exact EJ_zret rfl (by decide) (dk_172 (bt bc_Hall_note_1 9 rfl))
  · refine EJ_ifnull_R 7 (dk_198 (bt bc_Hall_note_0 4 rfl) (bt bc_Hall_note_0 5 rfl) (bt bc_Hall_note_0 6 rfl) (n := 36) rfl) rfl ?_
    refine EJ_aload_n 8 0 (dk_42 (bt bc_Hall_note_0 7 rfl)) rfl rfl ?_
    refine EJ_getR cf11 14 (by decide) 11 tw_214 (fun _ _ _ => rfl) (dk_180 (bt bc_Hall_note_0 8 rfl) (bt bc_Hall_note_0 9 rfl) (bt bc_Hall_note_0 10 rfl) (n := 252) rfl) rfl (of_decide_eq_true h1) (fun b3 => ?_)
    refine EJ_iload_n 12 1 (dk_27 (bt bc_Hall_note_0 11 rfl)) rfl rfl ?_
    refine EJ_ck (fun h4 => ?_)
    refine EJ_callVi (Y2 := Y_Session_hasBargain) 15 cf9 (s_Session_hasBargain G _ _ _) (of_decide_eq_true h4) rfl (dk_182 (bt bc_Hall_note_0 12 rfl) (bt bc_Hall_note_0 13 rfl) (bt bc_Hall_note_0 14 rfl) (n := 279) rfl) rfl tw_1009 tw_1010 tw_1011 tw_1012 hd_Session_hasBargain rfl (by decide) (Nat.le_of_ble_eq_true rfl) (fun r5 M6 => ?_)
    refine EJ_if_eq 40 18 (dk_153 (bt bc_Hall_note_0 15 rfl) (bt bc_Hall_note_0 16 rfl) (bt bc_Hall_note_0 17 rfl) (n := 25) rfl) (by decide) rfl (fun _ => ?_) (fun _ => ?_)
    · refine EJ_iconst 41 (dk_3 (bt bc_Hall_note_1 8 rfl)) rfl (v := 0) kI_0 ?_
      exact EJ_zret rfl (by decide) (dk_172 (bt bc_Hall_note_1 9 rfl))
    · refine EJ_iload_n 19 3 (dk_29 (bt bc_Hall_note_0 18 rfl)) rfl rfl ?_
      refine EJ_iconst 20 (dk_4 (bt bc_Hall_note_0 19 rfl)) rfl (v := 1) kI_1 ?_
      refine EJ_bipush 22 (dk_16 (bt bc_Hall_note_0 20 rfl) (bt bc_Hall_note_0 21 rfl) (n := 99) rfl) rfl (v := 99) kB_99 ?_
      refine EJ_callSi (Y2 := Y_Hall_isWithin) 25 (s_Hall_isWithin G _ _ _ _) rfl (dk_184 (bt bc_Hall_note_0 22 rfl) (bt bc_Hall_note_0 23 rfl) (bt bc_Hall_note_0 24 rfl) (n := 80) rfl) rfl tw_292 tw_276 tw_1 tw_277 hd_Hall_isWithin rfl (by decide) (Nat.le_of_ble_eq_true rfl) (fun r7 M8 => ?_)
      refine EJ_if_eq 40 28 (dk_153 (bt bc_Hall_note_0 25 rfl) (bt bc_Hall_note_0 26 rfl) (bt bc_Hall_note_0 27 rfl) (n := 15) rfl) (by decide) rfl (fun _ => ?_) (fun _ => ?_)
      · refine EJ_iconst 41 (dk_3 (bt bc_Hall_note_1 8 rfl)) rfl (v := 0) kI_0 ?_
        exact EJ_zret rfl (by decide) (dk_172 (bt bc_Hall_note_1 9 rfl))
      · refine EJ_iload 30 4 (dk_21 (bt bc_Hall_note_0 28 rfl) (bt bc_Hall_note_0 29 rfl)) rfl rfl ?_
        refine EJ_iconst 31 (dk_4 (bt bc_Hall_note_0 30 rfl)) rfl (v := 1) kI_1 ?_
        refine EJ_sipush 34 (dk_17 (bt bc_Hall_note_0 31 rfl) (bt bc_Hall_note_1 0 rfl) (bt bc_Hall_note_1 1 rfl) (n := 9999) rfl) rfl (v := 9999) kS_9999 ?_
        refine EJ_callSi (Y2 := Y_Hall_isWithin) 37 (s_Hall_isWithin G _ _ _ _) rfl (dk_184 (bt bc_Hall_note_1 2 rfl) (bt bc_Hall_note_1 3 rfl) (bt bc_Hall_note_1 4 rfl) (n := 80) rfl) rfl tw_292 tw_276 tw_1 tw_277 hd_Hall_isWithin rfl (by decide) (Nat.le_of_ble_eq_true rfl) (fun r9 M10 => ?_)
        refine EJ_if_ne 42 40 (dk_154 (bt bc_Hall_note_1 5 rfl) (bt bc_Hall_note_1 6 rfl) (bt bc_Hall_note_1 7 rfl) (n := 5) rfl) (by decide) rfl (fun _ => ?_) (fun _ => ?_)
        · refine EJ_aload_n 43 0 (dk_42 (bt bc_Hall_note_1 10 rfl)) rfl rfl ?_
          refine EJ_ck (fun h11 => ?_)
          refine EJ_getR cf11 14 (by decide) 46 tw_214 (fun _ _ _ => rfl) (dk_180 (bt bc_Hall_note_1 11 rfl) (bt bc_Hall_note_1 12 rfl) (bt bc_Hall_note_1 13 rfl) (n := 252) rfl) rfl (of_decide_eq_true h11) (fun b12 => ?_)
          refine EJ_ck (fun h13 => ?_)
          refine EJ_getR cf9 3 (by decide) 49 tw_834 (fun _ _ _ => rfl) (dk_180 (bt bc_Hall_note_1 14 rfl) (bt bc_Hall_note_1 15 rfl) (bt bc_Hall_note_1 16 rfl) (n := 282) rfl) rfl (of_decide_eq_true h13) (fun b14 => ?_)
          refine EJ_iload_n 50 1 (dk_27 (bt bc_Hall_note_1 17 rfl)) rfl rfl ?_
          refine EJ_ck (fun h15 => ?_)
          refine EJ_aald 9 51 (by decide) (by decide) rfl h15 (dk_50 (bt bc_Hall_note_1 18 rfl)) rfl (fun b16 => ?_)
          refine EJ_iload_n 52 2 (dk_28 (bt bc_Hall_note_1 19 rfl)) rfl rfl ?_
          refine EJ_iload_n 53 3 (dk_29 (bt bc_Hall_note_1 20 rfl)) rfl rfl ?_
          refine EJ_iload 55 4 (dk_21 (bt bc_Hall_note_1 21 rfl) (bt bc_Hall_note_1 22 rfl)) rfl rfl ?_
          refine EJ_ck (fun h17 => ?_)
          refine EJ_callVv (Y2 := Y_Bargain_write) 58 cf0 (s_Bargain_write G _ _ _ _ _) (of_decide_eq_true h17) rfl (dk_182 (bt bc_Hall_note_1 23 rfl) (bt bc_Hall_note_1 24 rfl) (bt bc_Hall_note_1 25 rfl) (n := 286) rfl) rfl tw_1013 tw_1014 tw_1015 tw_1016 hd_Bargain_write rfl (by decide) (Nat.le_of_ble_eq_true rfl) (fun _ M19 => ?_)
          refine EJ_iconst 59 (dk_4 (bt bc_Hall_note_1 26 rfl)) rfl (v := 1) kI_1 ?_
          exact EJ_zret rfl (by decide) (dk_172 (bt bc_Hall_note_1 27 rfl))
        · refine EJ_iconst 41 (dk_3 (bt bc_Hall_note_1 8 rfl)) rfl (v := 0) kI_0 ?_
          exact EJ_zret rfl (by decide) (dk_172 (bt bc_Hall_note_1 9 rfl))
abbrev Y_Hall_deny : Ym := (⟨"RiceHall", "deny", "(IZ)Z"⟩, prog_1_method_30_code, 3, (some FieldType.boolean))
theorem bc_Hall_deny_0 : bts prog_1_method_30_code 0 [42, 180, 0, 252, 198, 0, 14, 42, 180, 0, 252, 27, 182, 1, 23, 154, 0, 5, 3, 172, 42, 180, 0, 252, 180, 1, 26, 27, 50, 28, 182, 1] := bts_of (by decide +kernel)
theorem bc_Hall_deny_1 : bts prog_1_method_30_code 32 [36, 172] := bts_of (by decide +kernel)
theorem hd_Hall_deny : Y_Hall_deny.1.cls = RX11 ∧ Y_Hall_deny.1.cls ≠ "java/lang/invoke/MethodHandle" ∧ Y_Hall_deny.1.cls ≠ "java/lang/invoke/VarHandle" ∧ (parseMethodDescriptor Y_Hall_deny.1.desc).map (fun d => d.parameters.length) = some 2 := by decide +kernel
def Hall_deny (M : Mm) (a0 : Nat) (a1 : Int32) (a2 : Int32) : Option (Int32 × Mm) :=
  ck (kO M a0 11 18) (
  nl (mR M a0 14) (
    some (0, M))
  (fun b2 =>
    nn (mR M a0 14) (fun b3 =>
    ck (kO M b3 9 11) (
    bd (Session_hasBargain M b3 a1) (fun r5 M6 =>
    if r5 = 0 then (
      some (0, M6))
    else (
      ck (kO M6 a0 11 18) (
      nn (mR M6 a0 14) (fun b8 =>
      ck (kO M6 b8 9 11) (
      nn (mR M6 b8 3) (fun b10 =>
      ck (kA M6 b10 29 a1) (
      nn (mR M6 b10 (ix a1)) (fun b12 =>
      ck (kO M6 b12 0 14) (
      bd (Bargain_denyBy M6 b12 a2) (fun r14 M15 =>
      ck (kZ r14) (
      some (r14, M15))))))))))))))))
set_option maxRecDepth 100000 in
set_option maxHeartbeats 4000000 in
theorem s_Hall_deny (G : Gx) (M : Mm) (a0 : Nat) (a1 : Int32) (a2 : Int32) : FnS G Y_Hall_deny cvI 3 [.ref a0, .int a1, .int a2] M (Hall_deny M a0 a1 a2) := by
  refine FnS.ofE (by decide) (Nat.le_of_ble_eq_true rfl) ?_
  show EJ G Y_Hall_deny cvI 3 0 [(0, .ref a0), (1, .int a1), (2, .int a2)] [] M _
  unfold Hall_deny
  refine EJ_aload_n 1 0 (dk_42 (bt bc_Hall_deny_0 0 rfl)) rfl rfl ?_
  refine EJ_ck (fun h1 => ?_)
  refine EJ_getN cf11 14 (by decide) 4 tw_214 (fun _ _ _ => rfl) (dk_180 (bt bc_Hall_deny_0 1 rfl) (bt bc_Hall_deny_0 2 rfl) (bt bc_Hall_deny_0 3 rfl) (n := 252) rfl) rfl (of_decide_eq_true h1) ?_ (fun b2 => ?_)
  · refine EJ_ifnull_N 18 (dk_198 (bt bc_Hall_deny_0 4 rfl) (bt bc_Hall_deny_0 5 rfl) (bt bc_Hall_deny_0 6 rfl) (n := 14) rfl) (by decide) ?_
    refine EJ_iconst 19 (dk_3 (bt bc_Hall_deny_0 18 rfl)) rfl (v := 0) kI_0 ?_
    exact EJ_zret rfl (by decide) (dk_172 (bt bc_Hall_deny_0 19 rfl))
  · refine EJ_ifnull_R 7 (dk_198 (bt bc_Hall_deny_0 4 rfl) (bt bc_Hall_deny_0 5 rfl) (bt bc_Hall_deny_0 6 rfl) (n := 14) rfl) rfl ?_
    refine EJ_aload_n 8 0 (dk_42 (bt bc_Hall_deny_0 7 rfl)) rfl rfl ?_
    refine EJ_getR cf11 14 (by decide) 11 tw_214 (fun _ _ _ => rfl) (dk_180 (bt bc_Hall_deny_0 8 rfl) (bt bc_Hall_deny_0 9 rfl) (bt bc_Hall_deny_0 10 rfl) (n := 252) rfl) rfl (of_decide_eq_true h1) (fun b3 => ?_)
    refine EJ_iload_n 12 1 (dk_27 (bt bc_Hall_deny_0 11 rfl)) rfl rfl ?_
    refine EJ_ck (fun h4 => ?_)
    refine EJ_callVi (Y2 := Y_Session_hasBargain) 15 cf9 (s_Session_hasBargain G _ _ _) (of_decide_eq_true h4) rfl (dk_182 (bt bc_Hall_deny_0 12 rfl) (bt bc_Hall_deny_0 13 rfl) (bt bc_Hall_deny_0 14 rfl) (n := 279) rfl) rfl tw_1009 tw_1010 tw_1011 tw_1012 hd_Session_hasBargain rfl (by decide) (Nat.le_of_ble_eq_true rfl) (fun r5 M6 => ?_)
    refine EJ_if_ne 20 18 (dk_154 (bt bc_Hall_deny_0 15 rfl) (bt bc_Hall_deny_0 16 rfl) (bt bc_Hall_deny_0 17 rfl) (n := 5) rfl) (by decide) rfl (fun _ => ?_) (fun _ => ?_)
    · refine EJ_aload_n 21 0 (dk_42 (bt bc_Hall_deny_0 20 rfl)) rfl rfl ?_
      refine EJ_ck (fun h7 => ?_)
      refine EJ_getR cf11 14 (by decide) 24 tw_214 (fun _ _ _ => rfl) (dk_180 (bt bc_Hall_deny_0 21 rfl) (bt bc_Hall_deny_0 22 rfl) (bt bc_Hall_deny_0 23 rfl) (n := 252) rfl) rfl (of_decide_eq_true h7) (fun b8 => ?_)
      refine EJ_ck (fun h9 => ?_)
      refine EJ_getR cf9 3 (by decide) 27 tw_834 (fun _ _ _ => rfl) (dk_180 (bt bc_Hall_deny_0 24 rfl) (bt bc_Hall_deny_0 25 rfl) (bt bc_Hall_deny_0 26 rfl) (n := 282) rfl) rfl (of_decide_eq_true h9) (fun b10 => ?_)
      refine EJ_iload_n 28 1 (dk_27 (bt bc_Hall_deny_0 27 rfl)) rfl rfl ?_
      refine EJ_ck (fun h11 => ?_)
      refine EJ_aald 9 29 (by decide) (by decide) rfl h11 (dk_50 (bt bc_Hall_deny_0 28 rfl)) rfl (fun b12 => ?_)
      refine EJ_iload_n 30 2 (dk_28 (bt bc_Hall_deny_0 29 rfl)) rfl rfl ?_
      refine EJ_ck (fun h13 => ?_)
      refine EJ_callVi (Y2 := Y_Bargain_denyBy) 33 cf0 (s_Bargain_denyBy G _ _ _) (of_decide_eq_true h13) rfl (dk_182 (bt bc_Hall_deny_0 30 rfl) (bt bc_Hall_deny_0 31 rfl) (bt bc_Hall_deny_1 0 rfl) (n := 292) rfl) rfl tw_1021 tw_1022 tw_1023 tw_1024 hd_Bargain_denyBy rfl (by decide) (Nat.le_of_ble_eq_true rfl) (fun r14 M15 => ?_)
      refine EJ_ck (fun h16 => ?_)
      exact EJ_zret rfl h16 (dk_172 (bt bc_Hall_deny_1 1 rfl))
    · refine EJ_iconst 19 (dk_3 (bt bc_Hall_deny_0 18 rfl)) rfl (v := 0) kI_0 ?_
      exact EJ_zret rfl (by decide) (dk_172 (bt bc_Hall_deny_0 19 rfl))
abbrev Y_Hall_burnOneMinute : Ym := (⟨"RiceHall", "burnOneMinute", "()V"⟩, prog_1_method_53_code, 2, none)
theorem bc_Hall_burnOneMinute_0 : bts prog_1_method_53_code 0 [42, 180, 0, 35, 42, 180, 0, 120, 42, 180, 0, 249, 182, 1, 158, 42, 180, 0, 35, 7, 42, 180, 0, 120, 182, 1, 155, 60, 42, 180, 0, 249] := bts_of (by decide +kernel)
theorem bc_Hall_burnOneMinute_1 : bts prog_1_method_53_code 32 [158, 0, 23, 27, 42, 180, 0, 35, 8, 42, 180, 0, 120, 182, 1, 155, 42, 180, 0, 249, 104, 96, 60, 42, 89, 180, 0, 120, 4, 96, 181, 0] := bts_of (by decide +kernel)
theorem bc_Hall_burnOneMinute_2 : bts prog_1_method_53_code 64 [120, 42, 180, 0, 252, 89, 180, 1, 46, 27, 100, 181, 1, 46, 177] := bts_of (by decide +kernel)
theorem hd_Hall_burnOneMinute : Y_Hall_burnOneMinute.1.cls = RX11 ∧ Y_Hall_burnOneMinute.1.cls ≠ "java/lang/invoke/MethodHandle" ∧ Y_Hall_burnOneMinute.1.cls ≠ "java/lang/invoke/VarHandle" ∧ (parseMethodDescriptor Y_Hall_burnOneMinute.1.desc).map (fun d => d.parameters.length) = some 0 := by decide +kernel
def Hall_burnOneMinute_J55 (x0 : Nat) (x1 : Int32) (M : Mm) : Option (Unit × Mm) :=
  ck (kO M x0 11 18) (
  let M13 := sI M x0 16 ((mI M x0 16) + 1)
  nn (mR M13 x0 14) (fun b14 =>
  ck (kO M13 b14 9 11) (
  let M16 := sI M13 b14 7 ((mI M13 b14 7) - x1)
  some ((), M16))))
set_option maxRecDepth 100000 in
set_option maxHeartbeats 4000000 in
theorem e_Hall_burnOneMinute_J55 {G : Gx} (x0 : Nat) (x1 : Int32) (M : Mm) : EJ G Y_Hall_burnOneMinute cvV 5 55 [(0, .ref x0), (1, .int x1)] [] M (Hall_burnOneMinute_J55 x0 x1 M) := by
  unfold Hall_burnOneMinute_J55
  refine EJ_aload_n 56 0 (dk_42 (bt bc_Hall_burnOneMinute_1 23 rfl)) rfl rfl ?_
  refine EJ_dup 57 (dk_89 (bt bc_Hall_burnOneMinute_1 24 rfl)) rfl rfl ?_
  refine EJ_ck (fun h12 => ?_)
  refine EJ_getI cf11 16 (by decide) 60 tw_216 (fun _ _ _ => rfl) (dk_180 (bt bc_Hall_burnOneMinute_1 25 rfl) (bt bc_Hall_burnOneMinute_1 26 rfl) (bt bc_Hall_burnOneMinute_1 27 rfl) (n := 120) rfl) rfl (of_decide_eq_true h12) ?_
  refine EJ_iconst 61 (dk_4 (bt bc_Hall_burnOneMinute_1 28 rfl)) rfl (v := 1) kI_1 ?_
  refine EJ_iadd 62 (dk_96 (bt bc_Hall_burnOneMinute_1 29 rfl)) rfl ?_
  refine EJ_putI cf11 16 (by decide) 65 tw_216 rfl (Or.inl rfl) (dk_181 (bt bc_Hall_burnOneMinute_1 30 rfl) (bt bc_Hall_burnOneMinute_1 31 rfl) (bt bc_Hall_burnOneMinute_2 0 rfl) (n := 120) rfl) rfl (of_decide_eq_true h12) ?_
  refine EJ_aload_n 66 0 (dk_42 (bt bc_Hall_burnOneMinute_2 1 rfl)) rfl rfl ?_
  refine EJ_getR cf11 14 (by decide) 69 tw_214 (fun _ _ _ => rfl) (dk_180 (bt bc_Hall_burnOneMinute_2 2 rfl) (bt bc_Hall_burnOneMinute_2 3 rfl) (bt bc_Hall_burnOneMinute_2 4 rfl) (n := 252) rfl) rfl (kp_I (of_decide_eq_true h12)) (fun b14 => ?_)
  refine EJ_dup 70 (dk_89 (bt bc_Hall_burnOneMinute_2 5 rfl)) rfl rfl ?_
  refine EJ_ck (fun h15 => ?_)
  refine EJ_getI cf9 7 (by decide) 73 tw_843 (fun _ _ _ => rfl) (dk_180 (bt bc_Hall_burnOneMinute_2 6 rfl) (bt bc_Hall_burnOneMinute_2 7 rfl) (bt bc_Hall_burnOneMinute_2 8 rfl) (n := 302) rfl) rfl (of_decide_eq_true h15) ?_
  refine EJ_iload_n 74 1 (dk_27 (bt bc_Hall_burnOneMinute_2 9 rfl)) rfl rfl ?_
  refine EJ_isub 75 (dk_100 (bt bc_Hall_burnOneMinute_2 10 rfl)) rfl ?_
  refine EJ_putI cf9 7 (by decide) 78 tw_843 rfl (Or.inl rfl) (dk_181 (bt bc_Hall_burnOneMinute_2 11 rfl) (bt bc_Hall_burnOneMinute_2 12 rfl) (bt bc_Hall_burnOneMinute_2 13 rfl) (n := 302) rfl) rfl (of_decide_eq_true h15) ?_
  exact EJ_vret rfl (dk_177 (bt bc_Hall_burnOneMinute_2 14 rfl))
def Hall_burnOneMinute (M : Mm) (a0 : Nat) : Option (Unit × Mm) :=
  ck (kO M a0 11 18) (
  nn (mR M a0 9) (fun b2 =>
  ck (kO M b2 5 5) (
  bd (Law_lookAtClock M b2 (mI M a0 16) (mI M a0 17)) (fun _ M5 =>
  ck (kO M5 a0 11 18) (
  nn (mR M5 a0 9) (fun b7 =>
  ck (kO M5 b7 5 5) (
  bd (Law_ask M5 b7 4 (mI M5 a0 16)) (fun r9 M10 =>
  ck (kO M10 a0 11 18) (
  if (mI M10 a0 17) ≤ 0 then (
    Hall_burnOneMinute_J55 a0 r9 M10)
  else (
    nn (mR M10 a0 9) (fun b17 =>
    ck (kO M10 b17 5 5) (
    bd (Law_ask M10 b17 5 (mI M10 a0 16)) (fun r19 M20 =>
    ck (kO M20 a0 11 18) (
    let v22 : Int32 := r9 + (r19 * (mI M20 a0 17))
    Hall_burnOneMinute_J55 a0 v22 M20))))))))))))))
set_option maxRecDepth 100000 in
set_option maxHeartbeats 4000000 in
theorem s_Hall_burnOneMinute (G : Gx) (M : Mm) (a0 : Nat) : FnS G Y_Hall_burnOneMinute cvV 5 [.ref a0] M (Hall_burnOneMinute M a0) := by
  refine FnS.ofE (by decide) (Nat.le_of_ble_eq_true rfl) ?_
  show EJ G Y_Hall_burnOneMinute cvV 5 0 [(0, .ref a0)] [] M _
  unfold Hall_burnOneMinute
  refine EJ_aload_n 1 0 (dk_42 (bt bc_Hall_burnOneMinute_0 0 rfl)) rfl rfl ?_
  refine EJ_ck (fun h1 => ?_)
  refine EJ_getR cf11 9 (by decide) 4 tw_209 (fun _ _ _ => rfl) (dk_180 (bt bc_Hall_burnOneMinute_0 1 rfl) (bt bc_Hall_burnOneMinute_0 2 rfl) (bt bc_Hall_burnOneMinute_0 3 rfl) (n := 35) rfl) rfl (of_decide_eq_true h1) (fun b2 => ?_)
  refine EJ_aload_n 5 0 (dk_42 (bt bc_Hall_burnOneMinute_0 4 rfl)) rfl rfl ?_
  refine EJ_getI cf11 16 (by decide) 8 tw_216 (fun _ _ _ => rfl) (dk_180 (bt bc_Hall_burnOneMinute_0 5 rfl) (bt bc_Hall_burnOneMinute_0 6 rfl) (bt bc_Hall_burnOneMinute_0 7 rfl) (n := 120) rfl) rfl (of_decide_eq_true h1) ?_
  refine EJ_aload_n 9 0 (dk_42 (bt bc_Hall_burnOneMinute_0 8 rfl)) rfl rfl ?_
  refine EJ_getI cf11 17 (by decide) 12 tw_217 (fun _ _ _ => rfl) (dk_180 (bt bc_Hall_burnOneMinute_0 9 rfl) (bt bc_Hall_burnOneMinute_0 10 rfl) (bt bc_Hall_burnOneMinute_0 11 rfl) (n := 249) rfl) rfl (of_decide_eq_true h1) ?_
  refine EJ_ck (fun h3 => ?_)
  refine EJ_callVv (Y2 := Y_Law_lookAtClock) 15 cf5 (s_Law_lookAtClock G _ _ _ _) (of_decide_eq_true h3) rfl (dk_182 (bt bc_Hall_burnOneMinute_0 12 rfl) (bt bc_Hall_burnOneMinute_0 13 rfl) (bt bc_Hall_burnOneMinute_0 14 rfl) (n := 414) rfl) rfl tw_507 tw_508 tw_509 tw_510 hd_Law_lookAtClock rfl (by decide) (Nat.le_of_ble_eq_true rfl) (fun _ M5 => ?_)
  refine EJ_aload_n 16 0 (dk_42 (bt bc_Hall_burnOneMinute_0 15 rfl)) rfl rfl ?_
  refine EJ_ck (fun h6 => ?_)
  refine EJ_getR cf11 9 (by decide) 19 tw_209 (fun _ _ _ => rfl) (dk_180 (bt bc_Hall_burnOneMinute_0 16 rfl) (bt bc_Hall_burnOneMinute_0 17 rfl) (bt bc_Hall_burnOneMinute_0 18 rfl) (n := 35) rfl) rfl (of_decide_eq_true h6) (fun b7 => ?_)
  refine EJ_iconst 20 (dk_7 (bt bc_Hall_burnOneMinute_0 19 rfl)) rfl (v := 4) kI_4 ?_
  refine EJ_aload_n 21 0 (dk_42 (bt bc_Hall_burnOneMinute_0 20 rfl)) rfl rfl ?_
  refine EJ_getI cf11 16 (by decide) 24 tw_216 (fun _ _ _ => rfl) (dk_180 (bt bc_Hall_burnOneMinute_0 21 rfl) (bt bc_Hall_burnOneMinute_0 22 rfl) (bt bc_Hall_burnOneMinute_0 23 rfl) (n := 120) rfl) rfl (of_decide_eq_true h6) ?_
  refine EJ_ck (fun h8 => ?_)
  refine EJ_callVi (Y2 := Y_Law_ask) 27 cf5 (s_Law_ask G _ _ _ _) (of_decide_eq_true h8) rfl (dk_182 (bt bc_Hall_burnOneMinute_0 24 rfl) (bt bc_Hall_burnOneMinute_0 25 rfl) (bt bc_Hall_burnOneMinute_0 26 rfl) (n := 411) rfl) rfl tw_519 tw_520 tw_521 tw_522 hd_Law_ask rfl (by decide) (Nat.le_of_ble_eq_true rfl) (fun r9 M10 => ?_)
  refine EJ_istore_n 28 (lv2 := [(1, .int _), (0, .ref _)]) (dk_60 (bt bc_Hall_burnOneMinute_0 27 rfl)) rfl (by decide) rfl ?_
  refine EJ_aload_n 29 1 (dk_42 (bt bc_Hall_burnOneMinute_0 28 rfl)) rfl rfl ?_
  refine EJ_ck (fun h11 => ?_)
  refine EJ_getI cf11 17 (by decide) 32 tw_217 (fun _ _ _ => rfl) (dk_180 (bt bc_Hall_burnOneMinute_0 29 rfl) (bt bc_Hall_burnOneMinute_0 30 rfl) (bt bc_Hall_burnOneMinute_0 31 rfl) (n := 249) rfl) rfl (of_decide_eq_true h11) ?_
  refine EJ_if_le 55 35 (dk_158 (bt bc_Hall_burnOneMinute_1 0 rfl) (bt bc_Hall_burnOneMinute_1 1 rfl) (bt bc_Hall_burnOneMinute_1 2 rfl) (n := 23) rfl) (by decide) rfl (fun _ => ?_) (fun _ => ?_)
  · exact EJ_pick (lv2 := [(0, .ref _), (1, .int _)]) [1, 0] rfl (e_Hall_burnOneMinute_J55 _ _ _)
  · refine EJ_iload_n 36 0 (dk_27 (bt bc_Hall_burnOneMinute_1 3 rfl)) rfl rfl ?_
    refine EJ_aload_n 37 1 (dk_42 (bt bc_Hall_burnOneMinute_1 4 rfl)) rfl rfl ?_
    refine EJ_getR cf11 9 (by decide) 40 tw_209 (fun _ _ _ => rfl) (dk_180 (bt bc_Hall_burnOneMinute_1 5 rfl) (bt bc_Hall_burnOneMinute_1 6 rfl) (bt bc_Hall_burnOneMinute_1 7 rfl) (n := 35) rfl) rfl (of_decide_eq_true h11) (fun b17 => ?_)
    refine EJ_iconst 41 (dk_8 (bt bc_Hall_burnOneMinute_1 8 rfl)) rfl (v := 5) kI_5 ?_
    refine EJ_aload_n 42 1 (dk_42 (bt bc_Hall_burnOneMinute_1 9 rfl)) rfl rfl ?_
    refine EJ_getI cf11 16 (by decide) 45 tw_216 (fun _ _ _ => rfl) (dk_180 (bt bc_Hall_burnOneMinute_1 10 rfl) (bt bc_Hall_burnOneMinute_1 11 rfl) (bt bc_Hall_burnOneMinute_1 12 rfl) (n := 120) rfl) rfl (of_decide_eq_true h11) ?_
    refine EJ_ck (fun h18 => ?_)
    refine EJ_callVi (Y2 := Y_Law_ask) 48 cf5 (s_Law_ask G _ _ _ _) (of_decide_eq_true h18) rfl (dk_182 (bt bc_Hall_burnOneMinute_1 13 rfl) (bt bc_Hall_burnOneMinute_1 14 rfl) (bt bc_Hall_burnOneMinute_1 15 rfl) (n := 411) rfl) rfl tw_519 tw_520 tw_521 tw_522 hd_Law_ask rfl (by decide) (Nat.le_of_ble_eq_true rfl) (fun r19 M20 => ?_)
    refine EJ_aload_n 49 1 (dk_42 (bt bc_Hall_burnOneMinute_1 16 rfl)) rfl rfl ?_
    refine EJ_ck (fun h21 => ?_)
    refine EJ_getI cf11 17 (by decide) 52 tw_217 (fun _ _ _ => rfl) (dk_180 (bt bc_Hall_burnOneMinute_1 17 rfl) (bt bc_Hall_burnOneMinute_1 18 rfl) (bt bc_Hall_burnOneMinute_1 19 rfl) (n := 249) rfl) rfl (of_decide_eq_true h21) ?_
    refine EJ_imul 53 (dk_104 (bt bc_Hall_burnOneMinute_1 20 rfl)) rfl ?_
    refine EJ_iadd 54 (dk_96 (bt bc_Hall_burnOneMinute_1 21 rfl)) rfl ?_
    refine EJ_istore_n 55 (lv2 := [(1, .int _), (0, .ref _)]) (dk_60 (bt bc_Hall_burnOneMinute_1 22 rfl)) rfl (by decide) rfl ?_
    exact EJ_pick (lv2 := [(0, .ref _), (1, .int _)]) [1, 0] rfl (e_Hall_burnOneMinute_J55 _ _ _)
abbrev Y_Hall_endSession : Ym := (⟨"RiceHall", "endSession", "()V"⟩, prog_1_method_54_code, 2, none)
theorem bc_Hall_endSession_0 : bts prog_1_method_54_code 0 [42, 180, 0, 252, 76, 42, 1, 181, 0, 252, 43, 42, 180, 0, 120, 42, 16, 6, 182, 0, 147, 182, 1, 165, 43, 180, 1, 61, 2, 160, 0, 4] := bts_of (by decide +kernel)
theorem bc_Hall_endSession_1 : bts prog_1_method_54_code 32 [177, 42, 180, 0, 42, 42, 180, 0, 18, 42, 180, 0, 91, 43, 180, 1, 61, 182, 1, 168, 42, 180, 0, 42, 42, 180, 0, 18, 43, 182, 1, 172] := bts_of (by decide +kernel)
theorem bc_Hall_endSession_2 : bts prog_1_method_54_code 64 [42, 180, 0, 42, 43, 180, 1, 61, 182, 1, 176, 42, 180, 0, 42, 42, 180, 0, 18, 42, 180, 0, 91, 42, 5, 182, 0, 147, 42, 16, 7, 182] := bts_of (by decide +kernel)
theorem bc_Hall_endSession_3 : bts prog_1_method_54_code 96 [0, 147, 42, 180, 0, 120, 182, 1, 179, 42, 180, 0, 42, 42, 180, 0, 18, 42, 180, 0, 91, 182, 1, 183, 42, 180, 0, 42, 42, 180, 0, 18] := bts_of (by decide +kernel)
theorem bc_Hall_endSession_4 : bts prog_1_method_54_code 128 [42, 180, 0, 91, 42, 16, 8, 182, 0, 147, 182, 1, 187, 177] := bts_of (by decide +kernel)
theorem hd_Hall_endSession : Y_Hall_endSession.1.cls = RX11 ∧ Y_Hall_endSession.1.cls ≠ "java/lang/invoke/MethodHandle" ∧ Y_Hall_endSession.1.cls ≠ "java/lang/invoke/VarHandle" ∧ (parseMethodDescriptor Y_Hall_endSession.1.desc).map (fun d => d.parameters.length) = some 0 := by decide +kernel
def Hall_endSession (M : Mm) (a0 : Nat) : Option (Unit × Mm) :=
  ck (kO M a0 11 18) (
  nn (mR M a0 14) (fun b2 =>
  let M3 := sR M a0 14 none
  bd (Hall_askLaw M3 a0 6) (fun r4 M5 =>
  ck (kO M5 b2 9 11) (
  bd (Session_end M5 b2 (mI M3 a0 16) r4) (fun _ M8 =>
  ck (kO M8 b2 9 11) (
  if (mI M8 b2 9) = (-1) then (
    some ((), M8))
  else (
    ck (kO M8 a0 11 18) (
    nn (mR M8 a0 10) (fun b11 =>
    nn (mR M8 a0 1) (fun b12 =>
    ck (kO M8 b11 3 7) (
    bd (House_mark M8 b11 b12 (mI M8 a0 2) (mI M8 b2 9)) (fun _ M15 =>
    ck (kO M15 a0 11 18) (
    nn (mR M15 a0 10) (fun b17 =>
    nn (mR M15 a0 1) (fun b18 =>
    ck (kO M15 b17 3 7) (
    bd (House_enter M15 b17 b18 b2) (fun _ M21 =>
    ck (kO M21 a0 11 18) (
    nn (mR M21 a0 10) (fun b23 =>
    ck (kO M21 b2 9 11) (
    ck (kO M21 b23 3 7) (
    bd (House_addClose M21 b23 (mI M21 b2 9)) (fun _ M27 =>
    ck (kO M27 a0 11 18) (
    nn (mR M27 a0 10) (fun b29 =>
    nn (mR M27 a0 1) (fun b30 =>
    bd (Hall_askLaw M27 a0 2) (fun r31 M32 =>
    ck (kO M32 a0 11 18) (
    bd (Hall_askLaw M32 a0 7) (fun r34 M35 =>
    ck (kO M35 a0 11 18) (
    ck (kO M35 b29 3 7) (
    bd (House_callMargins M35 b29 b30 (mI M27 a0 2) r31 r34 (mI M35 a0 16)) (fun _ M39 =>
    ck (kO M39 a0 11 18) (
    nn (mR M39 a0 10) (fun b41 =>
    nn (mR M39 a0 1) (fun b42 =>
    ck (kO M39 b41 3 7) (
    bd (House_partTheLack M39 b41 b42 (mI M39 a0 2)) (fun _ M45 =>
    ck (kO M45 a0 11 18) (
    nn (mR M45 a0 10) (fun b47 =>
    nn (mR M45 a0 1) (fun b48 =>
    bd (Hall_askLaw M45 a0 8) (fun r49 M50 =>
    ck (kO M50 b47 3 7) (
    bd (House_settleAt M50 b47 b48 (mI M45 a0 2) r49) (fun _ M53 =>
    some ((), M53)))))))))))))))))))))))))))))))))))))))))))
set_option maxRecDepth 100000 in
set_option maxHeartbeats 4000000 in
theorem s_Hall_endSession (G : Gx) (M : Mm) (a0 : Nat) : FnS G Y_Hall_endSession cvV 6 [.ref a0] M (Hall_endSession M a0) := by
  refine FnS.ofE (by decide) (Nat.le_of_ble_eq_true rfl) ?_
  show EJ G Y_Hall_endSession cvV 6 0 [(0, .ref a0)] [] M _
  unfold Hall_endSession
  refine EJ_aload_n 1 0 (dk_42 (bt bc_Hall_endSession_0 0 rfl)) rfl rfl ?_
  refine EJ_ck (fun h1 => ?_)
  refine EJ_getR cf11 14 (by decide) 4 tw_214 (fun _ _ _ => rfl) (dk_180 (bt bc_Hall_endSession_0 1 rfl) (bt bc_Hall_endSession_0 2 rfl) (bt bc_Hall_endSession_0 3 rfl) (n := 252) rfl) rfl (of_decide_eq_true h1) (fun b2 => ?_)
  refine EJ_astore_n 5 (lv2 := [(1, .ref _), (0, .ref _)]) (dk_76 (bt bc_Hall_endSession_0 4 rfl)) rfl (by decide) rfl ?_
  refine EJ_aload_n 6 1 (dk_42 (bt bc_Hall_endSession_0 5 rfl)) rfl rfl ?_
  refine EJ_null 7 (dk_1 (bt bc_Hall_endSession_0 6 rfl)) rfl ?_
  refine EJ_putN cf11 14 (by decide) 10 tw_214 (fun _ _ _ => rfl) rfl rfl (Or.inl rfl) (dk_181 (bt bc_Hall_endSession_0 7 rfl) (bt bc_Hall_endSession_0 8 rfl) (bt bc_Hall_endSession_0 9 rfl) (n := 252) rfl) rfl (of_decide_eq_true h1) ?_
  refine EJ_aload_n 11 0 (dk_43 (bt bc_Hall_endSession_0 10 rfl)) rfl rfl ?_
  refine EJ_aload_n 12 1 (dk_42 (bt bc_Hall_endSession_0 11 rfl)) rfl rfl ?_
  refine EJ_getI cf11 16 (by decide) 15 tw_216 (fun _ _ _ => rfl) (dk_180 (bt bc_Hall_endSession_0 12 rfl) (bt bc_Hall_endSession_0 13 rfl) (bt bc_Hall_endSession_0 14 rfl) (n := 120) rfl) rfl (kp_R (of_decide_eq_true h1)) ?_
  refine EJ_aload_n 16 1 (dk_42 (bt bc_Hall_endSession_0 15 rfl)) rfl rfl ?_
  refine EJ_bipush 18 (dk_16 (bt bc_Hall_endSession_0 16 rfl) (bt bc_Hall_endSession_0 17 rfl) (n := 6) rfl) rfl (v := 6) kB_6 ?_
  refine EJ_callVi (Y2 := Y_Hall_askLaw) 21 cf11 (s_Hall_askLaw G _ _ _) (kp_R (of_decide_eq_true h1)) rfl (dk_182 (bt bc_Hall_endSession_0 18 rfl) (bt bc_Hall_endSession_0 19 rfl) (bt bc_Hall_endSession_0 20 rfl) (n := 147) rfl) rfl tw_499 tw_501 ts_10 tw_502 hd_Hall_askLaw rfl (by decide) (Nat.le_of_ble_eq_true rfl) (fun r4 M5 => ?_)
  refine EJ_ck (fun h6 => ?_)
  refine EJ_callVv (Y2 := Y_Session_end) 24 cf9 (s_Session_end G _ _ _ _) (of_decide_eq_true h6) rfl (dk_182 (bt bc_Hall_endSession_0 21 rfl) (bt bc_Hall_endSession_0 22 rfl) (bt bc_Hall_endSession_0 23 rfl) (n := 421) rfl) rfl tw_1041 tw_1042 tw_1043 tw_1044 hd_Session_end rfl (by decide) (Nat.le_of_ble_eq_true rfl) (fun _ M8 => ?_)
  refine EJ_aload_n 25 0 (dk_43 (bt bc_Hall_endSession_0 24 rfl)) rfl rfl ?_
  refine EJ_ck (fun h9 => ?_)
  refine EJ_getI cf9 9 (by decide) 28 tw_848 (fun _ _ _ => rfl) (dk_180 (bt bc_Hall_endSession_0 25 rfl) (bt bc_Hall_endSession_0 26 rfl) (bt bc_Hall_endSession_0 27 rfl) (n := 317) rfl) rfl (of_decide_eq_true h9) ?_
  refine EJ_iconst 29 (dk_2 (bt bc_Hall_endSession_0 28 rfl)) rfl (v := (-1)) kI_m1 ?_
  refine EJ_icmp_ne 33 32 (dk_160 (bt bc_Hall_endSession_0 29 rfl) (bt bc_Hall_endSession_0 30 rfl) (bt bc_Hall_endSession_0 31 rfl) (n := 4) rfl) (by decide) rfl (fun _ => ?_) (fun _ => ?_)
  · refine EJ_aload_n 34 1 (dk_42 (bt bc_Hall_endSession_1 1 rfl)) rfl rfl ?_
    refine EJ_ck (fun h10 => ?_)
    refine EJ_getR cf11 10 (by decide) 37 tw_210 (fun _ _ _ => rfl) (dk_180 (bt bc_Hall_endSession_1 2 rfl) (bt bc_Hall_endSession_1 3 rfl) (bt bc_Hall_endSession_1 4 rfl) (n := 42) rfl) rfl (of_decide_eq_true h10) (fun b11 => ?_)
    refine EJ_aload_n 38 1 (dk_42 (bt bc_Hall_endSession_1 5 rfl)) rfl rfl ?_
    refine EJ_getR cf11 1 (by decide) 41 tw_201 (fun _ _ _ => rfl) (dk_180 (bt bc_Hall_endSession_1 6 rfl) (bt bc_Hall_endSession_1 7 rfl) (bt bc_Hall_endSession_1 8 rfl) (n := 18) rfl) rfl (of_decide_eq_true h10) (fun b12 => ?_)
    refine EJ_aload_n 42 1 (dk_42 (bt bc_Hall_endSession_1 9 rfl)) rfl rfl ?_
    refine EJ_getI cf11 2 (by decide) 45 tw_202 (fun _ _ _ => rfl) (dk_180 (bt bc_Hall_endSession_1 10 rfl) (bt bc_Hall_endSession_1 11 rfl) (bt bc_Hall_endSession_1 12 rfl) (n := 91) rfl) rfl (of_decide_eq_true h10) ?_
    refine EJ_aload_n 46 0 (dk_43 (bt bc_Hall_endSession_1 13 rfl)) rfl rfl ?_
    refine EJ_getI cf9 9 (by decide) 49 tw_848 (fun _ _ _ => rfl) (dk_180 (bt bc_Hall_endSession_1 14 rfl) (bt bc_Hall_endSession_1 15 rfl) (bt bc_Hall_endSession_1 16 rfl) (n := 317) rfl) rfl (of_decide_eq_true h9) ?_
    refine EJ_ck (fun h13 => ?_)
    refine EJ_callVv (Y2 := Y_House_mark) 52 cf3 (s_House_mark G _ _ _ _ _) (of_decide_eq_true h13) rfl (dk_182 (bt bc_Hall_endSession_1 17 rfl) (bt bc_Hall_endSession_1 18 rfl) (bt bc_Hall_endSession_1 19 rfl) (n := 424) rfl) rfl tw_1054 tw_1055 tw_1056 tw_1057 hd_House_mark rfl (by decide) (Nat.le_of_ble_eq_true rfl) (fun _ M15 => ?_)
    refine EJ_aload_n 53 1 (dk_42 (bt bc_Hall_endSession_1 20 rfl)) rfl rfl ?_
    refine EJ_ck (fun h16 => ?_)
    refine EJ_getR cf11 10 (by decide) 56 tw_210 (fun _ _ _ => rfl) (dk_180 (bt bc_Hall_endSession_1 21 rfl) (bt bc_Hall_endSession_1 22 rfl) (bt bc_Hall_endSession_1 23 rfl) (n := 42) rfl) rfl (of_decide_eq_true h16) (fun b17 => ?_)
    refine EJ_aload_n 57 1 (dk_42 (bt bc_Hall_endSession_1 24 rfl)) rfl rfl ?_
    refine EJ_getR cf11 1 (by decide) 60 tw_201 (fun _ _ _ => rfl) (dk_180 (bt bc_Hall_endSession_1 25 rfl) (bt bc_Hall_endSession_1 26 rfl) (bt bc_Hall_endSession_1 27 rfl) (n := 18) rfl) rfl (of_decide_eq_true h16) (fun b18 => ?_)
    refine EJ_aload_n 61 0 (dk_43 (bt bc_Hall_endSession_1 28 rfl)) rfl rfl ?_
    refine EJ_ck (fun h19 => ?_)
    refine EJ_callVv (Y2 := Y_House_enter) 64 cf3 (s_House_enter G _ _ _ _) (of_decide_eq_true h19) rfl (dk_182 (bt bc_Hall_endSession_1 29 rfl) (bt bc_Hall_endSession_1 30 rfl) (bt bc_Hall_endSession_1 31 rfl) (n := 428) rfl) rfl tw_1059 tw_1060 tw_1061 tw_1062 hd_House_enter rfl (by decide) (Nat.le_of_ble_eq_true rfl) (fun _ M21 => ?_)
    refine EJ_aload_n 65 1 (dk_42 (bt bc_Hall_endSession_2 0 rfl)) rfl rfl ?_
    refine EJ_ck (fun h22 => ?_)
    refine EJ_getR cf11 10 (by decide) 68 tw_210 (fun _ _ _ => rfl) (dk_180 (bt bc_Hall_endSession_2 1 rfl) (bt bc_Hall_endSession_2 2 rfl) (bt bc_Hall_endSession_2 3 rfl) (n := 42) rfl) rfl (of_decide_eq_true h22) (fun b23 => ?_)
    refine EJ_aload_n 69 0 (dk_43 (bt bc_Hall_endSession_2 4 rfl)) rfl rfl ?_
    refine EJ_ck (fun h24 => ?_)
    refine EJ_getI cf9 9 (by decide) 72 tw_848 (fun _ _ _ => rfl) (dk_180 (bt bc_Hall_endSession_2 5 rfl) (bt bc_Hall_endSession_2 6 rfl) (bt bc_Hall_endSession_2 7 rfl) (n := 317) rfl) rfl (of_decide_eq_true h24) ?_
    refine EJ_ck (fun h25 => ?_)
    refine EJ_callVv (Y2 := Y_House_addClose) 75 cf3 (s_House_addClose G _ _ _) (of_decide_eq_true h25) rfl (dk_182 (bt bc_Hall_endSession_2 8 rfl) (bt bc_Hall_endSession_2 9 rfl) (bt bc_Hall_endSession_2 10 rfl) (n := 432) rfl) rfl tw_1063 tw_1064 tw_1065 tw_1066 hd_House_addClose rfl (by decide) (Nat.le_of_ble_eq_true rfl) (fun _ M27 => ?_)
    refine EJ_aload_n 76 1 (dk_42 (bt bc_Hall_endSession_2 11 rfl)) rfl rfl ?_
    refine EJ_ck (fun h28 => ?_)
    refine EJ_getR cf11 10 (by decide) 79 tw_210 (fun _ _ _ => rfl) (dk_180 (bt bc_Hall_endSession_2 12 rfl) (bt bc_Hall_endSession_2 13 rfl) (bt bc_Hall_endSession_2 14 rfl) (n := 42) rfl) rfl (of_decide_eq_true h28) (fun b29 => ?_)
    refine EJ_aload_n 80 1 (dk_42 (bt bc_Hall_endSession_2 15 rfl)) rfl rfl ?_
    refine EJ_getR cf11 1 (by decide) 83 tw_201 (fun _ _ _ => rfl) (dk_180 (bt bc_Hall_endSession_2 16 rfl) (bt bc_Hall_endSession_2 17 rfl) (bt bc_Hall_endSession_2 18 rfl) (n := 18) rfl) rfl (of_decide_eq_true h28) (fun b30 => ?_)
    refine EJ_aload_n 84 1 (dk_42 (bt bc_Hall_endSession_2 19 rfl)) rfl rfl ?_
    refine EJ_getI cf11 2 (by decide) 87 tw_202 (fun _ _ _ => rfl) (dk_180 (bt bc_Hall_endSession_2 20 rfl) (bt bc_Hall_endSession_2 21 rfl) (bt bc_Hall_endSession_2 22 rfl) (n := 91) rfl) rfl (of_decide_eq_true h28) ?_
    refine EJ_aload_n 88 1 (dk_42 (bt bc_Hall_endSession_2 23 rfl)) rfl rfl ?_
    refine EJ_iconst 89 (dk_5 (bt bc_Hall_endSession_2 24 rfl)) rfl (v := 2) kI_2 ?_
    refine EJ_callVi (Y2 := Y_Hall_askLaw) 92 cf11 (s_Hall_askLaw G _ _ _) (of_decide_eq_true h28) rfl (dk_182 (bt bc_Hall_endSession_2 25 rfl) (bt bc_Hall_endSession_2 26 rfl) (bt bc_Hall_endSession_2 27 rfl) (n := 147) rfl) rfl tw_499 tw_501 ts_10 tw_502 hd_Hall_askLaw rfl (by decide) (Nat.le_of_ble_eq_true rfl) (fun r31 M32 => ?_)
    refine EJ_aload_n 93 1 (dk_42 (bt bc_Hall_endSession_2 28 rfl)) rfl rfl ?_
    refine EJ_bipush 95 (dk_16 (bt bc_Hall_endSession_2 29 rfl) (bt bc_Hall_endSession_2 30 rfl) (n := 7) rfl) rfl (v := 7) kB_7 ?_
    refine EJ_ck (fun h33 => ?_)
    refine EJ_callVi (Y2 := Y_Hall_askLaw) 98 cf11 (s_Hall_askLaw G _ _ _) (of_decide_eq_true h33) rfl (dk_182 (bt bc_Hall_endSession_2 31 rfl) (bt bc_Hall_endSession_3 0 rfl) (bt bc_Hall_endSession_3 1 rfl) (n := 147) rfl) rfl tw_499 tw_501 ts_10 tw_502 hd_Hall_askLaw rfl (by decide) (Nat.le_of_ble_eq_true rfl) (fun r34 M35 => ?_)
    refine EJ_aload_n 99 1 (dk_42 (bt bc_Hall_endSession_3 2 rfl)) rfl rfl ?_
    refine EJ_ck (fun h36 => ?_)
    refine EJ_getI cf11 16 (by decide) 102 tw_216 (fun _ _ _ => rfl) (dk_180 (bt bc_Hall_endSession_3 3 rfl) (bt bc_Hall_endSession_3 4 rfl) (bt bc_Hall_endSession_3 5 rfl) (n := 120) rfl) rfl (of_decide_eq_true h36) ?_
    refine EJ_ck (fun h37 => ?_)
    refine EJ_callVv (Y2 := Y_House_callMargins) 105 cf3 (s_House_callMargins G _ _ _ _ _ _ _) (of_decide_eq_true h37) rfl (dk_182 (bt bc_Hall_endSession_3 6 rfl) (bt bc_Hall_endSession_3 7 rfl) (bt bc_Hall_endSession_3 8 rfl) (n := 435) rfl) rfl tw_1067 tw_1068 tw_1069 tw_1070 hd_House_callMargins rfl (by decide) (Nat.le_of_ble_eq_true rfl) (fun _ M39 => ?_)
    refine EJ_aload_n 106 1 (dk_42 (bt bc_Hall_endSession_3 9 rfl)) rfl rfl ?_
    refine EJ_ck (fun h40 => ?_)
    refine EJ_getR cf11 10 (by decide) 109 tw_210 (fun _ _ _ => rfl) (dk_180 (bt bc_Hall_endSession_3 10 rfl) (bt bc_Hall_endSession_3 11 rfl) (bt bc_Hall_endSession_3 12 rfl) (n := 42) rfl) rfl (of_decide_eq_true h40) (fun b41 => ?_)
    refine EJ_aload_n 110 1 (dk_42 (bt bc_Hall_endSession_3 13 rfl)) rfl rfl ?_
    refine EJ_getR cf11 1 (by decide) 113 tw_201 (fun _ _ _ => rfl) (dk_180 (bt bc_Hall_endSession_3 14 rfl) (bt bc_Hall_endSession_3 15 rfl) (bt bc_Hall_endSession_3 16 rfl) (n := 18) rfl) rfl (of_decide_eq_true h40) (fun b42 => ?_)
    refine EJ_aload_n 114 1 (dk_42 (bt bc_Hall_endSession_3 17 rfl)) rfl rfl ?_
    refine EJ_getI cf11 2 (by decide) 117 tw_202 (fun _ _ _ => rfl) (dk_180 (bt bc_Hall_endSession_3 18 rfl) (bt bc_Hall_endSession_3 19 rfl) (bt bc_Hall_endSession_3 20 rfl) (n := 91) rfl) rfl (of_decide_eq_true h40) ?_
    refine EJ_ck (fun h43 => ?_)
    refine EJ_callVv (Y2 := Y_House_partTheLack) 120 cf3 (s_House_partTheLack G _ _ _ _) (of_decide_eq_true h43) rfl (dk_182 (bt bc_Hall_endSession_3 21 rfl) (bt bc_Hall_endSession_3 22 rfl) (bt bc_Hall_endSession_3 23 rfl) (n := 439) rfl) rfl tw_1076 tw_1077 tw_1078 tw_1079 hd_House_partTheLack rfl (by decide) (Nat.le_of_ble_eq_true rfl) (fun _ M45 => ?_)
    refine EJ_aload_n 121 1 (dk_42 (bt bc_Hall_endSession_3 24 rfl)) rfl rfl ?_
    refine EJ_ck (fun h46 => ?_)
    refine EJ_getR cf11 10 (by decide) 124 tw_210 (fun _ _ _ => rfl) (dk_180 (bt bc_Hall_endSession_3 25 rfl) (bt bc_Hall_endSession_3 26 rfl) (bt bc_Hall_endSession_3 27 rfl) (n := 42) rfl) rfl (of_decide_eq_true h46) (fun b47 => ?_)
    refine EJ_aload_n 125 1 (dk_42 (bt bc_Hall_endSession_3 28 rfl)) rfl rfl ?_
    refine EJ_getR cf11 1 (by decide) 128 tw_201 (fun _ _ _ => rfl) (dk_180 (bt bc_Hall_endSession_3 29 rfl) (bt bc_Hall_endSession_3 30 rfl) (bt bc_Hall_endSession_3 31 rfl) (n := 18) rfl) rfl (of_decide_eq_true h46) (fun b48 => ?_)
    refine EJ_aload_n 129 1 (dk_42 (bt bc_Hall_endSession_4 0 rfl)) rfl rfl ?_
    refine EJ_getI cf11 2 (by decide) 132 tw_202 (fun _ _ _ => rfl) (dk_180 (bt bc_Hall_endSession_4 1 rfl) (bt bc_Hall_endSession_4 2 rfl) (bt bc_Hall_endSession_4 3 rfl) (n := 91) rfl) rfl (of_decide_eq_true h46) ?_
    refine EJ_aload_n 133 1 (dk_42 (bt bc_Hall_endSession_4 4 rfl)) rfl rfl ?_
    refine EJ_bipush 135 (dk_16 (bt bc_Hall_endSession_4 5 rfl) (bt bc_Hall_endSession_4 6 rfl) (n := 8) rfl) rfl (v := 8) kB_8 ?_
    refine EJ_callVi (Y2 := Y_Hall_askLaw) 138 cf11 (s_Hall_askLaw G _ _ _) (of_decide_eq_true h46) rfl (dk_182 (bt bc_Hall_endSession_4 7 rfl) (bt bc_Hall_endSession_4 8 rfl) (bt bc_Hall_endSession_4 9 rfl) (n := 147) rfl) rfl tw_499 tw_501 ts_10 tw_502 hd_Hall_askLaw rfl (by decide) (Nat.le_of_ble_eq_true rfl) (fun r49 M50 => ?_)
    refine EJ_ck (fun h51 => ?_)
    refine EJ_callVv (Y2 := Y_House_settleAt) 141 cf3 (s_House_settleAt G _ _ _ _ _) (of_decide_eq_true h51) rfl (dk_182 (bt bc_Hall_endSession_4 10 rfl) (bt bc_Hall_endSession_4 11 rfl) (bt bc_Hall_endSession_4 12 rfl) (n := 443) rfl) rfl tw_1092 tw_1093 tw_1094 tw_1095 hd_House_settleAt rfl (by decide) (Nat.le_of_ble_eq_true rfl) (fun _ M53 => ?_)
    exact EJ_vret rfl (dk_177 (bt bc_Hall_endSession_4 13 rfl))
  · exact EJ_vret rfl (dk_177 (bt bc_Hall_endSession_1 0 rfl))
