abbrev Y_Land_minuteIn : Ym := (⟨"RiceHall$Land", "minuteIn", "(I)I"⟩, prog_6_method_7_code, 2, (some FieldType.int))
theorem bc_Land_minuteIn_0 : bts prog_6_method_7_code 0 [42, 27, 182, 0, 41, 153, 0, 23, 42, 180, 0, 24, 27, 46, 18, 49, 159, 0, 12, 42, 180, 0, 24, 27, 46, 167, 0, 4, 2, 172] := bts_of (by decide +kernel)
theorem hd_Land_minuteIn : Y_Land_minuteIn.1.cls = RX4 ∧ Y_Land_minuteIn.1.cls ≠ "java/lang/invoke/MethodHandle" ∧ Y_Land_minuteIn.1.cls ≠ "java/lang/invoke/VarHandle" ∧ (parseMethodDescriptor Y_Land_minuteIn.1.desc).map (fun d => d.parameters.length) = some 1 := by decide +kernel
def Land_minuteIn (M : Mm) (a0 : Nat) (a1 : Int32) : Option (Int32 × Mm) :=
  ck (kO M a0 4 7) (
  bd (Land_has M a0 a1) (fun r2 M3 =>
  if r2 = 0 then (
    some ((-1), M3))
  else (
    ck (kO M3 a0 4 7) (
    nn (mR M3 a0 4) (fun b5 =>
    ck (kA M3 b5 20 a1) (
    if (mI M3 b5 (ix a1)) = 2147483647 then (
      some ((-1), M3))
    else (
      nn (mR M3 a0 4) (fun b7 =>
      ck (kA M3 b7 20 a1) (
      some (mI M3 b7 (ix a1), M3))))))))))
set_option maxRecDepth 100000 in
set_option maxHeartbeats 4000000 in
theorem s_Land_minuteIn (G : Gx) (M : Mm) (a0 : Nat) (a1 : Int32) : FnS G Y_Land_minuteIn cvI 2 [.ref a0, .int a1] M (Land_minuteIn M a0 a1) := by
  refine FnS.ofE (by decide) (Nat.le_of_ble_eq_true rfl) ?_
  show EJ G Y_Land_minuteIn cvI 2 0 [(0, .ref a0), (1, .int a1)] [] M _
  unfold Land_minuteIn
  refine EJ_aload_n 1 0 (dk_42 (bt bc_Land_minuteIn_0 0 rfl)) rfl rfl ?_
  refine EJ_iload_n 2 1 (dk_27 (bt bc_Land_minuteIn_0 1 rfl)) rfl rfl ?_
  refine EJ_ck (fun h1 => ?_)
  refine EJ_callVi (Y2 := Y_Land_has) 5 cf4 (s_Land_has G _ _ _) (of_decide_eq_true h1) rfl (dk_182 (bt bc_Land_minuteIn_0 2 rfl) (bt bc_Land_minuteIn_0 3 rfl) (bt bc_Land_minuteIn_0 4 rfl) (n := 41) rfl) rfl tw_271 tw_272 tw_273 tw_274 hd_Land_has rfl (by decide) (Nat.le_of_ble_eq_true rfl) (fun r2 M3 => ?_)
  refine EJ_if_eq 28 8 (dk_153 (bt bc_Land_minuteIn_0 5 rfl) (bt bc_Land_minuteIn_0 6 rfl) (bt bc_Land_minuteIn_0 7 rfl) (n := 23) rfl) (by decide) rfl (fun _ => ?_) (fun _ => ?_)
  · refine EJ_iconst 29 (dk_2 (bt bc_Land_minuteIn_0 28 rfl)) rfl (v := (-1)) kI_m1 ?_
    exact EJ_iret rfl (dk_172 (bt bc_Land_minuteIn_0 29 rfl))
  · refine EJ_aload_n 9 0 (dk_42 (bt bc_Land_minuteIn_0 8 rfl)) rfl rfl ?_
    refine EJ_ck (fun h4 => ?_)
    refine EJ_getR cf4 4 (by decide) 12 tw_42 (fun _ _ _ => rfl) (dk_180 (bt bc_Land_minuteIn_0 9 rfl) (bt bc_Land_minuteIn_0 10 rfl) (bt bc_Land_minuteIn_0 11 rfl) (n := 24) rfl) rfl (of_decide_eq_true h4) (fun b5 => ?_)
    refine EJ_iload_n 13 1 (dk_27 (bt bc_Land_minuteIn_0 12 rfl)) rfl rfl ?_
    refine EJ_ck (fun h6 => ?_)
    refine EJ_iald 14 h6 (dk_46 (bt bc_Land_minuteIn_0 13 rfl)) rfl ?_
    refine EJ_ldc 16 (dk_18 (bt bc_Land_minuteIn_0 14 rfl) (bt bc_Land_minuteIn_0 15 rfl)) rfl tw_297 ?_
    refine EJ_icmp_eq 28 19 (dk_159 (bt bc_Land_minuteIn_0 16 rfl) (bt bc_Land_minuteIn_0 17 rfl) (bt bc_Land_minuteIn_0 18 rfl) (n := 12) rfl) (by decide) rfl (fun _ => ?_) (fun _ => ?_)
    · refine EJ_iconst 29 (dk_2 (bt bc_Land_minuteIn_0 28 rfl)) rfl (v := (-1)) kI_m1 ?_
      exact EJ_iret rfl (dk_172 (bt bc_Land_minuteIn_0 29 rfl))
    · refine EJ_aload_n 20 0 (dk_42 (bt bc_Land_minuteIn_0 19 rfl)) rfl rfl ?_
      refine EJ_getR cf4 4 (by decide) 23 tw_42 (fun _ _ _ => rfl) (dk_180 (bt bc_Land_minuteIn_0 20 rfl) (bt bc_Land_minuteIn_0 21 rfl) (bt bc_Land_minuteIn_0 22 rfl) (n := 24) rfl) rfl (of_decide_eq_true h4) (fun b7 => ?_)
      refine EJ_iload_n 24 1 (dk_27 (bt bc_Land_minuteIn_0 23 rfl)) rfl rfl ?_
      refine EJ_ck (fun h8 => ?_)
      refine EJ_iald 25 h8 (dk_46 (bt bc_Land_minuteIn_0 24 rfl)) rfl ?_
      refine EJ_goto 29 (dk_167 (bt bc_Land_minuteIn_0 25 rfl) (bt bc_Land_minuteIn_0 26 rfl) (bt bc_Land_minuteIn_0 27 rfl) (n := 4) rfl) (by decide) ?_
      exact EJ_iret rfl (dk_172 (bt bc_Land_minuteIn_0 29 rfl))
abbrev Y_Session_new : Ym := (⟨"RiceHall$Session", "<init>", "(II)V"⟩, prog_11_method_1_code, 3, none)
theorem bc_Session_new_0 : bts prog_11_method_1_code 0 [42, 183, 0, 3, 42, 27, 181, 0, 9, 42, 28, 181, 0, 15, 42, 16, 60, 189, 0, 18, 181, 0, 20, 42, 16, 60, 188, 10, 181, 0, 24, 42] := bts_of (by decide +kernel)
theorem bc_Session_new_1 : bts prog_11_method_1_code 32 [16, 60, 189, 0, 28, 181, 0, 30, 42, 2, 181, 0, 34, 42, 2, 181, 0, 37, 177] := bts_of (by decide +kernel)
theorem hd_Session_new : Y_Session_new.1.cls ≠ "java/lang/invoke/MethodHandle" ∧ Y_Session_new.1.cls ≠ "java/lang/invoke/VarHandle" ∧ (parseMethodDescriptor Y_Session_new.1.desc).map (fun d => d.parameters.length) = some 2 := by decide +kernel
def Session_new (M : Mm) (a0 : Nat) (a1 : Int32) (a2 : Int32) : Option (Unit × Mm) :=
  ck (kO M a0 9 11) (
  let M2 := sI M a0 0 a1
  let M3 := sI M2 a0 7 a2
  let M4 := nw M3 28 60
  ck (kO M4 a0 9 11) (
  let M6 := sR M4 a0 1 (some (mZ M3))
  let M7 := nw M6 20 60
  ck (kO M7 a0 9 11) (
  let M9 := sR M7 a0 2 (some (mZ M6))
  let M10 := nw M9 29 60
  ck (kO M10 a0 9 11) (
  let M12 := sR M10 a0 3 (some (mZ M9))
  let M13 := sI M12 a0 8 (-1)
  let M14 := sI M13 a0 9 (-1)
  some ((), M14)))))
set_option maxRecDepth 100000 in
set_option maxHeartbeats 4000000 in
theorem s_Session_new (G : Gx) (M : Mm) (a0 : Nat) (a1 : Int32) (a2 : Int32) : FnS G Y_Session_new cvV 1 [.ref a0, .int a1, .int a2] M (Session_new M a0 a1 a2) := by
  refine FnS.ofE (by decide) (Nat.le_of_ble_eq_true rfl) ?_
  show EJ G Y_Session_new cvV 1 0 [(0, .ref a0), (1, .int a1), (2, .int a2)] [] M _
  unfold Session_new
  refine EJ_aload_n 1 0 (dk_42 (bt bc_Session_new_0 0 rfl)) rfl rfl ?_
  refine EJ_obj 4 (dk_183 (bt bc_Session_new_0 1 rfl) (bt bc_Session_new_0 2 rfl) (bt bc_Session_new_0 3 rfl) (n := 3) rfl) rfl tw_823 tw_27 tw_28 (by decide) (Nat.le_of_ble_eq_true rfl) ?_
  refine EJ_aload_n 5 0 (dk_42 (bt bc_Session_new_0 4 rfl)) rfl rfl ?_
  refine EJ_iload_n 6 1 (dk_27 (bt bc_Session_new_0 5 rfl)) rfl rfl ?_
  refine EJ_ck (fun h1 => ?_)
  refine EJ_putI cf9 0 (by decide) 9 tw_828 rfl (Or.inr ⟨rfl, rfl⟩) (dk_181 (bt bc_Session_new_0 6 rfl) (bt bc_Session_new_0 7 rfl) (bt bc_Session_new_0 8 rfl) (n := 9) rfl) rfl (of_decide_eq_true h1) ?_
  refine EJ_aload_n 10 0 (dk_42 (bt bc_Session_new_0 9 rfl)) rfl rfl ?_
  refine EJ_iload_n 11 2 (dk_28 (bt bc_Session_new_0 10 rfl)) rfl rfl ?_
  refine EJ_putI cf9 7 (by decide) 14 tw_842 rfl (Or.inl rfl) (dk_181 (bt bc_Session_new_0 11 rfl) (bt bc_Session_new_0 12 rfl) (bt bc_Session_new_0 13 rfl) (n := 15) rfl) rfl (kp_I (of_decide_eq_true h1)) ?_
  refine EJ_aload_n 15 0 (dk_42 (bt bc_Session_new_0 14 rfl)) rfl rfl ?_
  refine EJ_bipush 17 (dk_16 (bt bc_Session_new_0 15 rfl) (bt bc_Session_new_0 16 rfl) (n := 60) rfl) rfl (v := 60) kB_60 ?_
  refine EJ_newq' 8 20 (c := 28) (N := 60) (by decide) (by decide) rfl tw_824 (fun _ h => h.2.2.2.2.2.2.1) rfl (by decide) (by decide) (dk_189 (bt bc_Session_new_0 17 rfl) (bt bc_Session_new_0 18 rfl) (bt bc_Session_new_0 19 rfl) (n := 18) rfl) rfl ?_
  refine EJ_ck (fun h5 => ?_)
  refine EJ_putR cf9 1 (by decide) 23 tw_830 (fun _ _ _ => rfl) (fun _ => rfl) (fun _ => rfl) (Or.inr ⟨rfl, rfl⟩) (dk_181 (bt bc_Session_new_0 20 rfl) (bt bc_Session_new_0 21 rfl) (bt bc_Session_new_0 22 rfl) (n := 20) rfl) rfl (of_decide_eq_true h5) ?_
  refine EJ_aload_n 24 0 (dk_42 (bt bc_Session_new_0 23 rfl)) rfl rfl ?_
  refine EJ_bipush 26 (dk_16 (bt bc_Session_new_0 24 rfl) (bt bc_Session_new_0 25 rfl) (n := 60) rfl) rfl (v := 60) kB_60 ?_
  refine EJ_newa' 0 28 (c := 20) (N := 60) (by decide) rfl tw_61 rfl (by decide) (by decide) (dk_188_10 (bt bc_Session_new_0 26 rfl) (bt bc_Session_new_0 27 rfl)) rfl ?_
  refine EJ_ck (fun h8 => ?_)
  refine EJ_putR cf9 2 (by decide) 31 tw_831 (fun _ _ _ => rfl) (fun _ => rfl) (fun _ => rfl) (Or.inr ⟨rfl, rfl⟩) (dk_181 (bt bc_Session_new_0 28 rfl) (bt bc_Session_new_0 29 rfl) (bt bc_Session_new_0 30 rfl) (n := 24) rfl) rfl (of_decide_eq_true h8) ?_
  refine EJ_aload_n 32 0 (dk_42 (bt bc_Session_new_0 31 rfl)) rfl rfl ?_
  refine EJ_bipush 34 (dk_16 (bt bc_Session_new_1 0 rfl) (bt bc_Session_new_1 1 rfl) (n := 60) rfl) rfl (v := 60) kB_60 ?_
  refine EJ_newq' 9 37 (c := 29) (N := 60) (by decide) (by decide) rfl tw_826 (fun _ h => h.2.2.2.2.2.2.2.1) rfl (by decide) (by decide) (dk_189 (bt bc_Session_new_1 2 rfl) (bt bc_Session_new_1 3 rfl) (bt bc_Session_new_1 4 rfl) (n := 28) rfl) rfl ?_
  refine EJ_ck (fun h11 => ?_)
  refine EJ_putR cf9 3 (by decide) 40 tw_832 (fun _ _ _ => rfl) (fun _ => rfl) (fun _ => rfl) (Or.inr ⟨rfl, rfl⟩) (dk_181 (bt bc_Session_new_1 5 rfl) (bt bc_Session_new_1 6 rfl) (bt bc_Session_new_1 7 rfl) (n := 30) rfl) rfl (of_decide_eq_true h11) ?_
  refine EJ_aload_n 41 0 (dk_42 (bt bc_Session_new_1 8 rfl)) rfl rfl ?_
  refine EJ_iconst 42 (dk_2 (bt bc_Session_new_1 9 rfl)) rfl (v := (-1)) kI_m1 ?_
  refine EJ_putI cf9 8 (by decide) 45 tw_844 rfl (Or.inl rfl) (dk_181 (bt bc_Session_new_1 10 rfl) (bt bc_Session_new_1 11 rfl) (bt bc_Session_new_1 12 rfl) (n := 34) rfl) rfl (kp_R (of_decide_eq_true h11)) ?_
  refine EJ_aload_n 46 0 (dk_42 (bt bc_Session_new_1 13 rfl)) rfl rfl ?_
  refine EJ_iconst 47 (dk_2 (bt bc_Session_new_1 14 rfl)) rfl (v := (-1)) kI_m1 ?_
  refine EJ_putI cf9 9 (by decide) 50 tw_846 rfl (Or.inl rfl) (dk_181 (bt bc_Session_new_1 15 rfl) (bt bc_Session_new_1 16 rfl) (bt bc_Session_new_1 17 rfl) (n := 37) rfl) rfl (kp_I (kp_R (of_decide_eq_true h11))) ?_
  exact EJ_vret rfl (dk_177 (bt bc_Session_new_1 18 rfl))
abbrev Y_Session_addCry : Ym := (⟨"RiceHall$Session", "addCry", "(LRiceHall$Cry;)I"⟩, prog_11_method_3_code, 2, (some FieldType.int))
theorem bc_Session_addCry_0 : bts prog_11_method_3_code 0 [42, 180, 0, 43, 16, 60, 161, 0, 5, 2, 172, 42, 180, 0, 20, 42, 180, 0, 43, 43, 83, 42, 89, 180, 0, 43, 4, 96, 181, 0, 43, 42] := bts_of (by decide +kernel)
theorem bc_Session_addCry_1 : bts prog_11_method_3_code 32 [180, 0, 43, 4, 100, 172] := bts_of (by decide +kernel)
theorem hd_Session_addCry : Y_Session_addCry.1.cls = RX9 ∧ Y_Session_addCry.1.cls ≠ "java/lang/invoke/MethodHandle" ∧ Y_Session_addCry.1.cls ≠ "java/lang/invoke/VarHandle" ∧ (parseMethodDescriptor Y_Session_addCry.1.desc).map (fun d => d.parameters.length) = some 1 := by decide +kernel
def Session_addCry (M : Mm) (a0 : Nat) (a1 : Nat) : Option (Int32 × Mm) :=
  ck (kO M a0 9 11) (
  if (mI M a0 4) < 60 then (
    nn (mR M a0 1) (fun b2 =>
    ck (kA M b2 28 (mI M a0 4)) (
    ck (kO M a1 1 6) (
    let M5 := sR M b2 (ix (mI M a0 4)) (some a1)
    let M6 := sI M5 a0 4 ((mI M5 a0 4) + 1)
    some ((mI M6 a0 4) - 1, M6)))))
  else (
    some ((-1), M)))
set_option maxRecDepth 100000 in
set_option maxHeartbeats 4000000 in
theorem s_Session_addCry (G : Gx) (M : Mm) (a0 : Nat) (a1 : Nat) : FnS G Y_Session_addCry cvI 1 [.ref a0, .ref a1] M (Session_addCry M a0 a1) := by
  refine FnS.ofE (by decide) (Nat.le_of_ble_eq_true rfl) ?_
  show EJ G Y_Session_addCry cvI 1 0 [(0, .ref a0), (1, .ref a1)] [] M _
  unfold Session_addCry
  refine EJ_aload_n 1 0 (dk_42 (bt bc_Session_addCry_0 0 rfl)) rfl rfl ?_
  refine EJ_ck (fun h1 => ?_)
  refine EJ_getI cf9 4 (by decide) 4 tw_835 (fun _ _ _ => rfl) (dk_180 (bt bc_Session_addCry_0 1 rfl) (bt bc_Session_addCry_0 2 rfl) (bt bc_Session_addCry_0 3 rfl) (n := 43) rfl) rfl (of_decide_eq_true h1) ?_
  refine EJ_bipush 6 (dk_16 (bt bc_Session_addCry_0 4 rfl) (bt bc_Session_addCry_0 5 rfl) (n := 60) rfl) rfl (v := 60) kB_60 ?_
  refine EJ_icmp_lt 11 9 (dk_161 (bt bc_Session_addCry_0 6 rfl) (bt bc_Session_addCry_0 7 rfl) (bt bc_Session_addCry_0 8 rfl) (n := 5) rfl) (by decide) rfl (fun _ => ?_) (fun _ => ?_)
  · refine EJ_aload_n 12 0 (dk_42 (bt bc_Session_addCry_0 11 rfl)) rfl rfl ?_
    refine EJ_getR cf9 1 (by decide) 15 tw_830 (fun _ _ _ => rfl) (dk_180 (bt bc_Session_addCry_0 12 rfl) (bt bc_Session_addCry_0 13 rfl) (bt bc_Session_addCry_0 14 rfl) (n := 20) rfl) rfl (of_decide_eq_true h1) (fun b2 => ?_)
    refine EJ_aload_n 16 0 (dk_42 (bt bc_Session_addCry_0 15 rfl)) rfl rfl ?_
    refine EJ_getI cf9 4 (by decide) 19 tw_835 (fun _ _ _ => rfl) (dk_180 (bt bc_Session_addCry_0 16 rfl) (bt bc_Session_addCry_0 17 rfl) (bt bc_Session_addCry_0 18 rfl) (n := 43) rfl) rfl (of_decide_eq_true h1) ?_
    refine EJ_aload_n 20 1 (dk_43 (bt bc_Session_addCry_0 19 rfl)) rfl rfl ?_
    refine EJ_ck (fun h3 => ?_)
    refine EJ_ck (fun h4 => ?_)
    refine EJ_aast 8 21 cf1 (by decide) (by decide) rfl h3 (of_decide_eq_true h4) (dk_83 (bt bc_Session_addCry_0 20 rfl)) rfl ?_
    refine EJ_aload_n 22 0 (dk_42 (bt bc_Session_addCry_0 21 rfl)) rfl rfl ?_
    refine EJ_dup 23 (dk_89 (bt bc_Session_addCry_0 22 rfl)) rfl rfl ?_
    refine EJ_getI cf9 4 (by decide) 26 tw_835 (fun _ _ _ => rfl) (dk_180 (bt bc_Session_addCry_0 23 rfl) (bt bc_Session_addCry_0 24 rfl) (bt bc_Session_addCry_0 25 rfl) (n := 43) rfl) rfl (kp_R (of_decide_eq_true h1)) ?_
    refine EJ_iconst 27 (dk_4 (bt bc_Session_addCry_0 26 rfl)) rfl (v := 1) kI_1 ?_
    refine EJ_iadd 28 (dk_96 (bt bc_Session_addCry_0 27 rfl)) rfl ?_
    refine EJ_putI cf9 4 (by decide) 31 tw_835 rfl (Or.inl rfl) (dk_181 (bt bc_Session_addCry_0 28 rfl) (bt bc_Session_addCry_0 29 rfl) (bt bc_Session_addCry_0 30 rfl) (n := 43) rfl) rfl (kp_R (of_decide_eq_true h1)) ?_
    refine EJ_aload_n 32 0 (dk_42 (bt bc_Session_addCry_0 31 rfl)) rfl rfl ?_
    refine EJ_getI cf9 4 (by decide) 35 tw_835 (fun _ _ _ => rfl) (dk_180 (bt bc_Session_addCry_1 0 rfl) (bt bc_Session_addCry_1 1 rfl) (bt bc_Session_addCry_1 2 rfl) (n := 43) rfl) rfl (kp_I (kp_R (of_decide_eq_true h1))) ?_
    refine EJ_iconst 36 (dk_4 (bt bc_Session_addCry_1 3 rfl)) rfl (v := 1) kI_1 ?_
    refine EJ_isub 37 (dk_100 (bt bc_Session_addCry_1 4 rfl)) rfl ?_
    exact EJ_iret rfl (dk_172 (bt bc_Session_addCry_1 5 rfl))
  · refine EJ_iconst 10 (dk_2 (bt bc_Session_addCry_0 9 rfl)) rfl (v := (-1)) kI_m1 ?_
    exact EJ_iret rfl (dk_172 (bt bc_Session_addCry_0 10 rfl))
abbrev Y_Session_bestPartner : Ym := (⟨"RiceHall$Session", "bestPartner", "(I[I)I"⟩, prog_11_method_5_code, 5, (some FieldType.int))
theorem bc_Session_bestPartner_0 : bts prog_11_method_5_code 0 [2, 62, 3, 54, 4, 21, 4, 27, 162, 0, 62, 44, 21, 4, 46, 158, 0, 49, 42, 180, 0, 20, 27, 50, 42, 180, 0, 20, 21, 4, 50, 182] := bts_of (by decide +kernel)
theorem bc_Session_bestPartner_1 : bts prog_11_method_5_code 32 [0, 60, 153, 0, 30, 29, 2, 159, 0, 22, 42, 180, 0, 20, 21, 4, 50, 42, 180, 0, 20, 29, 50, 182, 0, 64, 153, 0, 6, 21, 4, 62] := bts_of (by decide +kernel)
theorem bc_Session_bestPartner_2 : bts prog_11_method_5_code 64 [132, 4, 1, 167, 255, 194, 29, 172] := bts_of (by decide +kernel)
theorem hd_Session_bestPartner : Y_Session_bestPartner.1.cls = RX9 ∧ Y_Session_bestPartner.1.cls ≠ "java/lang/invoke/MethodHandle" ∧ Y_Session_bestPartner.1.cls ≠ "java/lang/invoke/VarHandle" ∧ (parseMethodDescriptor Y_Session_bestPartner.1.desc).map (fun d => d.parameters.length) = some 2 := by decide +kernel
def Session_bestPartner_J64 (k5 : Nat → Int32 → Nat → Int32 → Int32 → Mm → Option (Int32 × Mm)) (x0 : Nat) (x1 : Int32) (x2 : Nat) (x3 : Int32) (x4 : Int32) (M : Mm) : Option (Int32 × Mm) :=
  let v2 : Int32 := x4 + 1
  k5 x0 x1 x2 x3 v2 M
set_option maxRecDepth 100000 in
set_option maxHeartbeats 4000000 in
theorem e_Session_bestPartner_J64 {G : Gx} (k5 : Nat → Int32 → Nat → Int32 → Int32 → Mm → Option (Int32 × Mm)) (hk5 : ∀ (x0 : Nat) (x1 : Int32) (x2 : Nat) (x3 : Int32) (x4 : Int32) (M : Mm), EJ G Y_Session_bestPartner cvI 2 5 [(0, .ref x0), (1, .int x1), (2, .ref x2), (3, .int x3), (4, .int x4)] [] M (k5 x0 x1 x2 x3 x4 M)) (x0 : Nat) (x1 : Int32) (x2 : Nat) (x3 : Int32) (x4 : Int32) (M : Mm) : EJ G Y_Session_bestPartner cvI 2 64 [(0, .ref x0), (1, .int x1), (2, .ref x2), (3, .int x3), (4, .int x4)] [] M (Session_bestPartner_J64 k5 x0 x1 x2 x3 x4 M) := by
  unfold Session_bestPartner_J64
  refine EJ_iinc 67 4 (lv2 := [(4, .int _), (0, .ref _), (1, .int _), (2, .ref _), (3, .int _)]) (dk_132 (bt bc_Session_bestPartner_2 0 rfl) (bt bc_Session_bestPartner_2 1 rfl) (bt bc_Session_bestPartner_2 2 rfl) (n := 1) rfl) rfl (by decide) rfl (v := 1) kI_1 rfl ?_
  refine EJ_goto 5 (dk_167 (bt bc_Session_bestPartner_2 3 rfl) (bt bc_Session_bestPartner_2 4 rfl) (bt bc_Session_bestPartner_2 5 rfl) (n := -62) rfl) (by decide) ?_
  exact EJ_pick (lv2 := [(0, .ref _), (1, .int _), (2, .ref _), (3, .int _), (4, .int _)]) [1, 2, 3, 4, 0] rfl (hk5 _ _ _ _ _ _)
def Session_bestPartner_J61 (k5 : Nat → Int32 → Nat → Int32 → Int32 → Mm → Option (Int32 × Mm)) (x0 : Nat) (x1 : Int32) (x2 : Nat) (x4 : Int32) (M : Mm) : Option (Int32 × Mm) :=
  Session_bestPartner_J64 k5 x0 x1 x2 x4 x4 M
set_option maxRecDepth 100000 in
set_option maxHeartbeats 4000000 in
theorem e_Session_bestPartner_J61 {G : Gx} (k5 : Nat → Int32 → Nat → Int32 → Int32 → Mm → Option (Int32 × Mm)) (hk5 : ∀ (x0 : Nat) (x1 : Int32) (x2 : Nat) (x3 : Int32) (x4 : Int32) (M : Mm), EJ G Y_Session_bestPartner cvI 2 5 [(0, .ref x0), (1, .int x1), (2, .ref x2), (3, .int x3), (4, .int x4)] [] M (k5 x0 x1 x2 x3 x4 M)) (x0 : Nat) (x1 : Int32) (x2 : Nat) (x4 : Int32) (M : Mm) : EJ G Y_Session_bestPartner cvI 2 61 [(0, .ref x0), (1, .int x1), (2, .ref x2), (4, .int x4)] [] M (Session_bestPartner_J61 k5 x0 x1 x2 x4 M) := by
  unfold Session_bestPartner_J61
  refine EJ_iload 63 3 (dk_21 (bt bc_Session_bestPartner_1 29 rfl) (bt bc_Session_bestPartner_1 30 rfl)) rfl rfl ?_
  refine EJ_istore_n 64 (lv2 := [(3, .int _), (0, .ref _), (1, .int _), (2, .ref _), (4, .int _)]) (dk_62 (bt bc_Session_bestPartner_1 31 rfl)) rfl (by decide) rfl ?_
  exact EJ_pick (lv2 := [(0, .ref _), (1, .int _), (2, .ref _), (3, .int _), (4, .int _)]) [1, 2, 3, 0, 4] rfl (e_Session_bestPartner_J64 k5 hk5 _ _ _ _ _ _)
def Session_bestPartner_B5 (k5 : Nat → Int32 → Nat → Int32 → Int32 → Mm → Option (Int32 × Mm)) (x0 : Nat) (x1 : Int32) (x2 : Nat) (x3 : Int32) (x4 : Int32) (M : Mm) : Option (Int32 × Mm) :=
  if x1 ≤ x4 then (
    some (x3, M))
  else (
    ck (kA M x2 20 x4) (
    if (mI M x2 (ix x4)) ≤ 0 then (
      Session_bestPartner_J64 k5 x0 x1 x2 x3 x4 M)
    else (
      ck (kO M x0 9 11) (
      nn (mR M x0 1) (fun b4 =>
      ck (kA M b4 28 x1) (
      nn (mR M b4 (ix x1)) (fun b6 =>
      nn (mR M x0 1) (fun b7 =>
      ck (kA M b7 28 x4) (
      nn (mR M b7 (ix x4)) (fun b9 =>
      ck (kO M b6 1 6) (
      bd (Cry_meets M b6 b9) (fun r11 M12 =>
      if r11 = 0 then (
        Session_bestPartner_J64 k5 x0 x1 x2 x3 x4 M12)
      else (
        if x3 = (-1) then (
          Session_bestPartner_J61 k5 x0 x1 x2 x4 M12)
        else (
          ck (kO M12 x0 9 11) (
          nn (mR M12 x0 1) (fun b14 =>
          ck (kA M12 b14 28 x4) (
          nn (mR M12 b14 (ix x4)) (fun b16 =>
          nn (mR M12 x0 1) (fun b17 =>
          ck (kA M12 b17 28 x3) (
          nn (mR M12 b17 (ix x3)) (fun b19 =>
          ck (kO M12 b16 1 6) (
          bd (Cry_isBetterThan M12 b16 b19) (fun r21 M22 =>
          if r21 = 0 then (
            Session_bestPartner_J64 k5 x0 x1 x2 x3 x4 M22)
          else (
            Session_bestPartner_J61 k5 x0 x1 x2 x4 M22))))))))))))))))))))))))
set_option maxRecDepth 100000 in
set_option maxHeartbeats 4000000 in
theorem e_Session_bestPartner_B5 {G : Gx} (k5 : Nat → Int32 → Nat → Int32 → Int32 → Mm → Option (Int32 × Mm)) (hk5 : ∀ (x0 : Nat) (x1 : Int32) (x2 : Nat) (x3 : Int32) (x4 : Int32) (M : Mm), EJ G Y_Session_bestPartner cvI 2 5 [(0, .ref x0), (1, .int x1), (2, .ref x2), (3, .int x3), (4, .int x4)] [] M (k5 x0 x1 x2 x3 x4 M)) (x0 : Nat) (x1 : Int32) (x2 : Nat) (x3 : Int32) (x4 : Int32) (M : Mm) : EJ G Y_Session_bestPartner cvI 2 5 [(0, .ref x0), (1, .int x1), (2, .ref x2), (3, .int x3), (4, .int x4)] [] M (Session_bestPartner_B5 k5 x0 x1 x2 x3 x4 M) := by
  unfold Session_bestPartner_B5
  refine EJ_iload 7 4 (dk_21 (bt bc_Session_bestPartner_0 5 rfl) (bt bc_Session_bestPartner_0 6 rfl)) rfl rfl ?_
  refine EJ_iload_n 8 1 (dk_27 (bt bc_Session_bestPartner_0 7 rfl)) rfl rfl ?_
  refine EJ_icmp_ge 70 11 (dk_162 (bt bc_Session_bestPartner_0 8 rfl) (bt bc_Session_bestPartner_0 9 rfl) (bt bc_Session_bestPartner_0 10 rfl) (n := 62) rfl) (by decide) rfl (fun _ => ?_) (fun _ => ?_)
  · refine EJ_iload_n 71 3 (dk_29 (bt bc_Session_bestPartner_2 6 rfl)) rfl rfl ?_
    exact EJ_iret rfl (dk_172 (bt bc_Session_bestPartner_2 7 rfl))
  · refine EJ_aload_n 12 2 (dk_44 (bt bc_Session_bestPartner_0 11 rfl)) rfl rfl ?_
    refine EJ_iload 14 4 (dk_21 (bt bc_Session_bestPartner_0 12 rfl) (bt bc_Session_bestPartner_0 13 rfl)) rfl rfl ?_
    refine EJ_ck (fun h1 => ?_)
    refine EJ_iald 15 h1 (dk_46 (bt bc_Session_bestPartner_0 14 rfl)) rfl ?_
    refine EJ_if_le 64 18 (dk_158 (bt bc_Session_bestPartner_0 15 rfl) (bt bc_Session_bestPartner_0 16 rfl) (bt bc_Session_bestPartner_0 17 rfl) (n := 49) rfl) (by decide) rfl (fun _ => ?_) (fun _ => ?_)
    · exact EJ_pick (lv2 := [(0, .ref _), (1, .int _), (2, .ref _), (3, .int _), (4, .int _)]) [0, 1, 2, 3, 4] rfl (e_Session_bestPartner_J64 k5 hk5 _ _ _ _ _ _)
    · refine EJ_aload_n 19 0 (dk_42 (bt bc_Session_bestPartner_0 18 rfl)) rfl rfl ?_
      refine EJ_ck (fun h3 => ?_)
      refine EJ_getR cf9 1 (by decide) 22 tw_830 (fun _ _ _ => rfl) (dk_180 (bt bc_Session_bestPartner_0 19 rfl) (bt bc_Session_bestPartner_0 20 rfl) (bt bc_Session_bestPartner_0 21 rfl) (n := 20) rfl) rfl (of_decide_eq_true h3) (fun b4 => ?_)
      refine EJ_iload_n 23 1 (dk_27 (bt bc_Session_bestPartner_0 22 rfl)) rfl rfl ?_
      refine EJ_ck (fun h5 => ?_)
      refine EJ_aald 8 24 (by decide) (by decide) rfl h5 (dk_50 (bt bc_Session_bestPartner_0 23 rfl)) rfl (fun b6 => ?_)
      refine EJ_aload_n 25 0 (dk_42 (bt bc_Session_bestPartner_0 24 rfl)) rfl rfl ?_
      refine EJ_getR cf9 1 (by decide) 28 tw_830 (fun _ _ _ => rfl) (dk_180 (bt bc_Session_bestPartner_0 25 rfl) (bt bc_Session_bestPartner_0 26 rfl) (bt bc_Session_bestPartner_0 27 rfl) (n := 20) rfl) rfl (of_decide_eq_true h3) (fun b7 => ?_)
      refine EJ_iload 30 4 (dk_21 (bt bc_Session_bestPartner_0 28 rfl) (bt bc_Session_bestPartner_0 29 rfl)) rfl rfl ?_
      refine EJ_ck (fun h8 => ?_)
      refine EJ_aald 8 31 (by decide) (by decide) rfl h8 (dk_50 (bt bc_Session_bestPartner_0 30 rfl)) rfl (fun b9 => ?_)
      refine EJ_ck (fun h10 => ?_)
      refine EJ_callVi (Y2 := Y_Cry_meets) 34 cf1 (s_Cry_meets G _ _ _) (of_decide_eq_true h10) rfl (dk_182 (bt bc_Session_bestPartner_0 31 rfl) (bt bc_Session_bestPartner_1 0 rfl) (bt bc_Session_bestPartner_1 1 rfl) (n := 60) rfl) rfl tw_923 tw_924 tw_925 tw_926 hd_Cry_meets rfl (by decide) (Nat.le_of_ble_eq_true rfl) (fun r11 M12 => ?_)
      refine EJ_if_eq 64 37 (dk_153 (bt bc_Session_bestPartner_1 2 rfl) (bt bc_Session_bestPartner_1 3 rfl) (bt bc_Session_bestPartner_1 4 rfl) (n := 30) rfl) (by decide) rfl (fun _ => ?_) (fun _ => ?_)
      · exact EJ_pick (lv2 := [(0, .ref _), (1, .int _), (2, .ref _), (3, .int _), (4, .int _)]) [0, 1, 2, 3, 4] rfl (e_Session_bestPartner_J64 k5 hk5 _ _ _ _ _ _)
      · refine EJ_iload_n 38 3 (dk_29 (bt bc_Session_bestPartner_1 5 rfl)) rfl rfl ?_
        refine EJ_iconst 39 (dk_2 (bt bc_Session_bestPartner_1 6 rfl)) rfl (v := (-1)) kI_m1 ?_
        refine EJ_icmp_eq 61 42 (dk_159 (bt bc_Session_bestPartner_1 7 rfl) (bt bc_Session_bestPartner_1 8 rfl) (bt bc_Session_bestPartner_1 9 rfl) (n := 22) rfl) (by decide) rfl (fun _ => ?_) (fun _ => ?_)
        · exact EJ_pick (lv2 := [(0, .ref _), (1, .int _), (2, .ref _), (4, .int _)]) [0, 1, 2, 4] rfl (e_Session_bestPartner_J61 k5 hk5 _ _ _ _ _)
        · refine EJ_aload_n 43 0 (dk_42 (bt bc_Session_bestPartner_1 10 rfl)) rfl rfl ?_
          refine EJ_ck (fun h13 => ?_)
          refine EJ_getR cf9 1 (by decide) 46 tw_830 (fun _ _ _ => rfl) (dk_180 (bt bc_Session_bestPartner_1 11 rfl) (bt bc_Session_bestPartner_1 12 rfl) (bt bc_Session_bestPartner_1 13 rfl) (n := 20) rfl) rfl (of_decide_eq_true h13) (fun b14 => ?_)
          refine EJ_iload 48 4 (dk_21 (bt bc_Session_bestPartner_1 14 rfl) (bt bc_Session_bestPartner_1 15 rfl)) rfl rfl ?_
          refine EJ_ck (fun h15 => ?_)
          refine EJ_aald 8 49 (by decide) (by decide) rfl h15 (dk_50 (bt bc_Session_bestPartner_1 16 rfl)) rfl (fun b16 => ?_)
          refine EJ_aload_n 50 0 (dk_42 (bt bc_Session_bestPartner_1 17 rfl)) rfl rfl ?_
          refine EJ_getR cf9 1 (by decide) 53 tw_830 (fun _ _ _ => rfl) (dk_180 (bt bc_Session_bestPartner_1 18 rfl) (bt bc_Session_bestPartner_1 19 rfl) (bt bc_Session_bestPartner_1 20 rfl) (n := 20) rfl) rfl (of_decide_eq_true h13) (fun b17 => ?_)
          refine EJ_iload_n 54 3 (dk_29 (bt bc_Session_bestPartner_1 21 rfl)) rfl rfl ?_
          refine EJ_ck (fun h18 => ?_)
          refine EJ_aald 8 55 (by decide) (by decide) rfl h18 (dk_50 (bt bc_Session_bestPartner_1 22 rfl)) rfl (fun b19 => ?_)
          refine EJ_ck (fun h20 => ?_)
          refine EJ_callVi (Y2 := Y_Cry_isBetterThan) 58 cf1 (s_Cry_isBetterThan G _ _ _) (of_decide_eq_true h20) rfl (dk_182 (bt bc_Session_bestPartner_1 23 rfl) (bt bc_Session_bestPartner_1 24 rfl) (bt bc_Session_bestPartner_1 25 rfl) (n := 64) rfl) rfl tw_927 tw_928 tw_929 tw_930 hd_Cry_isBetterThan rfl (by decide) (Nat.le_of_ble_eq_true rfl) (fun r21 M22 => ?_)
          refine EJ_if_eq 64 61 (dk_153 (bt bc_Session_bestPartner_1 26 rfl) (bt bc_Session_bestPartner_1 27 rfl) (bt bc_Session_bestPartner_1 28 rfl) (n := 6) rfl) (by decide) rfl (fun _ => ?_) (fun _ => ?_)
          · exact EJ_pick (lv2 := [(0, .ref _), (1, .int _), (2, .ref _), (3, .int _), (4, .int _)]) [0, 1, 2, 3, 4] rfl (e_Session_bestPartner_J64 k5 hk5 _ _ _ _ _ _)
          · exact EJ_pick (lv2 := [(0, .ref _), (1, .int _), (2, .ref _), (4, .int _)]) [0, 1, 2, 4] rfl (e_Session_bestPartner_J61 k5 hk5 _ _ _ _ _)
def Session_bestPartner_L5 (n : Nat) : Nat → Int32 → Nat → Int32 → Int32 → Mm → Option (Int32 × Mm) :=
  match n with
  | 0 => fun _ _ _ _ _ _ => none
  | n + 1 => Session_bestPartner_B5 (Session_bestPartner_L5 n)
theorem e_Session_bestPartner_L5 {G : Gx} : ∀ (n : Nat) (x0 : Nat) (x1 : Int32) (x2 : Nat) (x3 : Int32) (x4 : Int32) (M : Mm), EJ G Y_Session_bestPartner cvI 2 5 [(0, .ref x0), (1, .int x1), (2, .ref x2), (3, .int x3), (4, .int x4)] [] M (Session_bestPartner_L5 n x0 x1 x2 x3 x4 M) := by
  intro n
  induction n with
  | zero => intros; exact EJ_none
  | succ n ih => intro x0 x1 x2 x3 x4 M; exact e_Session_bestPartner_B5 _ ih x0 x1 x2 x3 x4 M
def Session_bestPartner (M : Mm) (a0 : Nat) (a1 : Int32) (a2 : Nat) : Option (Int32 × Mm) :=
  Session_bestPartner_L5 fu a0 a1 a2 (-1) 0 M
set_option maxRecDepth 100000 in
set_option maxHeartbeats 4000000 in
theorem s_Session_bestPartner (G : Gx) (M : Mm) (a0 : Nat) (a1 : Int32) (a2 : Nat) : FnS G Y_Session_bestPartner cvI 2 [.ref a0, .int a1, .ref a2] M (Session_bestPartner M a0 a1 a2) := by
  refine FnS.ofE (by decide) (Nat.le_of_ble_eq_true rfl) ?_
  show EJ G Y_Session_bestPartner cvI 2 0 [(0, .ref a0), (1, .int a1), (2, .ref a2)] [] M _
  unfold Session_bestPartner
  refine EJ_iconst 1 (dk_2 (bt bc_Session_bestPartner_0 0 rfl)) rfl (v := (-1)) kI_m1 ?_
  refine EJ_istore_n 2 (lv2 := [(3, .int _), (0, .ref _), (1, .int _), (2, .ref _)]) (dk_62 (bt bc_Session_bestPartner_0 1 rfl)) rfl (by decide) rfl ?_
  refine EJ_iconst 3 (dk_3 (bt bc_Session_bestPartner_0 2 rfl)) rfl (v := 0) kI_0 ?_
  refine EJ_istore 5 (lv2 := [(4, .int _), (3, .int _), (0, .ref _), (1, .int _), (2, .ref _)]) (dk_54 (bt bc_Session_bestPartner_0 3 rfl) (bt bc_Session_bestPartner_0 4 rfl)) rfl (by decide) rfl ?_
  exact EJ_pick (lv2 := [(0, .ref _), (1, .int _), (2, .ref _), (3, .int _), (4, .int _)]) [2, 3, 4, 1, 0] rfl (e_Session_bestPartner_L5 fu _ _ _ _ _ _)
abbrev Y_Session_strike : Ym := (⟨"RiceHall$Session", "strike", "(II[I)I"⟩, prog_11_method_6_code, 4, (some FieldType.int))
theorem bc_Session_strike_0 : bts prog_11_method_6_code 0 [44, 26, 46, 44, 27, 46, 184, 0, 67, 62, 44, 26, 92, 46, 29, 100, 79, 44, 27, 92, 46, 29, 100, 79, 29, 172] := bts_of (by decide +kernel)
theorem hd_Session_strike : Y_Session_strike.1.cls ≠ "java/lang/invoke/MethodHandle" ∧ Y_Session_strike.1.cls ≠ "java/lang/invoke/VarHandle" ∧ (parseMethodDescriptor Y_Session_strike.1.desc).map (fun d => d.parameters.length) = some 3 := by decide +kernel
def Session_strike (M : Mm) (a0 : Int32) (a1 : Int32) (a2 : Nat) : Option (Int32 × Mm) :=
  ck (kA M a2 20 a0) (
  ck (kA M a2 20 a1) (
  bd (Math_min_I M (mI M a2 (ix a0)) (mI M a2 (ix a1))) (fun r3 M4 =>
  ck (kA M4 a2 20 a0) (
  let M6 := sI M4 a2 (ix a0) ((mI M4 a2 (ix a0)) - r3)
  ck (kA M6 a2 20 a1) (
  let M8 := sI M6 a2 (ix a1) ((mI M6 a2 (ix a1)) - r3)
  some (r3, M8))))))
set_option maxRecDepth 100000 in
set_option maxHeartbeats 4000000 in
theorem s_Session_strike (G : Gx) (M : Mm) (a0 : Int32) (a1 : Int32) (a2 : Nat) : FnS G Y_Session_strike cvI 2 [.int a0, .int a1, .ref a2] M (Session_strike M a0 a1 a2) := by
  refine FnS.ofE (by decide) (Nat.le_of_ble_eq_true rfl) ?_
  show EJ G Y_Session_strike cvI 2 0 [(0, .int a0), (1, .int a1), (2, .ref a2)] [] M _
  unfold Session_strike
  refine EJ_aload_n 1 2 (dk_44 (bt bc_Session_strike_0 0 rfl)) rfl rfl ?_
  refine EJ_iload_n 2 0 (dk_26 (bt bc_Session_strike_0 1 rfl)) rfl rfl ?_
  refine EJ_ck (fun h1 => ?_)
  refine EJ_iald 3 h1 (dk_46 (bt bc_Session_strike_0 2 rfl)) rfl ?_
  refine EJ_aload_n 4 2 (dk_44 (bt bc_Session_strike_0 3 rfl)) rfl rfl ?_
  refine EJ_iload_n 5 1 (dk_27 (bt bc_Session_strike_0 4 rfl)) rfl rfl ?_
  refine EJ_ck (fun h2 => ?_)
  refine EJ_iald 6 h2 (dk_46 (bt bc_Session_strike_0 5 rfl)) rfl ?_
  refine EJ_callSi (Y2 := Y_Math_min_I) 9 (s_Math_min_I G _ _ _) rfl (dk_184 (bt bc_Session_strike_0 6 rfl) (bt bc_Session_strike_0 7 rfl) (bt bc_Session_strike_0 8 rfl) (n := 67) rfl) rfl tw_934 tw_322 tw_9 tw_323 hd_Math_min_I rfl (by decide) (Nat.le_of_ble_eq_true rfl) (fun r3 M4 => ?_)
  refine EJ_istore_n 10 (lv2 := [(3, .int _), (0, .int _), (1, .int _), (2, .ref _)]) (dk_62 (bt bc_Session_strike_0 9 rfl)) rfl (by decide) rfl ?_
  refine EJ_aload_n 11 3 (dk_44 (bt bc_Session_strike_0 10 rfl)) rfl rfl ?_
  refine EJ_iload_n 12 1 (dk_26 (bt bc_Session_strike_0 11 rfl)) rfl rfl ?_
  refine EJ_dup2 13 (dk_92 (bt bc_Session_strike_0 12 rfl)) rfl rfl rfl ?_
  refine EJ_ck (fun h5 => ?_)
  refine EJ_iald 14 h5 (dk_46 (bt bc_Session_strike_0 13 rfl)) rfl ?_
  refine EJ_iload_n 15 0 (dk_29 (bt bc_Session_strike_0 14 rfl)) rfl rfl ?_
  refine EJ_isub 16 (dk_100 (bt bc_Session_strike_0 15 rfl)) rfl ?_
  refine EJ_iast 17 h5 (dk_79 (bt bc_Session_strike_0 16 rfl)) rfl ?_
  refine EJ_aload_n 18 3 (dk_44 (bt bc_Session_strike_0 17 rfl)) rfl rfl ?_
  refine EJ_iload_n 19 2 (dk_27 (bt bc_Session_strike_0 18 rfl)) rfl rfl ?_
  refine EJ_dup2 20 (dk_92 (bt bc_Session_strike_0 19 rfl)) rfl rfl rfl ?_
  refine EJ_ck (fun h7 => ?_)
  refine EJ_iald 21 h7 (dk_46 (bt bc_Session_strike_0 20 rfl)) rfl ?_
  refine EJ_iload_n 22 0 (dk_29 (bt bc_Session_strike_0 21 rfl)) rfl rfl ?_
  refine EJ_isub 23 (dk_100 (bt bc_Session_strike_0 22 rfl)) rfl ?_
  refine EJ_iast 24 h7 (dk_79 (bt bc_Session_strike_0 23 rfl)) rfl ?_
  refine EJ_iload_n 25 0 (dk_29 (bt bc_Session_strike_0 24 rfl)) rfl rfl ?_
  exact EJ_iret rfl (dk_172 (bt bc_Session_strike_0 25 rfl))
abbrev Y_Session_meet : Ym := (⟨"RiceHall$Session", "meet", "(I)V"⟩, prog_11_method_4_code, 5, none)
theorem bc_Session_meet_0 : bts prog_11_method_4_code 0 [27, 155, 0, 11, 27, 42, 180, 0, 43, 161, 0, 4, 177, 42, 180, 0, 24, 27, 42, 180, 0, 20, 27, 50, 180, 0, 46, 79, 3, 61, 28, 42] := bts_of (by decide +kernel)
theorem bc_Session_meet_1 : bts prog_11_method_4_code 32 [180, 0, 43, 162, 0, 94, 42, 180, 0, 24, 27, 46, 158, 0, 85, 42, 27, 42, 180, 0, 24, 182, 0, 49, 62, 29, 2, 159, 0, 12, 42, 180] := bts_of (by decide +kernel)
theorem bc_Session_meet_2 : bts prog_11_method_4_code 64 [0, 40, 16, 60, 161, 0, 4, 177, 27, 29, 42, 180, 0, 24, 184, 0, 53, 54, 4, 42, 180, 0, 30, 42, 180, 0, 40, 187, 0, 28, 89, 42] := bts_of (by decide +kernel)
theorem bc_Session_meet_3 : bts prog_11_method_4_code 96 [180, 0, 20, 27, 50, 42, 180, 0, 20, 29, 50, 21, 4, 183, 0, 57, 83, 42, 89, 180, 0, 40, 4, 96, 181, 0, 40, 132, 2, 1, 167, 255] := bts_of (by decide +kernel)
theorem bc_Session_meet_4 : bts prog_11_method_4_code 128 [160, 177] := bts_of (by decide +kernel)
theorem hd_Session_meet : Y_Session_meet.1.cls = RX9 ∧ Y_Session_meet.1.cls ≠ "java/lang/invoke/MethodHandle" ∧ Y_Session_meet.1.cls ≠ "java/lang/invoke/VarHandle" ∧ (parseMethodDescriptor Y_Session_meet.1.desc).map (fun d => d.parameters.length) = some 1 := by decide +kernel
def Session_meet_B30 (k30 : Nat → Int32 → Int32 → Mm → Option (Unit × Mm)) (x0 : Nat) (x1 : Int32) (x2 : Int32) (M : Mm) : Option (Unit × Mm) :=
  ck (kO M x0 9 11) (
  if (mI M x0 4) ≤ x2 then (
    some ((), M))
  else (
    nn (mR M x0 2) (fun b10 =>
    ck (kA M b10 20 x1) (
    if (mI M b10 (ix x1)) ≤ 0 then (
      some ((), M))
    else (
      nn (mR M x0 2) (fun b12 =>
      bd (Session_bestPartner M x0 x1 b12) (fun r13 M14 =>
      if r13 = (-1) then (
        some ((), M14))
      else (
        ck (kO M14 x0 9 11) (
        if (mI M14 x0 5) < 60 then (
          nn (mR M14 x0 2) (fun b16 =>
          bd (Session_strike M14 x1 r13 b16) (fun r17 M18 =>
          ck (kO M18 x0 9 11) (
          nn (mR M18 x0 3) (fun b20 =>
          let M21 := nw M18 0 14
          ck (kO M21 x0 9 11) (
          nn (mR M21 x0 1) (fun b23 =>
          ck (kA M21 b23 28 x1) (
          nn (mR M21 b23 (ix x1)) (fun b25 =>
          nn (mR M21 x0 1) (fun b26 =>
          ck (kA M21 b26 28 r13) (
          nn (mR M21 b26 (ix r13)) (fun b28 =>
          bd (Bargain_new M21 (mZ M18) b25 b28 r17) (fun _ M30 =>
          ck (kA M30 b20 29 (mI M18 x0 5)) (
          ck (kO M30 (mZ M18) 0 14) (
          let M33 := sR M30 b20 (ix (mI M18 x0 5)) (some (mZ M18))
          ck (kO M33 x0 9 11) (
          let M35 := sI M33 x0 5 ((mI M33 x0 5) + 1)
          let v36 : Int32 := x2 + 1
          k30 x0 x1 v36 M35))))))))))))))))
        else (
          some ((), M14)))))))))))
set_option maxRecDepth 100000 in
set_option maxHeartbeats 4000000 in
theorem e_Session_meet_B30 {G : Gx} (k30 : Nat → Int32 → Int32 → Mm → Option (Unit × Mm)) (hk30 : ∀ (x0 : Nat) (x1 : Int32) (x2 : Int32) (M : Mm), EJ G Y_Session_meet cvV 3 30 [(0, .ref x0), (1, .int x1), (2, .int x2)] [] M (k30 x0 x1 x2 M)) (x0 : Nat) (x1 : Int32) (x2 : Int32) (M : Mm) : EJ G Y_Session_meet cvV 3 30 [(0, .ref x0), (1, .int x1), (2, .int x2)] [] M (Session_meet_B30 k30 x0 x1 x2 M) := by
  unfold Session_meet_B30
  refine EJ_iload_n 31 2 (dk_28 (bt bc_Session_meet_0 30 rfl)) rfl rfl ?_
  refine EJ_aload_n 32 0 (dk_42 (bt bc_Session_meet_0 31 rfl)) rfl rfl ?_
  refine EJ_ck (fun h9 => ?_)
  refine EJ_getI cf9 4 (by decide) 35 tw_835 (fun _ _ _ => rfl) (dk_180 (bt bc_Session_meet_1 0 rfl) (bt bc_Session_meet_1 1 rfl) (bt bc_Session_meet_1 2 rfl) (n := 43) rfl) rfl (of_decide_eq_true h9) ?_
  refine EJ_icmp_ge 129 38 (dk_162 (bt bc_Session_meet_1 3 rfl) (bt bc_Session_meet_1 4 rfl) (bt bc_Session_meet_1 5 rfl) (n := 94) rfl) (by decide) rfl (fun _ => ?_) (fun _ => ?_)
  · exact EJ_vret rfl (dk_177 (bt bc_Session_meet_4 1 rfl))
  · refine EJ_aload_n 39 0 (dk_42 (bt bc_Session_meet_1 6 rfl)) rfl rfl ?_
    refine EJ_getR cf9 2 (by decide) 42 tw_831 (fun _ _ _ => rfl) (dk_180 (bt bc_Session_meet_1 7 rfl) (bt bc_Session_meet_1 8 rfl) (bt bc_Session_meet_1 9 rfl) (n := 24) rfl) rfl (of_decide_eq_true h9) (fun b10 => ?_)
    refine EJ_iload_n 43 1 (dk_27 (bt bc_Session_meet_1 10 rfl)) rfl rfl ?_
    refine EJ_ck (fun h11 => ?_)
    refine EJ_iald 44 h11 (dk_46 (bt bc_Session_meet_1 11 rfl)) rfl ?_
    refine EJ_if_le 129 47 (dk_158 (bt bc_Session_meet_1 12 rfl) (bt bc_Session_meet_1 13 rfl) (bt bc_Session_meet_1 14 rfl) (n := 85) rfl) (by decide) rfl (fun _ => ?_) (fun _ => ?_)
    · exact EJ_vret rfl (dk_177 (bt bc_Session_meet_4 1 rfl))
    · refine EJ_aload_n 48 0 (dk_42 (bt bc_Session_meet_1 15 rfl)) rfl rfl ?_
      refine EJ_iload_n 49 1 (dk_27 (bt bc_Session_meet_1 16 rfl)) rfl rfl ?_
      refine EJ_aload_n 50 0 (dk_42 (bt bc_Session_meet_1 17 rfl)) rfl rfl ?_
      refine EJ_getR cf9 2 (by decide) 53 tw_831 (fun _ _ _ => rfl) (dk_180 (bt bc_Session_meet_1 18 rfl) (bt bc_Session_meet_1 19 rfl) (bt bc_Session_meet_1 20 rfl) (n := 24) rfl) rfl (of_decide_eq_true h9) (fun b12 => ?_)
      refine EJ_callVi (Y2 := Y_Session_bestPartner) 56 cf9 (s_Session_bestPartner G _ _ _ _) (of_decide_eq_true h9) rfl (dk_182 (bt bc_Session_meet_1 21 rfl) (bt bc_Session_meet_1 22 rfl) (bt bc_Session_meet_1 23 rfl) (n := 49) rfl) rfl tw_919 tw_921 ts_24 tw_922 hd_Session_bestPartner rfl (by decide) (Nat.le_of_ble_eq_true rfl) (fun r13 M14 => ?_)
      refine EJ_istore_n 57 (lv2 := [(3, .int _), (0, .ref _), (1, .int _), (2, .int _)]) (dk_62 (bt bc_Session_meet_1 24 rfl)) rfl (by decide) rfl ?_
      refine EJ_iload_n 58 0 (dk_29 (bt bc_Session_meet_1 25 rfl)) rfl rfl ?_
      refine EJ_iconst 59 (dk_2 (bt bc_Session_meet_1 26 rfl)) rfl (v := (-1)) kI_m1 ?_
      refine EJ_icmp_eq 71 62 (dk_159 (bt bc_Session_meet_1 27 rfl) (bt bc_Session_meet_1 28 rfl) (bt bc_Session_meet_1 29 rfl) (n := 12) rfl) (by decide) rfl (fun _ => ?_) (fun _ => ?_)
      · exact EJ_vret rfl (dk_177 (bt bc_Session_meet_2 7 rfl))
      · refine EJ_aload_n 63 1 (dk_42 (bt bc_Session_meet_1 30 rfl)) rfl rfl ?_
        refine EJ_ck (fun h15 => ?_)
        refine EJ_getI cf9 5 (by decide) 66 tw_837 (fun _ _ _ => rfl) (dk_180 (bt bc_Session_meet_1 31 rfl) (bt bc_Session_meet_2 0 rfl) (bt bc_Session_meet_2 1 rfl) (n := 40) rfl) rfl (of_decide_eq_true h15) ?_
        refine EJ_bipush 68 (dk_16 (bt bc_Session_meet_2 2 rfl) (bt bc_Session_meet_2 3 rfl) (n := 60) rfl) rfl (v := 60) kB_60 ?_
        refine EJ_icmp_lt 72 71 (dk_161 (bt bc_Session_meet_2 4 rfl) (bt bc_Session_meet_2 5 rfl) (bt bc_Session_meet_2 6 rfl) (n := 4) rfl) (by decide) rfl (fun _ => ?_) (fun _ => ?_)
        · refine EJ_iload_n 73 2 (dk_27 (bt bc_Session_meet_2 8 rfl)) rfl rfl ?_
          refine EJ_iload_n 74 0 (dk_29 (bt bc_Session_meet_2 9 rfl)) rfl rfl ?_
          refine EJ_aload_n 75 1 (dk_42 (bt bc_Session_meet_2 10 rfl)) rfl rfl ?_
          refine EJ_getR cf9 2 (by decide) 78 tw_831 (fun _ _ _ => rfl) (dk_180 (bt bc_Session_meet_2 11 rfl) (bt bc_Session_meet_2 12 rfl) (bt bc_Session_meet_2 13 rfl) (n := 24) rfl) rfl (of_decide_eq_true h15) (fun b16 => ?_)
          refine EJ_callSi (Y2 := Y_Session_strike) 81 (s_Session_strike G _ _ _ _) rfl (dk_184 (bt bc_Session_meet_2 14 rfl) (bt bc_Session_meet_2 15 rfl) (bt bc_Session_meet_2 16 rfl) (n := 53) rfl) rfl tw_931 tw_932 tw_18 tw_933 hd_Session_strike rfl (by decide) (Nat.le_of_ble_eq_true rfl) (fun r17 M18 => ?_)
          refine EJ_istore 83 (lv2 := [(4, .int _), (3, .int _), (0, .ref _), (1, .int _), (2, .int _)]) (dk_54 (bt bc_Session_meet_2 17 rfl) (bt bc_Session_meet_2 18 rfl)) rfl (by decide) rfl ?_
          refine EJ_aload_n 84 2 (dk_42 (bt bc_Session_meet_2 19 rfl)) rfl rfl ?_
          refine EJ_ck (fun h19 => ?_)
          refine EJ_getR cf9 3 (by decide) 87 tw_832 (fun _ _ _ => rfl) (dk_180 (bt bc_Session_meet_2 20 rfl) (bt bc_Session_meet_2 21 rfl) (bt bc_Session_meet_2 22 rfl) (n := 30) rfl) rfl (of_decide_eq_true h19) (fun b20 => ?_)
          refine EJ_aload_n 88 2 (dk_42 (bt bc_Session_meet_2 23 rfl)) rfl rfl ?_
          refine EJ_getI cf9 5 (by decide) 91 tw_837 (fun _ _ _ => rfl) (dk_180 (bt bc_Session_meet_2 24 rfl) (bt bc_Session_meet_2 25 rfl) (bt bc_Session_meet_2 26 rfl) (n := 40) rfl) rfl (of_decide_eq_true h19) ?_
          refine EJ_new cf0 94 tw_826 (dk_187 (bt bc_Session_meet_2 27 rfl) (bt bc_Session_meet_2 28 rfl) (bt bc_Session_meet_2 29 rfl) (n := 28) rfl) rfl ?_
          refine EJ_dup 95 (dk_89 (bt bc_Session_meet_2 30 rfl)) rfl rfl ?_
          refine EJ_aload_n 96 2 (dk_42 (bt bc_Session_meet_2 31 rfl)) rfl rfl ?_
          refine EJ_ck (fun h22 => ?_)
          refine EJ_getR cf9 1 (by decide) 99 tw_830 (fun _ _ _ => rfl) (dk_180 (bt bc_Session_meet_3 0 rfl) (bt bc_Session_meet_3 1 rfl) (bt bc_Session_meet_3 2 rfl) (n := 20) rfl) rfl (of_decide_eq_true h22) (fun b23 => ?_)
          refine EJ_iload_n 100 3 (dk_27 (bt bc_Session_meet_3 3 rfl)) rfl rfl ?_
          refine EJ_ck (fun h24 => ?_)
          refine EJ_aald 8 101 (by decide) (by decide) rfl h24 (dk_50 (bt bc_Session_meet_3 4 rfl)) rfl (fun b25 => ?_)
          refine EJ_aload_n 102 2 (dk_42 (bt bc_Session_meet_3 5 rfl)) rfl rfl ?_
          refine EJ_getR cf9 1 (by decide) 105 tw_830 (fun _ _ _ => rfl) (dk_180 (bt bc_Session_meet_3 6 rfl) (bt bc_Session_meet_3 7 rfl) (bt bc_Session_meet_3 8 rfl) (n := 20) rfl) rfl (of_decide_eq_true h22) (fun b26 => ?_)
          refine EJ_iload_n 106 1 (dk_29 (bt bc_Session_meet_3 9 rfl)) rfl rfl ?_
          refine EJ_ck (fun h27 => ?_)
          refine EJ_aald 8 107 (by decide) (by decide) rfl h27 (dk_50 (bt bc_Session_meet_3 10 rfl)) rfl (fun b28 => ?_)
          refine EJ_iload 109 0 (dk_21 (bt bc_Session_meet_3 11 rfl) (bt bc_Session_meet_3 12 rfl)) rfl rfl ?_
          refine EJ_callIv (Y2 := Y_Bargain_new) 112 (s_Bargain_new G _ _ _ _ _) rfl (dk_183 (bt bc_Session_meet_3 13 rfl) (bt bc_Session_meet_3 14 rfl) (bt bc_Session_meet_3 15 rfl) (n := 57) rfl) rfl rfl tw_936 tw_937 tw_20 tw_938 rfl hd_Bargain_new rfl (by decide) (Nat.le_of_ble_eq_true rfl) (fun _ M30 => ?_)
          refine EJ_ck (fun h31 => ?_)
          refine EJ_ck (fun h32 => ?_)
          refine EJ_aast 9 113 cf0 (by decide) (by decide) rfl h31 (of_decide_eq_true h32) (dk_83 (bt bc_Session_meet_3 16 rfl)) rfl ?_
          refine EJ_aload_n 114 2 (dk_42 (bt bc_Session_meet_3 17 rfl)) rfl rfl ?_
          refine EJ_dup 115 (dk_89 (bt bc_Session_meet_3 18 rfl)) rfl rfl ?_
          refine EJ_ck (fun h34 => ?_)
          refine EJ_getI cf9 5 (by decide) 118 tw_837 (fun _ _ _ => rfl) (dk_180 (bt bc_Session_meet_3 19 rfl) (bt bc_Session_meet_3 20 rfl) (bt bc_Session_meet_3 21 rfl) (n := 40) rfl) rfl (of_decide_eq_true h34) ?_
          refine EJ_iconst 119 (dk_4 (bt bc_Session_meet_3 22 rfl)) rfl (v := 1) kI_1 ?_
          refine EJ_iadd 120 (dk_96 (bt bc_Session_meet_3 23 rfl)) rfl ?_
          refine EJ_putI cf9 5 (by decide) 123 tw_837 rfl (Or.inl rfl) (dk_181 (bt bc_Session_meet_3 24 rfl) (bt bc_Session_meet_3 25 rfl) (bt bc_Session_meet_3 26 rfl) (n := 40) rfl) rfl (of_decide_eq_true h34) ?_
          refine EJ_iinc 126 4 (lv2 := [(2, .int _), (4, .int _), (3, .int _), (0, .ref _), (1, .int _)]) (dk_132 (bt bc_Session_meet_3 27 rfl) (bt bc_Session_meet_3 28 rfl) (bt bc_Session_meet_3 29 rfl) (n := 1) rfl) rfl (by decide) rfl (v := 1) kI_1 rfl ?_
          refine EJ_goto 30 (dk_167 (bt bc_Session_meet_3 30 rfl) (bt bc_Session_meet_3 31 rfl) (bt bc_Session_meet_4 0 rfl) (n := -96) rfl) (by decide) ?_
          exact EJ_pick (lv2 := [(0, .ref _), (1, .int _), (2, .int _)]) [3, 4, 0] rfl (hk30 _ _ _ _)
        · exact EJ_vret rfl (dk_177 (bt bc_Session_meet_2 7 rfl))
def Session_meet_L30 (n : Nat) : Nat → Int32 → Int32 → Mm → Option (Unit × Mm) :=
  match n with
  | 0 => fun _ _ _ _ => none
  | n + 1 => Session_meet_B30 (Session_meet_L30 n)
theorem e_Session_meet_L30 {G : Gx} : ∀ (n : Nat) (x0 : Nat) (x1 : Int32) (x2 : Int32) (M : Mm), EJ G Y_Session_meet cvV 3 30 [(0, .ref x0), (1, .int x1), (2, .int x2)] [] M (Session_meet_L30 n x0 x1 x2 M) := by
  intro n
  induction n with
  | zero => intros; exact EJ_none
  | succ n ih => intro x0 x1 x2 M; exact e_Session_meet_B30 _ ih x0 x1 x2 M
def Session_meet (M : Mm) (a0 : Nat) (a1 : Int32) : Option (Unit × Mm) :=
  if a1 < 0 then (
    some ((), M))
  else (
    ck (kO M a0 9 11) (
    if a1 < (mI M a0 4) then (
      nn (mR M a0 2) (fun b2 =>
      nn (mR M a0 1) (fun b3 =>
      ck (kA M b3 28 a1) (
      nn (mR M b3 (ix a1)) (fun b5 =>
      ck (kO M b5 1 6) (
      ck (kA M b2 20 a1) (
      let M8 := sI M b2 (ix a1) (mI M b5 2)
      Session_meet_L30 fu a0 a1 0 M8)))))))
    else (
      some ((), M))))
set_option maxRecDepth 100000 in
set_option maxHeartbeats 4000000 in
theorem s_Session_meet (G : Gx) (M : Mm) (a0 : Nat) (a1 : Int32) : FnS G Y_Session_meet cvV 3 [.ref a0, .int a1] M (Session_meet M a0 a1) := by
  refine FnS.ofE (by decide) (Nat.le_of_ble_eq_true rfl) ?_
  show EJ G Y_Session_meet cvV 3 0 [(0, .ref a0), (1, .int a1)] [] M _
  unfold Session_meet
  refine EJ_iload_n 1 1 (dk_27 (bt bc_Session_meet_0 0 rfl)) rfl rfl ?_
  refine EJ_if_lt 12 4 (dk_155 (bt bc_Session_meet_0 1 rfl) (bt bc_Session_meet_0 2 rfl) (bt bc_Session_meet_0 3 rfl) (n := 11) rfl) (by decide) rfl (fun _ => ?_) (fun _ => ?_)
  · exact EJ_vret rfl (dk_177 (bt bc_Session_meet_0 12 rfl))
  · refine EJ_iload_n 5 1 (dk_27 (bt bc_Session_meet_0 4 rfl)) rfl rfl ?_
    refine EJ_aload_n 6 0 (dk_42 (bt bc_Session_meet_0 5 rfl)) rfl rfl ?_
    refine EJ_ck (fun h1 => ?_)
    refine EJ_getI cf9 4 (by decide) 9 tw_835 (fun _ _ _ => rfl) (dk_180 (bt bc_Session_meet_0 6 rfl) (bt bc_Session_meet_0 7 rfl) (bt bc_Session_meet_0 8 rfl) (n := 43) rfl) rfl (of_decide_eq_true h1) ?_
    refine EJ_icmp_lt 13 12 (dk_161 (bt bc_Session_meet_0 9 rfl) (bt bc_Session_meet_0 10 rfl) (bt bc_Session_meet_0 11 rfl) (n := 4) rfl) (by decide) rfl (fun _ => ?_) (fun _ => ?_)
    · refine EJ_aload_n 14 0 (dk_42 (bt bc_Session_meet_0 13 rfl)) rfl rfl ?_
      refine EJ_getR cf9 2 (by decide) 17 tw_831 (fun _ _ _ => rfl) (dk_180 (bt bc_Session_meet_0 14 rfl) (bt bc_Session_meet_0 15 rfl) (bt bc_Session_meet_0 16 rfl) (n := 24) rfl) rfl (of_decide_eq_true h1) (fun b2 => ?_)
      refine EJ_iload_n 18 1 (dk_27 (bt bc_Session_meet_0 17 rfl)) rfl rfl ?_
      refine EJ_aload_n 19 0 (dk_42 (bt bc_Session_meet_0 18 rfl)) rfl rfl ?_
      refine EJ_getR cf9 1 (by decide) 22 tw_830 (fun _ _ _ => rfl) (dk_180 (bt bc_Session_meet_0 19 rfl) (bt bc_Session_meet_0 20 rfl) (bt bc_Session_meet_0 21 rfl) (n := 20) rfl) rfl (of_decide_eq_true h1) (fun b3 => ?_)
      refine EJ_iload_n 23 1 (dk_27 (bt bc_Session_meet_0 22 rfl)) rfl rfl ?_
      refine EJ_ck (fun h4 => ?_)
      refine EJ_aald 8 24 (by decide) (by decide) rfl h4 (dk_50 (bt bc_Session_meet_0 23 rfl)) rfl (fun b5 => ?_)
      refine EJ_ck (fun h6 => ?_)
      refine EJ_getI cf1 2 (by decide) 27 tw_889 (fun _ _ _ => rfl) (dk_180 (bt bc_Session_meet_0 24 rfl) (bt bc_Session_meet_0 25 rfl) (bt bc_Session_meet_0 26 rfl) (n := 46) rfl) rfl (of_decide_eq_true h6) ?_
      refine EJ_ck (fun h7 => ?_)
      refine EJ_iast 28 h7 (dk_79 (bt bc_Session_meet_0 27 rfl)) rfl ?_
      refine EJ_iconst 29 (dk_3 (bt bc_Session_meet_0 28 rfl)) rfl (v := 0) kI_0 ?_
      refine EJ_istore_n 30 (lv2 := [(2, .int _), (0, .ref _), (1, .int _)]) (dk_61 (bt bc_Session_meet_0 29 rfl)) rfl (by decide) rfl ?_
      exact EJ_pick (lv2 := [(0, .ref _), (1, .int _), (2, .int _)]) [1, 2, 0] rfl (e_Session_meet_L30 fu _ _ _ _)
    · exact EJ_vret rfl (dk_177 (bt bc_Session_meet_0 12 rfl))
abbrev Y_Session_takeBack : Ym := (⟨"RiceHall$Session", "takeBack", "(I)I"⟩, prog_11_method_7_code, 3, (some FieldType.int))
theorem bc_Session_takeBack_0 : bts prog_11_method_7_code 0 [27, 155, 0, 20, 27, 42, 180, 0, 43, 162, 0, 12, 42, 180, 0, 24, 27, 46, 154, 0, 5, 2, 172, 42, 180, 0, 24, 27, 46, 61, 42, 180] := bts_of (by decide +kernel)
theorem bc_Session_takeBack_1 : bts prog_11_method_7_code 32 [0, 24, 27, 3, 79, 42, 180, 0, 20, 27, 50, 42, 180, 0, 43, 181, 0, 73, 28, 172] := bts_of (by decide +kernel)
theorem hd_Session_takeBack : Y_Session_takeBack.1.cls = RX9 ∧ Y_Session_takeBack.1.cls ≠ "java/lang/invoke/MethodHandle" ∧ Y_Session_takeBack.1.cls ≠ "java/lang/invoke/VarHandle" ∧ (parseMethodDescriptor Y_Session_takeBack.1.desc).map (fun d => d.parameters.length) = some 1 := by decide +kernel
def Session_takeBack (M : Mm) (a0 : Nat) (a1 : Int32) : Option (Int32 × Mm) :=
  if a1 < 0 then (
    some ((-1), M))
  else (
    ck (kO M a0 9 11) (
    if (mI M a0 4) ≤ a1 then (
      some ((-1), M))
    else (
      nn (mR M a0 2) (fun b2 =>
      ck (kA M b2 20 a1) (
      if (mI M b2 (ix a1)) = 0 then (
        some ((-1), M))
      else (
        nn (mR M a0 2) (fun b4 =>
        ck (kA M b4 20 a1) (
        let v6 : Int32 := mI M b4 (ix a1)
        nn (mR M a0 2) (fun b7 =>
        ck (kA M b7 20 a1) (
        let M9 := sI M b7 (ix a1) 0
        nn (mR M9 a0 1) (fun b10 =>
        ck (kA M9 b10 28 a1) (
        nn (mR M9 b10 (ix a1)) (fun b12 =>
        ck (kO M9 b12 1 6) (
        let M14 := sI M9 b12 5 (mI M9 a0 4)
        some (v6, M14)))))))))))))))
set_option maxRecDepth 100000 in
set_option maxHeartbeats 4000000 in
theorem s_Session_takeBack (G : Gx) (M : Mm) (a0 : Nat) (a1 : Int32) : FnS G Y_Session_takeBack cvI 1 [.ref a0, .int a1] M (Session_takeBack M a0 a1) := by
  refine FnS.ofE (by decide) (Nat.le_of_ble_eq_true rfl) ?_
  show EJ G Y_Session_takeBack cvI 1 0 [(0, .ref a0), (1, .int a1)] [] M _
  unfold Session_takeBack
  refine EJ_iload_n 1 1 (dk_27 (bt bc_Session_takeBack_0 0 rfl)) rfl rfl ?_
  refine EJ_if_lt 21 4 (dk_155 (bt bc_Session_takeBack_0 1 rfl) (bt bc_Session_takeBack_0 2 rfl) (bt bc_Session_takeBack_0 3 rfl) (n := 20) rfl) (by decide) rfl (fun _ => ?_) (fun _ => ?_)
  · refine EJ_iconst 22 (dk_2 (bt bc_Session_takeBack_0 21 rfl)) rfl (v := (-1)) kI_m1 ?_
    exact EJ_iret rfl (dk_172 (bt bc_Session_takeBack_0 22 rfl))
  · refine EJ_iload_n 5 1 (dk_27 (bt bc_Session_takeBack_0 4 rfl)) rfl rfl ?_
    refine EJ_aload_n 6 0 (dk_42 (bt bc_Session_takeBack_0 5 rfl)) rfl rfl ?_
    refine EJ_ck (fun h1 => ?_)
    refine EJ_getI cf9 4 (by decide) 9 tw_835 (fun _ _ _ => rfl) (dk_180 (bt bc_Session_takeBack_0 6 rfl) (bt bc_Session_takeBack_0 7 rfl) (bt bc_Session_takeBack_0 8 rfl) (n := 43) rfl) rfl (of_decide_eq_true h1) ?_
    refine EJ_icmp_ge 21 12 (dk_162 (bt bc_Session_takeBack_0 9 rfl) (bt bc_Session_takeBack_0 10 rfl) (bt bc_Session_takeBack_0 11 rfl) (n := 12) rfl) (by decide) rfl (fun _ => ?_) (fun _ => ?_)
    · refine EJ_iconst 22 (dk_2 (bt bc_Session_takeBack_0 21 rfl)) rfl (v := (-1)) kI_m1 ?_
      exact EJ_iret rfl (dk_172 (bt bc_Session_takeBack_0 22 rfl))
    · refine EJ_aload_n 13 0 (dk_42 (bt bc_Session_takeBack_0 12 rfl)) rfl rfl ?_
      refine EJ_getR cf9 2 (by decide) 16 tw_831 (fun _ _ _ => rfl) (dk_180 (bt bc_Session_takeBack_0 13 rfl) (bt bc_Session_takeBack_0 14 rfl) (bt bc_Session_takeBack_0 15 rfl) (n := 24) rfl) rfl (of_decide_eq_true h1) (fun b2 => ?_)
      refine EJ_iload_n 17 1 (dk_27 (bt bc_Session_takeBack_0 16 rfl)) rfl rfl ?_
      refine EJ_ck (fun h3 => ?_)
      refine EJ_iald 18 h3 (dk_46 (bt bc_Session_takeBack_0 17 rfl)) rfl ?_
      refine EJ_if_ne 23 21 (dk_154 (bt bc_Session_takeBack_0 18 rfl) (bt bc_Session_takeBack_0 19 rfl) (bt bc_Session_takeBack_0 20 rfl) (n := 5) rfl) (by decide) rfl (fun _ => ?_) (fun _ => ?_)
      · refine EJ_aload_n 24 0 (dk_42 (bt bc_Session_takeBack_0 23 rfl)) rfl rfl ?_
        refine EJ_getR cf9 2 (by decide) 27 tw_831 (fun _ _ _ => rfl) (dk_180 (bt bc_Session_takeBack_0 24 rfl) (bt bc_Session_takeBack_0 25 rfl) (bt bc_Session_takeBack_0 26 rfl) (n := 24) rfl) rfl (of_decide_eq_true h1) (fun b4 => ?_)
        refine EJ_iload_n 28 1 (dk_27 (bt bc_Session_takeBack_0 27 rfl)) rfl rfl ?_
        refine EJ_ck (fun h5 => ?_)
        refine EJ_iald 29 h5 (dk_46 (bt bc_Session_takeBack_0 28 rfl)) rfl ?_
        refine EJ_istore_n 30 (lv2 := [(2, .int _), (0, .ref _), (1, .int _)]) (dk_61 (bt bc_Session_takeBack_0 29 rfl)) rfl (by decide) rfl ?_
        refine EJ_aload_n 31 1 (dk_42 (bt bc_Session_takeBack_0 30 rfl)) rfl rfl ?_
        refine EJ_getR cf9 2 (by decide) 34 tw_831 (fun _ _ _ => rfl) (dk_180 (bt bc_Session_takeBack_0 31 rfl) (bt bc_Session_takeBack_1 0 rfl) (bt bc_Session_takeBack_1 1 rfl) (n := 24) rfl) rfl (of_decide_eq_true h1) (fun b7 => ?_)
        refine EJ_iload_n 35 2 (dk_27 (bt bc_Session_takeBack_1 2 rfl)) rfl rfl ?_
        refine EJ_iconst 36 (dk_3 (bt bc_Session_takeBack_1 3 rfl)) rfl (v := 0) kI_0 ?_
        refine EJ_ck (fun h8 => ?_)
        refine EJ_iast 37 h8 (dk_79 (bt bc_Session_takeBack_1 4 rfl)) rfl ?_
        refine EJ_aload_n 38 1 (dk_42 (bt bc_Session_takeBack_1 5 rfl)) rfl rfl ?_
        refine EJ_getR cf9 1 (by decide) 41 tw_830 (fun _ _ _ => rfl) (dk_180 (bt bc_Session_takeBack_1 6 rfl) (bt bc_Session_takeBack_1 7 rfl) (bt bc_Session_takeBack_1 8 rfl) (n := 20) rfl) rfl (kp_I (of_decide_eq_true h1)) (fun b10 => ?_)
        refine EJ_iload_n 42 2 (dk_27 (bt bc_Session_takeBack_1 9 rfl)) rfl rfl ?_
        refine EJ_ck (fun h11 => ?_)
        refine EJ_aald 8 43 (by decide) (by decide) rfl h11 (dk_50 (bt bc_Session_takeBack_1 10 rfl)) rfl (fun b12 => ?_)
        refine EJ_aload_n 44 1 (dk_42 (bt bc_Session_takeBack_1 11 rfl)) rfl rfl ?_
        refine EJ_getI cf9 4 (by decide) 47 tw_835 (fun _ _ _ => rfl) (dk_180 (bt bc_Session_takeBack_1 12 rfl) (bt bc_Session_takeBack_1 13 rfl) (bt bc_Session_takeBack_1 14 rfl) (n := 43) rfl) rfl (kp_I (of_decide_eq_true h1)) ?_
        refine EJ_ck (fun h13 => ?_)
        refine EJ_putI cf1 5 (by decide) 50 tw_897 rfl (Or.inl rfl) (dk_181 (bt bc_Session_takeBack_1 15 rfl) (bt bc_Session_takeBack_1 16 rfl) (bt bc_Session_takeBack_1 17 rfl) (n := 73) rfl) rfl (of_decide_eq_true h13) ?_
        refine EJ_iload_n 51 0 (dk_28 (bt bc_Session_takeBack_1 18 rfl)) rfl rfl ?_
        exact EJ_iret rfl (dk_172 (bt bc_Session_takeBack_1 19 rfl))
      · refine EJ_iconst 22 (dk_2 (bt bc_Session_takeBack_0 21 rfl)) rfl (v := (-1)) kI_m1 ?_
        exact EJ_iret rfl (dk_172 (bt bc_Session_takeBack_0 22 rfl))
abbrev Y_Session_hasBargain : Ym := (⟨"RiceHall$Session", "hasBargain", "(I)Z"⟩, prog_11_method_2_code, 2, (some FieldType.boolean))
theorem bc_Session_hasBargain_0 : bts prog_11_method_2_code 0 [27, 155, 0, 15, 27, 42, 180, 0, 40, 162, 0, 7, 4, 167, 0, 4, 3, 172] := bts_of (by decide +kernel)
theorem hd_Session_hasBargain : Y_Session_hasBargain.1.cls = RX9 ∧ Y_Session_hasBargain.1.cls ≠ "java/lang/invoke/MethodHandle" ∧ Y_Session_hasBargain.1.cls ≠ "java/lang/invoke/VarHandle" ∧ (parseMethodDescriptor Y_Session_hasBargain.1.desc).map (fun d => d.parameters.length) = some 1 := by decide +kernel
def Session_hasBargain (M : Mm) (a0 : Nat) (a1 : Int32) : Option (Int32 × Mm) :=
  if a1 < 0 then (
    some (0, M))
  else (
    ck (kO M a0 9 11) (
    if (mI M a0 5) ≤ a1 then (
      some (0, M))
    else (
      some (1, M))))
set_option maxRecDepth 100000 in
set_option maxHeartbeats 4000000 in
theorem s_Session_hasBargain (G : Gx) (M : Mm) (a0 : Nat) (a1 : Int32) : FnS G Y_Session_hasBargain cvI 1 [.ref a0, .int a1] M (Session_hasBargain M a0 a1) := by
  refine FnS.ofE (by decide) (Nat.le_of_ble_eq_true rfl) ?_
  show EJ G Y_Session_hasBargain cvI 1 0 [(0, .ref a0), (1, .int a1)] [] M _
  unfold Session_hasBargain
  refine EJ_iload_n 1 1 (dk_27 (bt bc_Session_hasBargain_0 0 rfl)) rfl rfl ?_
  refine EJ_if_lt 16 4 (dk_155 (bt bc_Session_hasBargain_0 1 rfl) (bt bc_Session_hasBargain_0 2 rfl) (bt bc_Session_hasBargain_0 3 rfl) (n := 15) rfl) (by decide) rfl (fun _ => ?_) (fun _ => ?_)
  · refine EJ_iconst 17 (dk_3 (bt bc_Session_hasBargain_0 16 rfl)) rfl (v := 0) kI_0 ?_
    exact EJ_zret rfl (by decide) (dk_172 (bt bc_Session_hasBargain_0 17 rfl))
  · refine EJ_iload_n 5 1 (dk_27 (bt bc_Session_hasBargain_0 4 rfl)) rfl rfl ?_
    refine EJ_aload_n 6 0 (dk_42 (bt bc_Session_hasBargain_0 5 rfl)) rfl rfl ?_
    refine EJ_ck (fun h1 => ?_)
    refine EJ_getI cf9 5 (by decide) 9 tw_837 (fun _ _ _ => rfl) (dk_180 (bt bc_Session_hasBargain_0 6 rfl) (bt bc_Session_hasBargain_0 7 rfl) (bt bc_Session_hasBargain_0 8 rfl) (n := 40) rfl) rfl (of_decide_eq_true h1) ?_
    refine EJ_icmp_ge 16 12 (dk_162 (bt bc_Session_hasBargain_0 9 rfl) (bt bc_Session_hasBargain_0 10 rfl) (bt bc_Session_hasBargain_0 11 rfl) (n := 7) rfl) (by decide) rfl (fun _ => ?_) (fun _ => ?_)
    · refine EJ_iconst 17 (dk_3 (bt bc_Session_hasBargain_0 16 rfl)) rfl (v := 0) kI_0 ?_
      exact EJ_zret rfl (by decide) (dk_172 (bt bc_Session_hasBargain_0 17 rfl))
    · refine EJ_iconst 13 (dk_4 (bt bc_Session_hasBargain_0 12 rfl)) rfl (v := 1) kI_1 ?_
      refine EJ_goto 17 (dk_167 (bt bc_Session_hasBargain_0 13 rfl) (bt bc_Session_hasBargain_0 14 rfl) (bt bc_Session_hasBargain_0 15 rfl) (n := 4) rfl) (by decide) ?_
      exact EJ_zret rfl (by decide) (dk_172 (bt bc_Session_hasBargain_0 17 rfl))
abbrev Y_Session_end : Ym := (⟨"RiceHall$Session", "end", "(II)V"⟩, prog_11_method_10_code, 4, none)
theorem bc_Session_end_0 : bts prog_11_method_10_code 0 [42, 27, 181, 0, 34, 42, 28, 181, 0, 83, 42, 3, 181, 0, 15, 42, 180, 0, 40, 153, 0, 26, 42, 180, 0, 30, 42, 180, 0, 40, 4, 100] := bts_of (by decide +kernel)
theorem bc_Session_end_1 : bts prog_11_method_10_code 32 [50, 180, 0, 86, 27, 42, 180, 0, 83, 100, 162, 0, 4, 177, 42, 42, 180, 0, 30, 42, 180, 0, 40, 4, 100, 50, 180, 0, 89, 181, 0, 37] := bts_of (by decide +kernel)
theorem bc_Session_end_2 : bts prog_11_method_10_code 64 [3, 62, 29, 42, 180, 0, 40, 162, 0, 40, 42, 180, 0, 30, 29, 50, 182, 0, 90, 42, 180, 0, 30, 29, 50, 180, 0, 93, 158, 0, 13, 42] := bts_of (by decide +kernel)
theorem bc_Session_end_3 : bts prog_11_method_10_code 96 [89, 180, 0, 96, 4, 96, 181, 0, 96, 132, 3, 1, 167, 255, 214, 177] := bts_of (by decide +kernel)
theorem hd_Session_end : Y_Session_end.1.cls = RX9 ∧ Y_Session_end.1.cls ≠ "java/lang/invoke/MethodHandle" ∧ Y_Session_end.1.cls ≠ "java/lang/invoke/VarHandle" ∧ (parseMethodDescriptor Y_Session_end.1.desc).map (fun d => d.parameters.length) = some 2 := by decide +kernel
def Session_end_J105 (k66 : Nat → Int32 → Mm → Option (Unit × Mm)) (x0 : Nat) (x3 : Int32) (M : Mm) : Option (Unit × Mm) :=
  let v26 : Int32 := x3 + 1
  k66 x0 v26 M
set_option maxRecDepth 100000 in
set_option maxHeartbeats 4000000 in
theorem e_Session_end_J105 {G : Gx} (k66 : Nat → Int32 → Mm → Option (Unit × Mm)) (hk66 : ∀ (x0 : Nat) (x3 : Int32) (M : Mm), EJ G Y_Session_end cvV 3 66 [(0, .ref x0), (3, .int x3)] [] M (k66 x0 x3 M)) (x0 : Nat) (x3 : Int32) (M : Mm) : EJ G Y_Session_end cvV 3 105 [(0, .ref x0), (3, .int x3)] [] M (Session_end_J105 k66 x0 x3 M) := by
  unfold Session_end_J105
  refine EJ_iinc 108 1 (lv2 := [(3, .int _), (0, .ref _)]) (dk_132 (bt bc_Session_end_3 9 rfl) (bt bc_Session_end_3 10 rfl) (bt bc_Session_end_3 11 rfl) (n := 1) rfl) rfl (by decide) rfl (v := 1) kI_1 rfl ?_
  refine EJ_goto 66 (dk_167 (bt bc_Session_end_3 12 rfl) (bt bc_Session_end_3 13 rfl) (bt bc_Session_end_3 14 rfl) (n := -42) rfl) (by decide) ?_
  exact EJ_pick (lv2 := [(0, .ref _), (3, .int _)]) [1, 0] rfl (hk66 _ _ _)
def Session_end_B66 (k66 : Nat → Int32 → Mm → Option (Unit × Mm)) (x0 : Nat) (x3 : Int32) (M : Mm) : Option (Unit × Mm) :=
  ck (kO M x0 9 11) (
  if (mI M x0 5) ≤ x3 then (
    some ((), M))
  else (
    nn (mR M x0 3) (fun b15 =>
    ck (kA M b15 29 x3) (
    nn (mR M b15 (ix x3)) (fun b17 =>
    ck (kO M b17 0 14) (
    bd (Bargain_judge M b17) (fun _ M20 =>
    ck (kO M20 x0 9 11) (
    nn (mR M20 x0 3) (fun b22 =>
    ck (kA M20 b22 29 x3) (
    nn (mR M20 b22 (ix x3)) (fun b24 =>
    ck (kO M20 b24 0 14) (
    if (mI M20 b24 12) ≤ 0 then (
      Session_end_J105 k66 x0 x3 M20)
    else (
      let M27 := sI M20 x0 6 ((mI M20 x0 6) + 1)
      Session_end_J105 k66 x0 x3 M27)))))))))))))
set_option maxRecDepth 100000 in
set_option maxHeartbeats 4000000 in
theorem e_Session_end_B66 {G : Gx} (k66 : Nat → Int32 → Mm → Option (Unit × Mm)) (hk66 : ∀ (x0 : Nat) (x3 : Int32) (M : Mm), EJ G Y_Session_end cvV 3 66 [(0, .ref x0), (3, .int x3)] [] M (k66 x0 x3 M)) (x0 : Nat) (x3 : Int32) (M : Mm) : EJ G Y_Session_end cvV 3 66 [(0, .ref x0), (3, .int x3)] [] M (Session_end_B66 k66 x0 x3 M) := by
  unfold Session_end_B66
  refine EJ_iload_n 67 1 (dk_29 (bt bc_Session_end_2 2 rfl)) rfl rfl ?_
  refine EJ_aload_n 68 0 (dk_42 (bt bc_Session_end_2 3 rfl)) rfl rfl ?_
  refine EJ_ck (fun h14 => ?_)
  refine EJ_getI cf9 5 (by decide) 71 tw_837 (fun _ _ _ => rfl) (dk_180 (bt bc_Session_end_2 4 rfl) (bt bc_Session_end_2 5 rfl) (bt bc_Session_end_2 6 rfl) (n := 40) rfl) rfl (of_decide_eq_true h14) ?_
  refine EJ_icmp_ge 111 74 (dk_162 (bt bc_Session_end_2 7 rfl) (bt bc_Session_end_2 8 rfl) (bt bc_Session_end_2 9 rfl) (n := 40) rfl) (by decide) rfl (fun _ => ?_) (fun _ => ?_)
  · exact EJ_vret rfl (dk_177 (bt bc_Session_end_3 15 rfl))
  · refine EJ_aload_n 75 0 (dk_42 (bt bc_Session_end_2 10 rfl)) rfl rfl ?_
    refine EJ_getR cf9 3 (by decide) 78 tw_832 (fun _ _ _ => rfl) (dk_180 (bt bc_Session_end_2 11 rfl) (bt bc_Session_end_2 12 rfl) (bt bc_Session_end_2 13 rfl) (n := 30) rfl) rfl (of_decide_eq_true h14) (fun b15 => ?_)
    refine EJ_iload_n 79 1 (dk_29 (bt bc_Session_end_2 14 rfl)) rfl rfl ?_
    refine EJ_ck (fun h16 => ?_)
    refine EJ_aald 9 80 (by decide) (by decide) rfl h16 (dk_50 (bt bc_Session_end_2 15 rfl)) rfl (fun b17 => ?_)
    refine EJ_ck (fun h18 => ?_)
    refine EJ_callVv (Y2 := Y_Bargain_judge) 83 cf0 (s_Bargain_judge G _ _) (of_decide_eq_true h18) rfl (dk_182 (bt bc_Session_end_2 16 rfl) (bt bc_Session_end_2 17 rfl) (bt bc_Session_end_2 18 rfl) (n := 90) rfl) rfl tw_1045 tw_1046 tw_1047 tw_1048 hd_Bargain_judge rfl (by decide) (Nat.le_of_ble_eq_true rfl) (fun _ M20 => ?_)
    refine EJ_aload_n 84 0 (dk_42 (bt bc_Session_end_2 19 rfl)) rfl rfl ?_
    refine EJ_ck (fun h21 => ?_)
    refine EJ_getR cf9 3 (by decide) 87 tw_832 (fun _ _ _ => rfl) (dk_180 (bt bc_Session_end_2 20 rfl) (bt bc_Session_end_2 21 rfl) (bt bc_Session_end_2 22 rfl) (n := 30) rfl) rfl (of_decide_eq_true h21) (fun b22 => ?_)
    refine EJ_iload_n 88 1 (dk_29 (bt bc_Session_end_2 23 rfl)) rfl rfl ?_
    refine EJ_ck (fun h23 => ?_)
    refine EJ_aald 9 89 (by decide) (by decide) rfl h23 (dk_50 (bt bc_Session_end_2 24 rfl)) rfl (fun b24 => ?_)
    refine EJ_ck (fun h25 => ?_)
    refine EJ_getI cf0 12 (by decide) 92 tw_963 (fun _ _ _ => rfl) (dk_180 (bt bc_Session_end_2 25 rfl) (bt bc_Session_end_2 26 rfl) (bt bc_Session_end_2 27 rfl) (n := 93) rfl) rfl (of_decide_eq_true h25) ?_
    refine EJ_if_le 105 95 (dk_158 (bt bc_Session_end_2 28 rfl) (bt bc_Session_end_2 29 rfl) (bt bc_Session_end_2 30 rfl) (n := 13) rfl) (by decide) rfl (fun _ => ?_) (fun _ => ?_)
    · exact EJ_pick (lv2 := [(0, .ref _), (3, .int _)]) [0, 1] rfl (e_Session_end_J105 k66 hk66 _ _ _)
    · refine EJ_aload_n 96 0 (dk_42 (bt bc_Session_end_2 31 rfl)) rfl rfl ?_
      refine EJ_dup 97 (dk_89 (bt bc_Session_end_3 0 rfl)) rfl rfl ?_
      refine EJ_getI cf9 6 (by decide) 100 tw_840 (fun _ _ _ => rfl) (dk_180 (bt bc_Session_end_3 1 rfl) (bt bc_Session_end_3 2 rfl) (bt bc_Session_end_3 3 rfl) (n := 96) rfl) rfl (of_decide_eq_true h21) ?_
      refine EJ_iconst 101 (dk_4 (bt bc_Session_end_3 4 rfl)) rfl (v := 1) kI_1 ?_
      refine EJ_iadd 102 (dk_96 (bt bc_Session_end_3 5 rfl)) rfl ?_
      refine EJ_putI cf9 6 (by decide) 105 tw_840 rfl (Or.inl rfl) (dk_181 (bt bc_Session_end_3 6 rfl) (bt bc_Session_end_3 7 rfl) (bt bc_Session_end_3 8 rfl) (n := 96) rfl) rfl (of_decide_eq_true h21) ?_
      exact EJ_pick (lv2 := [(0, .ref _), (3, .int _)]) [0, 1] rfl (e_Session_end_J105 k66 hk66 _ _ _)
def Session_end_L66 (n : Nat) : Nat → Int32 → Mm → Option (Unit × Mm) :=
  match n with
  | 0 => fun _ _ _ => none
  | n + 1 => Session_end_B66 (Session_end_L66 n)
theorem e_Session_end_L66 {G : Gx} : ∀ (n : Nat) (x0 : Nat) (x3 : Int32) (M : Mm), EJ G Y_Session_end cvV 3 66 [(0, .ref x0), (3, .int x3)] [] M (Session_end_L66 n x0 x3 M) := by
  intro n
  induction n with
  | zero => intros; exact EJ_none
  | succ n ih => intro x0 x3 M; exact e_Session_end_B66 _ ih x0 x3 M
def Session_end (M : Mm) (a0 : Nat) (a1 : Int32) (a2 : Int32) : Option (Unit × Mm) :=
  ck (kO M a0 9 11) (
  let M2 := sI M a0 8 a1
  let M3 := sI M2 a0 10 a2
  let M4 := sI M3 a0 7 0
  if (mI M4 a0 5) = 0 then (
    some ((), M4))
  else (
    nn (mR M4 a0 3) (fun b5 =>
    ck (kA M4 b5 29 ((mI M4 a0 5) - 1)) (
    nn (mR M4 b5 (ix ((mI M4 a0 5) - 1))) (fun b7 =>
    ck (kO M4 b7 0 14) (
    if (a1 - (mI M4 a0 10)) ≤ (mI M4 b7 4) then (
      nn (mR M4 a0 3) (fun b9 =>
      ck (kA M4 b9 29 ((mI M4 a0 5) - 1)) (
      nn (mR M4 b9 (ix ((mI M4 a0 5) - 1))) (fun b11 =>
      ck (kO M4 b11 0 14) (
      let M13 := sI M4 a0 9 (mI M4 b11 3)
      Session_end_L66 fu a0 0 M13)))))
    else (
      some ((), M4))))))))
set_option maxRecDepth 100000 in
set_option maxHeartbeats 4000000 in
theorem s_Session_end (G : Gx) (M : Mm) (a0 : Nat) (a1 : Int32) (a2 : Int32) : FnS G Y_Session_end cvV 3 [.ref a0, .int a1, .int a2] M (Session_end M a0 a1 a2) := by
  refine FnS.ofE (by decide) (Nat.le_of_ble_eq_true rfl) ?_
  show EJ G Y_Session_end cvV 3 0 [(0, .ref a0), (1, .int a1), (2, .int a2)] [] M _
  unfold Session_end
  refine EJ_aload_n 1 0 (dk_42 (bt bc_Session_end_0 0 rfl)) rfl rfl ?_
  refine EJ_iload_n 2 1 (dk_27 (bt bc_Session_end_0 1 rfl)) rfl rfl ?_
  refine EJ_ck (fun h1 => ?_)
  refine EJ_putI cf9 8 (by decide) 5 tw_844 rfl (Or.inl rfl) (dk_181 (bt bc_Session_end_0 2 rfl) (bt bc_Session_end_0 3 rfl) (bt bc_Session_end_0 4 rfl) (n := 34) rfl) rfl (of_decide_eq_true h1) ?_
  refine EJ_aload_n 6 0 (dk_42 (bt bc_Session_end_0 5 rfl)) rfl rfl ?_
  refine EJ_iload_n 7 2 (dk_28 (bt bc_Session_end_0 6 rfl)) rfl rfl ?_
  refine EJ_putI cf9 10 (by decide) 10 tw_849 rfl (Or.inl rfl) (dk_181 (bt bc_Session_end_0 7 rfl) (bt bc_Session_end_0 8 rfl) (bt bc_Session_end_0 9 rfl) (n := 83) rfl) rfl (kp_I (of_decide_eq_true h1)) ?_
  refine EJ_aload_n 11 0 (dk_42 (bt bc_Session_end_0 10 rfl)) rfl rfl ?_
  refine EJ_iconst 12 (dk_3 (bt bc_Session_end_0 11 rfl)) rfl (v := 0) kI_0 ?_
  refine EJ_putI cf9 7 (by decide) 15 tw_842 rfl (Or.inl rfl) (dk_181 (bt bc_Session_end_0 12 rfl) (bt bc_Session_end_0 13 rfl) (bt bc_Session_end_0 14 rfl) (n := 15) rfl) rfl (kp_I (kp_I (of_decide_eq_true h1))) ?_
  refine EJ_aload_n 16 0 (dk_42 (bt bc_Session_end_0 15 rfl)) rfl rfl ?_
  refine EJ_getI cf9 5 (by decide) 19 tw_837 (fun _ _ _ => rfl) (dk_180 (bt bc_Session_end_0 16 rfl) (bt bc_Session_end_0 17 rfl) (bt bc_Session_end_0 18 rfl) (n := 40) rfl) rfl (kp_I (kp_I (kp_I (of_decide_eq_true h1)))) ?_
  refine EJ_if_eq 45 22 (dk_153 (bt bc_Session_end_0 19 rfl) (bt bc_Session_end_0 20 rfl) (bt bc_Session_end_0 21 rfl) (n := 26) rfl) (by decide) rfl (fun _ => ?_) (fun _ => ?_)
  · exact EJ_vret rfl (dk_177 (bt bc_Session_end_1 13 rfl))
  · refine EJ_aload_n 23 0 (dk_42 (bt bc_Session_end_0 22 rfl)) rfl rfl ?_
    refine EJ_getR cf9 3 (by decide) 26 tw_832 (fun _ _ _ => rfl) (dk_180 (bt bc_Session_end_0 23 rfl) (bt bc_Session_end_0 24 rfl) (bt bc_Session_end_0 25 rfl) (n := 30) rfl) rfl (kp_I (kp_I (kp_I (of_decide_eq_true h1)))) (fun b5 => ?_)
    refine EJ_aload_n 27 0 (dk_42 (bt bc_Session_end_0 26 rfl)) rfl rfl ?_
    refine EJ_getI cf9 5 (by decide) 30 tw_837 (fun _ _ _ => rfl) (dk_180 (bt bc_Session_end_0 27 rfl) (bt bc_Session_end_0 28 rfl) (bt bc_Session_end_0 29 rfl) (n := 40) rfl) rfl (kp_I (kp_I (kp_I (of_decide_eq_true h1)))) ?_
    refine EJ_iconst 31 (dk_4 (bt bc_Session_end_0 30 rfl)) rfl (v := 1) kI_1 ?_
    refine EJ_isub 32 (dk_100 (bt bc_Session_end_0 31 rfl)) rfl ?_
    refine EJ_ck (fun h6 => ?_)
    refine EJ_aald 9 33 (by decide) (by decide) rfl h6 (dk_50 (bt bc_Session_end_1 0 rfl)) rfl (fun b7 => ?_)
    refine EJ_ck (fun h8 => ?_)
    refine EJ_getI cf0 4 (by decide) 36 tw_952 (fun _ _ _ => rfl) (dk_180 (bt bc_Session_end_1 1 rfl) (bt bc_Session_end_1 2 rfl) (bt bc_Session_end_1 3 rfl) (n := 86) rfl) rfl (of_decide_eq_true h8) ?_
    refine EJ_iload_n 37 1 (dk_27 (bt bc_Session_end_1 4 rfl)) rfl rfl ?_
    refine EJ_aload_n 38 0 (dk_42 (bt bc_Session_end_1 5 rfl)) rfl rfl ?_
    refine EJ_getI cf9 10 (by decide) 41 tw_849 (fun _ _ _ => rfl) (dk_180 (bt bc_Session_end_1 6 rfl) (bt bc_Session_end_1 7 rfl) (bt bc_Session_end_1 8 rfl) (n := 83) rfl) rfl (kp_I (kp_I (kp_I (of_decide_eq_true h1)))) ?_
    refine EJ_isub 42 (dk_100 (bt bc_Session_end_1 9 rfl)) rfl ?_
    refine EJ_icmp_ge 46 45 (dk_162 (bt bc_Session_end_1 10 rfl) (bt bc_Session_end_1 11 rfl) (bt bc_Session_end_1 12 rfl) (n := 4) rfl) (by decide) rfl (fun _ => ?_) (fun _ => ?_)
    · refine EJ_aload_n 47 0 (dk_42 (bt bc_Session_end_1 14 rfl)) rfl rfl ?_
      refine EJ_aload_n 48 0 (dk_42 (bt bc_Session_end_1 15 rfl)) rfl rfl ?_
      refine EJ_getR cf9 3 (by decide) 51 tw_832 (fun _ _ _ => rfl) (dk_180 (bt bc_Session_end_1 16 rfl) (bt bc_Session_end_1 17 rfl) (bt bc_Session_end_1 18 rfl) (n := 30) rfl) rfl (kp_I (kp_I (kp_I (of_decide_eq_true h1)))) (fun b9 => ?_)
      refine EJ_aload_n 52 0 (dk_42 (bt bc_Session_end_1 19 rfl)) rfl rfl ?_
      refine EJ_getI cf9 5 (by decide) 55 tw_837 (fun _ _ _ => rfl) (dk_180 (bt bc_Session_end_1 20 rfl) (bt bc_Session_end_1 21 rfl) (bt bc_Session_end_1 22 rfl) (n := 40) rfl) rfl (kp_I (kp_I (kp_I (of_decide_eq_true h1)))) ?_
      refine EJ_iconst 56 (dk_4 (bt bc_Session_end_1 23 rfl)) rfl (v := 1) kI_1 ?_
      refine EJ_isub 57 (dk_100 (bt bc_Session_end_1 24 rfl)) rfl ?_
      refine EJ_ck (fun h10 => ?_)
      refine EJ_aald 9 58 (by decide) (by decide) rfl h10 (dk_50 (bt bc_Session_end_1 25 rfl)) rfl (fun b11 => ?_)
      refine EJ_ck (fun h12 => ?_)
      refine EJ_getI cf0 3 (by decide) 61 tw_949 (fun _ _ _ => rfl) (dk_180 (bt bc_Session_end_1 26 rfl) (bt bc_Session_end_1 27 rfl) (bt bc_Session_end_1 28 rfl) (n := 89) rfl) rfl (of_decide_eq_true h12) ?_
      refine EJ_putI cf9 9 (by decide) 64 tw_846 rfl (Or.inl rfl) (dk_181 (bt bc_Session_end_1 29 rfl) (bt bc_Session_end_1 30 rfl) (bt bc_Session_end_1 31 rfl) (n := 37) rfl) rfl (kp_I (kp_I (kp_I (of_decide_eq_true h1)))) ?_
      refine EJ_iconst 65 (dk_3 (bt bc_Session_end_2 0 rfl)) rfl (v := 0) kI_0 ?_
      refine EJ_istore_n 66 (lv2 := [(3, .int _), (0, .ref _), (1, .int _), (2, .int _)]) (dk_62 (bt bc_Session_end_2 1 rfl)) rfl (by decide) rfl ?_
      exact EJ_pick (lv2 := [(0, .ref _), (3, .int _)]) [1, 0] rfl (e_Session_end_L66 fu _ _ _)
    · exact EJ_vret rfl (dk_177 (bt bc_Session_end_1 13 rfl))
abbrev Y_Session_bestPrice : Ym := (⟨"RiceHall$Session", "bestPrice", "(Z)I"⟩, prog_11_method_8_code, 4, (some FieldType.int))
theorem bc_Session_bestPrice_0 : bts prog_11_method_8_code 0 [2, 61, 3, 62, 29, 42, 180, 0, 43, 162, 0, 56, 42, 180, 0, 24, 29, 46, 158, 0, 41, 42, 180, 0, 20, 29, 50, 180, 0, 76, 27, 160] := bts_of (by decide +kernel)
theorem bc_Session_bestPrice_1 : bts prog_11_method_8_code 32 [0, 28, 28, 2, 159, 0, 21, 42, 180, 0, 20, 29, 50, 42, 180, 0, 20, 28, 50, 182, 0, 64, 153, 0, 5, 29, 61, 132, 3, 1, 167, 255] := bts_of (by decide +kernel)
theorem bc_Session_bestPrice_2 : bts prog_11_method_8_code 64 [198, 28, 2, 160, 0, 7, 2, 167, 0, 12, 42, 180, 0, 20, 28, 50, 180, 0, 80, 172] := bts_of (by decide +kernel)
theorem hd_Session_bestPrice : Y_Session_bestPrice.1.cls = RX9 ∧ Y_Session_bestPrice.1.cls ≠ "java/lang/invoke/MethodHandle" ∧ Y_Session_bestPrice.1.cls ≠ "java/lang/invoke/VarHandle" ∧ (parseMethodDescriptor Y_Session_bestPrice.1.desc).map (fun d => d.parameters.length) = some 1 := by decide +kernel
def Session_bestPrice_J59 (k4 : Nat → Int32 → Int32 → Int32 → Mm → Option (Int32 × Mm)) (x0 : Nat) (x1 : Int32) (x2 : Int32) (x3 : Int32) (M : Mm) : Option (Int32 × Mm) :=
  let v8 : Int32 := x3 + 1
  k4 x0 x1 x2 v8 M
set_option maxRecDepth 100000 in
set_option maxHeartbeats 4000000 in
theorem e_Session_bestPrice_J59 {G : Gx} (k4 : Nat → Int32 → Int32 → Int32 → Mm → Option (Int32 × Mm)) (hk4 : ∀ (x0 : Nat) (x1 : Int32) (x2 : Int32) (x3 : Int32) (M : Mm), EJ G Y_Session_bestPrice cvI 2 4 [(0, .ref x0), (1, .int x1), (2, .int x2), (3, .int x3)] [] M (k4 x0 x1 x2 x3 M)) (x0 : Nat) (x1 : Int32) (x2 : Int32) (x3 : Int32) (M : Mm) : EJ G Y_Session_bestPrice cvI 2 59 [(0, .ref x0), (1, .int x1), (2, .int x2), (3, .int x3)] [] M (Session_bestPrice_J59 k4 x0 x1 x2 x3 M) := by
  unfold Session_bestPrice_J59
  refine EJ_iinc 62 3 (lv2 := [(3, .int _), (0, .ref _), (1, .int _), (2, .int _)]) (dk_132 (bt bc_Session_bestPrice_1 27 rfl) (bt bc_Session_bestPrice_1 28 rfl) (bt bc_Session_bestPrice_1 29 rfl) (n := 1) rfl) rfl (by decide) rfl (v := 1) kI_1 rfl ?_
  refine EJ_goto 4 (dk_167 (bt bc_Session_bestPrice_1 30 rfl) (bt bc_Session_bestPrice_1 31 rfl) (bt bc_Session_bestPrice_2 0 rfl) (n := -58) rfl) (by decide) ?_
  exact EJ_pick (lv2 := [(0, .ref _), (1, .int _), (2, .int _), (3, .int _)]) [1, 2, 3, 0] rfl (hk4 _ _ _ _ _)
def Session_bestPrice_J57 (k4 : Nat → Int32 → Int32 → Int32 → Mm → Option (Int32 × Mm)) (x0 : Nat) (x1 : Int32) (x3 : Int32) (M : Mm) : Option (Int32 × Mm) :=
  Session_bestPrice_J59 k4 x0 x1 x3 x3 M
set_option maxRecDepth 100000 in
set_option maxHeartbeats 4000000 in
theorem e_Session_bestPrice_J57 {G : Gx} (k4 : Nat → Int32 → Int32 → Int32 → Mm → Option (Int32 × Mm)) (hk4 : ∀ (x0 : Nat) (x1 : Int32) (x2 : Int32) (x3 : Int32) (M : Mm), EJ G Y_Session_bestPrice cvI 2 4 [(0, .ref x0), (1, .int x1), (2, .int x2), (3, .int x3)] [] M (k4 x0 x1 x2 x3 M)) (x0 : Nat) (x1 : Int32) (x3 : Int32) (M : Mm) : EJ G Y_Session_bestPrice cvI 2 57 [(0, .ref x0), (1, .int x1), (3, .int x3)] [] M (Session_bestPrice_J57 k4 x0 x1 x3 M) := by
  unfold Session_bestPrice_J57
  refine EJ_iload_n 58 2 (dk_29 (bt bc_Session_bestPrice_1 25 rfl)) rfl rfl ?_
  refine EJ_istore_n 59 (lv2 := [(2, .int _), (0, .ref _), (1, .int _), (3, .int _)]) (dk_61 (bt bc_Session_bestPrice_1 26 rfl)) rfl (by decide) rfl ?_
  exact EJ_pick (lv2 := [(0, .ref _), (1, .int _), (2, .int _), (3, .int _)]) [1, 2, 0, 3] rfl (e_Session_bestPrice_J59 k4 hk4 _ _ _ _ _)
def Session_bestPrice_B4 (k4 : Nat → Int32 → Int32 → Int32 → Mm → Option (Int32 × Mm)) (x0 : Nat) (x1 : Int32) (x2 : Int32) (x3 : Int32) (M : Mm) : Option (Int32 × Mm) :=
  ck (kO M x0 9 11) (
  if (mI M x0 4) ≤ x3 then (
    if x2 = (-1) then (
      some ((-1), M))
    else (
      nn (mR M x0 1) (fun b2 =>
      ck (kA M b2 28 x2) (
      nn (mR M b2 (ix x2)) (fun b4 =>
      ck (kO M b4 1 6) (
      some (mI M b4 3, M)))))))
  else (
    nn (mR M x0 2) (fun b6 =>
    ck (kA M b6 20 x3) (
    if (mI M b6 (ix x3)) ≤ 0 then (
      Session_bestPrice_J59 k4 x0 x1 x2 x3 M)
    else (
      nn (mR M x0 1) (fun b9 =>
      ck (kA M b9 28 x3) (
      nn (mR M b9 (ix x3)) (fun b11 =>
      ck (kO M b11 1 6) (
      if (mI M b11 1) = x1 then (
        if x2 = (-1) then (
          Session_bestPrice_J57 k4 x0 x1 x3 M)
        else (
          nn (mR M x0 1) (fun b13 =>
          ck (kA M b13 28 x3) (
          nn (mR M b13 (ix x3)) (fun b15 =>
          nn (mR M x0 1) (fun b16 =>
          ck (kA M b16 28 x2) (
          nn (mR M b16 (ix x2)) (fun b18 =>
          ck (kO M b15 1 6) (
          bd (Cry_isBetterThan M b15 b18) (fun r20 M21 =>
          if r20 = 0 then (
            Session_bestPrice_J59 k4 x0 x1 x2 x3 M21)
          else (
            Session_bestPrice_J57 k4 x0 x1 x3 M21)))))))))))
      else (
        Session_bestPrice_J59 k4 x0 x1 x2 x3 M))))))))))
set_option maxRecDepth 100000 in
set_option maxHeartbeats 4000000 in
theorem e_Session_bestPrice_B4 {G : Gx} (k4 : Nat → Int32 → Int32 → Int32 → Mm → Option (Int32 × Mm)) (hk4 : ∀ (x0 : Nat) (x1 : Int32) (x2 : Int32) (x3 : Int32) (M : Mm), EJ G Y_Session_bestPrice cvI 2 4 [(0, .ref x0), (1, .int x1), (2, .int x2), (3, .int x3)] [] M (k4 x0 x1 x2 x3 M)) (x0 : Nat) (x1 : Int32) (x2 : Int32) (x3 : Int32) (M : Mm) : EJ G Y_Session_bestPrice cvI 2 4 [(0, .ref x0), (1, .int x1), (2, .int x2), (3, .int x3)] [] M (Session_bestPrice_B4 k4 x0 x1 x2 x3 M) := by
  unfold Session_bestPrice_B4
  refine EJ_iload_n 5 3 (dk_29 (bt bc_Session_bestPrice_0 4 rfl)) rfl rfl ?_
  refine EJ_aload_n 6 0 (dk_42 (bt bc_Session_bestPrice_0 5 rfl)) rfl rfl ?_
  refine EJ_ck (fun h1 => ?_)
  refine EJ_getI cf9 4 (by decide) 9 tw_835 (fun _ _ _ => rfl) (dk_180 (bt bc_Session_bestPrice_0 6 rfl) (bt bc_Session_bestPrice_0 7 rfl) (bt bc_Session_bestPrice_0 8 rfl) (n := 43) rfl) rfl (of_decide_eq_true h1) ?_
  refine EJ_icmp_ge 65 12 (dk_162 (bt bc_Session_bestPrice_0 9 rfl) (bt bc_Session_bestPrice_0 10 rfl) (bt bc_Session_bestPrice_0 11 rfl) (n := 56) rfl) (by decide) rfl (fun _ => ?_) (fun _ => ?_)
  · refine EJ_iload_n 66 2 (dk_28 (bt bc_Session_bestPrice_2 1 rfl)) rfl rfl ?_
    refine EJ_iconst 67 (dk_2 (bt bc_Session_bestPrice_2 2 rfl)) rfl (v := (-1)) kI_m1 ?_
    refine EJ_icmp_ne 74 70 (dk_160 (bt bc_Session_bestPrice_2 3 rfl) (bt bc_Session_bestPrice_2 4 rfl) (bt bc_Session_bestPrice_2 5 rfl) (n := 7) rfl) (by decide) rfl (fun _ => ?_) (fun _ => ?_)
    · refine EJ_aload_n 75 0 (dk_42 (bt bc_Session_bestPrice_2 10 rfl)) rfl rfl ?_
      refine EJ_getR cf9 1 (by decide) 78 tw_830 (fun _ _ _ => rfl) (dk_180 (bt bc_Session_bestPrice_2 11 rfl) (bt bc_Session_bestPrice_2 12 rfl) (bt bc_Session_bestPrice_2 13 rfl) (n := 20) rfl) rfl (of_decide_eq_true h1) (fun b2 => ?_)
      refine EJ_iload_n 79 2 (dk_28 (bt bc_Session_bestPrice_2 14 rfl)) rfl rfl ?_
      refine EJ_ck (fun h3 => ?_)
      refine EJ_aald 8 80 (by decide) (by decide) rfl h3 (dk_50 (bt bc_Session_bestPrice_2 15 rfl)) rfl (fun b4 => ?_)
      refine EJ_ck (fun h5 => ?_)
      refine EJ_getI cf1 3 (by decide) 83 tw_892 (fun _ _ _ => rfl) (dk_180 (bt bc_Session_bestPrice_2 16 rfl) (bt bc_Session_bestPrice_2 17 rfl) (bt bc_Session_bestPrice_2 18 rfl) (n := 80) rfl) rfl (of_decide_eq_true h5) ?_
      exact EJ_iret rfl (dk_172 (bt bc_Session_bestPrice_2 19 rfl))
    · refine EJ_iconst 71 (dk_2 (bt bc_Session_bestPrice_2 6 rfl)) rfl (v := (-1)) kI_m1 ?_
      refine EJ_goto 83 (dk_167 (bt bc_Session_bestPrice_2 7 rfl) (bt bc_Session_bestPrice_2 8 rfl) (bt bc_Session_bestPrice_2 9 rfl) (n := 12) rfl) (by decide) ?_
      exact EJ_iret rfl (dk_172 (bt bc_Session_bestPrice_2 19 rfl))
  · refine EJ_aload_n 13 0 (dk_42 (bt bc_Session_bestPrice_0 12 rfl)) rfl rfl ?_
    refine EJ_getR cf9 2 (by decide) 16 tw_831 (fun _ _ _ => rfl) (dk_180 (bt bc_Session_bestPrice_0 13 rfl) (bt bc_Session_bestPrice_0 14 rfl) (bt bc_Session_bestPrice_0 15 rfl) (n := 24) rfl) rfl (of_decide_eq_true h1) (fun b6 => ?_)
    refine EJ_iload_n 17 3 (dk_29 (bt bc_Session_bestPrice_0 16 rfl)) rfl rfl ?_
    refine EJ_ck (fun h7 => ?_)
    refine EJ_iald 18 h7 (dk_46 (bt bc_Session_bestPrice_0 17 rfl)) rfl ?_
    refine EJ_if_le 59 21 (dk_158 (bt bc_Session_bestPrice_0 18 rfl) (bt bc_Session_bestPrice_0 19 rfl) (bt bc_Session_bestPrice_0 20 rfl) (n := 41) rfl) (by decide) rfl (fun _ => ?_) (fun _ => ?_)
    · exact EJ_pick (lv2 := [(0, .ref _), (1, .int _), (2, .int _), (3, .int _)]) [0, 1, 2, 3] rfl (e_Session_bestPrice_J59 k4 hk4 _ _ _ _ _)
    · refine EJ_aload_n 22 0 (dk_42 (bt bc_Session_bestPrice_0 21 rfl)) rfl rfl ?_
      refine EJ_getR cf9 1 (by decide) 25 tw_830 (fun _ _ _ => rfl) (dk_180 (bt bc_Session_bestPrice_0 22 rfl) (bt bc_Session_bestPrice_0 23 rfl) (bt bc_Session_bestPrice_0 24 rfl) (n := 20) rfl) rfl (of_decide_eq_true h1) (fun b9 => ?_)
      refine EJ_iload_n 26 3 (dk_29 (bt bc_Session_bestPrice_0 25 rfl)) rfl rfl ?_
      refine EJ_ck (fun h10 => ?_)
      refine EJ_aald 8 27 (by decide) (by decide) rfl h10 (dk_50 (bt bc_Session_bestPrice_0 26 rfl)) rfl (fun b11 => ?_)
      refine EJ_ck (fun h12 => ?_)
      refine EJ_getI cf1 1 (by decide) 30 tw_887 (fun _ _ _ => rfl) (dk_180 (bt bc_Session_bestPrice_0 27 rfl) (bt bc_Session_bestPrice_0 28 rfl) (bt bc_Session_bestPrice_0 29 rfl) (n := 76) rfl) rfl (of_decide_eq_true h12) ?_
      refine EJ_iload_n 31 1 (dk_27 (bt bc_Session_bestPrice_0 30 rfl)) rfl rfl ?_
      refine EJ_icmp_ne 59 34 (dk_160 (bt bc_Session_bestPrice_0 31 rfl) (bt bc_Session_bestPrice_1 0 rfl) (bt bc_Session_bestPrice_1 1 rfl) (n := 28) rfl) (by decide) rfl (fun _ => ?_) (fun _ => ?_)
      · exact EJ_pick (lv2 := [(0, .ref _), (1, .int _), (2, .int _), (3, .int _)]) [0, 1, 2, 3] rfl (e_Session_bestPrice_J59 k4 hk4 _ _ _ _ _)
      · refine EJ_iload_n 35 2 (dk_28 (bt bc_Session_bestPrice_1 2 rfl)) rfl rfl ?_
        refine EJ_iconst 36 (dk_2 (bt bc_Session_bestPrice_1 3 rfl)) rfl (v := (-1)) kI_m1 ?_
        refine EJ_icmp_eq 57 39 (dk_159 (bt bc_Session_bestPrice_1 4 rfl) (bt bc_Session_bestPrice_1 5 rfl) (bt bc_Session_bestPrice_1 6 rfl) (n := 21) rfl) (by decide) rfl (fun _ => ?_) (fun _ => ?_)
        · exact EJ_pick (lv2 := [(0, .ref _), (1, .int _), (3, .int _)]) [0, 1, 3] rfl (e_Session_bestPrice_J57 k4 hk4 _ _ _ _)
        · refine EJ_aload_n 40 0 (dk_42 (bt bc_Session_bestPrice_1 7 rfl)) rfl rfl ?_
          refine EJ_getR cf9 1 (by decide) 43 tw_830 (fun _ _ _ => rfl) (dk_180 (bt bc_Session_bestPrice_1 8 rfl) (bt bc_Session_bestPrice_1 9 rfl) (bt bc_Session_bestPrice_1 10 rfl) (n := 20) rfl) rfl (of_decide_eq_true h1) (fun b13 => ?_)
          refine EJ_iload_n 44 3 (dk_29 (bt bc_Session_bestPrice_1 11 rfl)) rfl rfl ?_
          refine EJ_ck (fun h14 => ?_)
          refine EJ_aald 8 45 (by decide) (by decide) rfl h14 (dk_50 (bt bc_Session_bestPrice_1 12 rfl)) rfl (fun b15 => ?_)
          refine EJ_aload_n 46 0 (dk_42 (bt bc_Session_bestPrice_1 13 rfl)) rfl rfl ?_
          refine EJ_getR cf9 1 (by decide) 49 tw_830 (fun _ _ _ => rfl) (dk_180 (bt bc_Session_bestPrice_1 14 rfl) (bt bc_Session_bestPrice_1 15 rfl) (bt bc_Session_bestPrice_1 16 rfl) (n := 20) rfl) rfl (of_decide_eq_true h1) (fun b16 => ?_)
          refine EJ_iload_n 50 2 (dk_28 (bt bc_Session_bestPrice_1 17 rfl)) rfl rfl ?_
          refine EJ_ck (fun h17 => ?_)
          refine EJ_aald 8 51 (by decide) (by decide) rfl h17 (dk_50 (bt bc_Session_bestPrice_1 18 rfl)) rfl (fun b18 => ?_)
          refine EJ_ck (fun h19 => ?_)
          refine EJ_callVi (Y2 := Y_Cry_isBetterThan) 54 cf1 (s_Cry_isBetterThan G _ _ _) (of_decide_eq_true h19) rfl (dk_182 (bt bc_Session_bestPrice_1 19 rfl) (bt bc_Session_bestPrice_1 20 rfl) (bt bc_Session_bestPrice_1 21 rfl) (n := 64) rfl) rfl tw_927 tw_928 tw_929 tw_930 hd_Cry_isBetterThan rfl (by decide) (Nat.le_of_ble_eq_true rfl) (fun r20 M21 => ?_)
          refine EJ_if_eq 59 57 (dk_153 (bt bc_Session_bestPrice_1 22 rfl) (bt bc_Session_bestPrice_1 23 rfl) (bt bc_Session_bestPrice_1 24 rfl) (n := 5) rfl) (by decide) rfl (fun _ => ?_) (fun _ => ?_)
          · exact EJ_pick (lv2 := [(0, .ref _), (1, .int _), (2, .int _), (3, .int _)]) [0, 1, 2, 3] rfl (e_Session_bestPrice_J59 k4 hk4 _ _ _ _ _)
          · exact EJ_pick (lv2 := [(0, .ref _), (1, .int _), (3, .int _)]) [0, 1, 3] rfl (e_Session_bestPrice_J57 k4 hk4 _ _ _ _)
def Session_bestPrice_L4 (n : Nat) : Nat → Int32 → Int32 → Int32 → Mm → Option (Int32 × Mm) :=
  match n with
  | 0 => fun _ _ _ _ _ => none
  | n + 1 => Session_bestPrice_B4 (Session_bestPrice_L4 n)
theorem e_Session_bestPrice_L4 {G : Gx} : ∀ (n : Nat) (x0 : Nat) (x1 : Int32) (x2 : Int32) (x3 : Int32) (M : Mm), EJ G Y_Session_bestPrice cvI 2 4 [(0, .ref x0), (1, .int x1), (2, .int x2), (3, .int x3)] [] M (Session_bestPrice_L4 n x0 x1 x2 x3 M) := by
  intro n
  induction n with
  | zero => intros; exact EJ_none
  | succ n ih => intro x0 x1 x2 x3 M; exact e_Session_bestPrice_B4 _ ih x0 x1 x2 x3 M
def Session_bestPrice (M : Mm) (a0 : Nat) (a1 : Int32) : Option (Int32 × Mm) :=
  Session_bestPrice_L4 fu a0 a1 (-1) 0 M
set_option maxRecDepth 100000 in
set_option maxHeartbeats 4000000 in
theorem s_Session_bestPrice (G : Gx) (M : Mm) (a0 : Nat) (a1 : Int32) : FnS G Y_Session_bestPrice cvI 2 [.ref a0, .int a1] M (Session_bestPrice M a0 a1) := by
  refine FnS.ofE (by decide) (Nat.le_of_ble_eq_true rfl) ?_
  show EJ G Y_Session_bestPrice cvI 2 0 [(0, .ref a0), (1, .int a1)] [] M _
  unfold Session_bestPrice
  refine EJ_iconst 1 (dk_2 (bt bc_Session_bestPrice_0 0 rfl)) rfl (v := (-1)) kI_m1 ?_
  refine EJ_istore_n 2 (lv2 := [(2, .int _), (0, .ref _), (1, .int _)]) (dk_61 (bt bc_Session_bestPrice_0 1 rfl)) rfl (by decide) rfl ?_
  refine EJ_iconst 3 (dk_3 (bt bc_Session_bestPrice_0 2 rfl)) rfl (v := 0) kI_0 ?_
  refine EJ_istore_n 4 (lv2 := [(3, .int _), (2, .int _), (0, .ref _), (1, .int _)]) (dk_62 (bt bc_Session_bestPrice_0 3 rfl)) rfl (by decide) rfl ?_
  exact EJ_pick (lv2 := [(0, .ref _), (1, .int _), (2, .int _), (3, .int _)]) [2, 3, 1, 0] rfl (e_Session_bestPrice_L4 fu _ _ _ _ _)
abbrev Y_Session_lotsAt : Ym := (⟨"RiceHall$Session", "lotsAt", "(ZI)I"⟩, prog_11_method_9_code, 5, (some FieldType.int))
theorem bc_Session_lotsAt_0 : bts prog_11_method_9_code 0 [3, 62, 3, 54, 4, 21, 4, 42, 180, 0, 43, 162, 0, 47, 42, 180, 0, 20, 21, 4, 50, 180, 0, 76, 27, 160, 0, 27, 42, 180, 0, 20] := bts_of (by decide +kernel)
theorem bc_Session_lotsAt_1 : bts prog_11_method_9_code 32 [21, 4, 50, 180, 0, 80, 28, 160, 0, 13, 29, 42, 180, 0, 24, 21, 4, 46, 96, 62, 132, 4, 1, 167, 255, 206, 29, 172] := bts_of (by decide +kernel)
theorem hd_Session_lotsAt : Y_Session_lotsAt.1.cls = RX9 ∧ Y_Session_lotsAt.1.cls ≠ "java/lang/invoke/MethodHandle" ∧ Y_Session_lotsAt.1.cls ≠ "java/lang/invoke/VarHandle" ∧ (parseMethodDescriptor Y_Session_lotsAt.1.desc).map (fun d => d.parameters.length) = some 2 := by decide +kernel
def Session_lotsAt_J52 (k5 : Nat → Int32 → Int32 → Int32 → Int32 → Mm → Option (Int32 × Mm)) (x0 : Nat) (x1 : Int32) (x2 : Int32) (x3 : Int32) (x4 : Int32) (M : Mm) : Option (Int32 × Mm) :=
  let v6 : Int32 := x4 + 1
  k5 x0 x1 x2 x3 v6 M
set_option maxRecDepth 100000 in
set_option maxHeartbeats 4000000 in
theorem e_Session_lotsAt_J52 {G : Gx} (k5 : Nat → Int32 → Int32 → Int32 → Int32 → Mm → Option (Int32 × Mm)) (hk5 : ∀ (x0 : Nat) (x1 : Int32) (x2 : Int32) (x3 : Int32) (x4 : Int32) (M : Mm), EJ G Y_Session_lotsAt cvI 1 5 [(0, .ref x0), (1, .int x1), (2, .int x2), (3, .int x3), (4, .int x4)] [] M (k5 x0 x1 x2 x3 x4 M)) (x0 : Nat) (x1 : Int32) (x2 : Int32) (x3 : Int32) (x4 : Int32) (M : Mm) : EJ G Y_Session_lotsAt cvI 1 52 [(0, .ref x0), (1, .int x1), (2, .int x2), (3, .int x3), (4, .int x4)] [] M (Session_lotsAt_J52 k5 x0 x1 x2 x3 x4 M) := by
  unfold Session_lotsAt_J52
  refine EJ_iinc 55 4 (lv2 := [(4, .int _), (0, .ref _), (1, .int _), (2, .int _), (3, .int _)]) (dk_132 (bt bc_Session_lotsAt_1 20 rfl) (bt bc_Session_lotsAt_1 21 rfl) (bt bc_Session_lotsAt_1 22 rfl) (n := 1) rfl) rfl (by decide) rfl (v := 1) kI_1 rfl ?_
  refine EJ_goto 5 (dk_167 (bt bc_Session_lotsAt_1 23 rfl) (bt bc_Session_lotsAt_1 24 rfl) (bt bc_Session_lotsAt_1 25 rfl) (n := -50) rfl) (by decide) ?_
  exact EJ_pick (lv2 := [(0, .ref _), (1, .int _), (2, .int _), (3, .int _), (4, .int _)]) [1, 2, 3, 4, 0] rfl (hk5 _ _ _ _ _ _)
def Session_lotsAt_B5 (k5 : Nat → Int32 → Int32 → Int32 → Int32 → Mm → Option (Int32 × Mm)) (x0 : Nat) (x1 : Int32) (x2 : Int32) (x3 : Int32) (x4 : Int32) (M : Mm) : Option (Int32 × Mm) :=
  ck (kO M x0 9 11) (
  if (mI M x0 4) ≤ x4 then (
    some (x3, M))
  else (
    nn (mR M x0 1) (fun b2 =>
    ck (kA M b2 28 x4) (
    nn (mR M b2 (ix x4)) (fun b4 =>
    ck (kO M b4 1 6) (
    if (mI M b4 1) = x1 then (
      nn (mR M x0 1) (fun b7 =>
      ck (kA M b7 28 x4) (
      nn (mR M b7 (ix x4)) (fun b9 =>
      ck (kO M b9 1 6) (
      if (mI M b9 3) = x2 then (
        nn (mR M x0 2) (fun b11 =>
        ck (kA M b11 20 x4) (
        let v13 : Int32 := x3 + (mI M b11 (ix x4))
        Session_lotsAt_J52 k5 x0 x1 x2 v13 x4 M)))
      else (
        Session_lotsAt_J52 k5 x0 x1 x2 x3 x4 M))))))
    else (
      Session_lotsAt_J52 k5 x0 x1 x2 x3 x4 M)))))))
set_option maxRecDepth 100000 in
set_option maxHeartbeats 4000000 in
theorem e_Session_lotsAt_B5 {G : Gx} (k5 : Nat → Int32 → Int32 → Int32 → Int32 → Mm → Option (Int32 × Mm)) (hk5 : ∀ (x0 : Nat) (x1 : Int32) (x2 : Int32) (x3 : Int32) (x4 : Int32) (M : Mm), EJ G Y_Session_lotsAt cvI 1 5 [(0, .ref x0), (1, .int x1), (2, .int x2), (3, .int x3), (4, .int x4)] [] M (k5 x0 x1 x2 x3 x4 M)) (x0 : Nat) (x1 : Int32) (x2 : Int32) (x3 : Int32) (x4 : Int32) (M : Mm) : EJ G Y_Session_lotsAt cvI 1 5 [(0, .ref x0), (1, .int x1), (2, .int x2), (3, .int x3), (4, .int x4)] [] M (Session_lotsAt_B5 k5 x0 x1 x2 x3 x4 M) := by
  unfold Session_lotsAt_B5
  refine EJ_iload 7 4 (dk_21 (bt bc_Session_lotsAt_0 5 rfl) (bt bc_Session_lotsAt_0 6 rfl)) rfl rfl ?_
  refine EJ_aload_n 8 0 (dk_42 (bt bc_Session_lotsAt_0 7 rfl)) rfl rfl ?_
  refine EJ_ck (fun h1 => ?_)
  refine EJ_getI cf9 4 (by decide) 11 tw_835 (fun _ _ _ => rfl) (dk_180 (bt bc_Session_lotsAt_0 8 rfl) (bt bc_Session_lotsAt_0 9 rfl) (bt bc_Session_lotsAt_0 10 rfl) (n := 43) rfl) rfl (of_decide_eq_true h1) ?_
  refine EJ_icmp_ge 58 14 (dk_162 (bt bc_Session_lotsAt_0 11 rfl) (bt bc_Session_lotsAt_0 12 rfl) (bt bc_Session_lotsAt_0 13 rfl) (n := 47) rfl) (by decide) rfl (fun _ => ?_) (fun _ => ?_)
  · refine EJ_iload_n 59 3 (dk_29 (bt bc_Session_lotsAt_1 26 rfl)) rfl rfl ?_
    exact EJ_iret rfl (dk_172 (bt bc_Session_lotsAt_1 27 rfl))
  · refine EJ_aload_n 15 0 (dk_42 (bt bc_Session_lotsAt_0 14 rfl)) rfl rfl ?_
    refine EJ_getR cf9 1 (by decide) 18 tw_830 (fun _ _ _ => rfl) (dk_180 (bt bc_Session_lotsAt_0 15 rfl) (bt bc_Session_lotsAt_0 16 rfl) (bt bc_Session_lotsAt_0 17 rfl) (n := 20) rfl) rfl (of_decide_eq_true h1) (fun b2 => ?_)
    refine EJ_iload 20 4 (dk_21 (bt bc_Session_lotsAt_0 18 rfl) (bt bc_Session_lotsAt_0 19 rfl)) rfl rfl ?_
    refine EJ_ck (fun h3 => ?_)
    refine EJ_aald 8 21 (by decide) (by decide) rfl h3 (dk_50 (bt bc_Session_lotsAt_0 20 rfl)) rfl (fun b4 => ?_)
    refine EJ_ck (fun h5 => ?_)
    refine EJ_getI cf1 1 (by decide) 24 tw_887 (fun _ _ _ => rfl) (dk_180 (bt bc_Session_lotsAt_0 21 rfl) (bt bc_Session_lotsAt_0 22 rfl) (bt bc_Session_lotsAt_0 23 rfl) (n := 76) rfl) rfl (of_decide_eq_true h5) ?_
    refine EJ_iload_n 25 1 (dk_27 (bt bc_Session_lotsAt_0 24 rfl)) rfl rfl ?_
    refine EJ_icmp_ne 52 28 (dk_160 (bt bc_Session_lotsAt_0 25 rfl) (bt bc_Session_lotsAt_0 26 rfl) (bt bc_Session_lotsAt_0 27 rfl) (n := 27) rfl) (by decide) rfl (fun _ => ?_) (fun _ => ?_)
    · exact EJ_pick (lv2 := [(0, .ref _), (1, .int _), (2, .int _), (3, .int _), (4, .int _)]) [0, 1, 2, 3, 4] rfl (e_Session_lotsAt_J52 k5 hk5 _ _ _ _ _ _)
    · refine EJ_aload_n 29 0 (dk_42 (bt bc_Session_lotsAt_0 28 rfl)) rfl rfl ?_
      refine EJ_getR cf9 1 (by decide) 32 tw_830 (fun _ _ _ => rfl) (dk_180 (bt bc_Session_lotsAt_0 29 rfl) (bt bc_Session_lotsAt_0 30 rfl) (bt bc_Session_lotsAt_0 31 rfl) (n := 20) rfl) rfl (of_decide_eq_true h1) (fun b7 => ?_)
      refine EJ_iload 34 4 (dk_21 (bt bc_Session_lotsAt_1 0 rfl) (bt bc_Session_lotsAt_1 1 rfl)) rfl rfl ?_
      refine EJ_ck (fun h8 => ?_)
      refine EJ_aald 8 35 (by decide) (by decide) rfl h8 (dk_50 (bt bc_Session_lotsAt_1 2 rfl)) rfl (fun b9 => ?_)
      refine EJ_ck (fun h10 => ?_)
      refine EJ_getI cf1 3 (by decide) 38 tw_892 (fun _ _ _ => rfl) (dk_180 (bt bc_Session_lotsAt_1 3 rfl) (bt bc_Session_lotsAt_1 4 rfl) (bt bc_Session_lotsAt_1 5 rfl) (n := 80) rfl) rfl (of_decide_eq_true h10) ?_
      refine EJ_iload_n 39 2 (dk_28 (bt bc_Session_lotsAt_1 6 rfl)) rfl rfl ?_
      refine EJ_icmp_ne 52 42 (dk_160 (bt bc_Session_lotsAt_1 7 rfl) (bt bc_Session_lotsAt_1 8 rfl) (bt bc_Session_lotsAt_1 9 rfl) (n := 13) rfl) (by decide) rfl (fun _ => ?_) (fun _ => ?_)
      · exact EJ_pick (lv2 := [(0, .ref _), (1, .int _), (2, .int _), (3, .int _), (4, .int _)]) [0, 1, 2, 3, 4] rfl (e_Session_lotsAt_J52 k5 hk5 _ _ _ _ _ _)
      · refine EJ_iload_n 43 3 (dk_29 (bt bc_Session_lotsAt_1 10 rfl)) rfl rfl ?_
        refine EJ_aload_n 44 0 (dk_42 (bt bc_Session_lotsAt_1 11 rfl)) rfl rfl ?_
        refine EJ_getR cf9 2 (by decide) 47 tw_831 (fun _ _ _ => rfl) (dk_180 (bt bc_Session_lotsAt_1 12 rfl) (bt bc_Session_lotsAt_1 13 rfl) (bt bc_Session_lotsAt_1 14 rfl) (n := 24) rfl) rfl (of_decide_eq_true h1) (fun b11 => ?_)
        refine EJ_iload 49 4 (dk_21 (bt bc_Session_lotsAt_1 15 rfl) (bt bc_Session_lotsAt_1 16 rfl)) rfl rfl ?_
        refine EJ_ck (fun h12 => ?_)
        refine EJ_iald 50 h12 (dk_46 (bt bc_Session_lotsAt_1 17 rfl)) rfl ?_
        refine EJ_iadd 51 (dk_96 (bt bc_Session_lotsAt_1 18 rfl)) rfl ?_
        refine EJ_istore_n 52 (lv2 := [(3, .int _), (0, .ref _), (1, .int _), (2, .int _), (4, .int _)]) (dk_62 (bt bc_Session_lotsAt_1 19 rfl)) rfl (by decide) rfl ?_
        exact EJ_pick (lv2 := [(0, .ref _), (1, .int _), (2, .int _), (3, .int _), (4, .int _)]) [1, 2, 3, 0, 4] rfl (e_Session_lotsAt_J52 k5 hk5 _ _ _ _ _ _)
def Session_lotsAt_L5 (n : Nat) : Nat → Int32 → Int32 → Int32 → Int32 → Mm → Option (Int32 × Mm) :=
  match n with
  | 0 => fun _ _ _ _ _ _ => none
  | n + 1 => Session_lotsAt_B5 (Session_lotsAt_L5 n)
theorem e_Session_lotsAt_L5 {G : Gx} : ∀ (n : Nat) (x0 : Nat) (x1 : Int32) (x2 : Int32) (x3 : Int32) (x4 : Int32) (M : Mm), EJ G Y_Session_lotsAt cvI 1 5 [(0, .ref x0), (1, .int x1), (2, .int x2), (3, .int x3), (4, .int x4)] [] M (Session_lotsAt_L5 n x0 x1 x2 x3 x4 M) := by
  intro n
  induction n with
  | zero => intros; exact EJ_none
  | succ n ih => intro x0 x1 x2 x3 x4 M; exact e_Session_lotsAt_B5 _ ih x0 x1 x2 x3 x4 M
def Session_lotsAt (M : Mm) (a0 : Nat) (a1 : Int32) (a2 : Int32) : Option (Int32 × Mm) :=
  Session_lotsAt_L5 fu a0 a1 a2 0 0 M
set_option maxRecDepth 100000 in
set_option maxHeartbeats 4000000 in
theorem s_Session_lotsAt (G : Gx) (M : Mm) (a0 : Nat) (a1 : Int32) (a2 : Int32) : FnS G Y_Session_lotsAt cvI 1 [.ref a0, .int a1, .int a2] M (Session_lotsAt M a0 a1 a2) := by
  refine FnS.ofE (by decide) (Nat.le_of_ble_eq_true rfl) ?_
  show EJ G Y_Session_lotsAt cvI 1 0 [(0, .ref a0), (1, .int a1), (2, .int a2)] [] M _
  unfold Session_lotsAt
  refine EJ_iconst 1 (dk_3 (bt bc_Session_lotsAt_0 0 rfl)) rfl (v := 0) kI_0 ?_
  refine EJ_istore_n 2 (lv2 := [(3, .int _), (0, .ref _), (1, .int _), (2, .int _)]) (dk_62 (bt bc_Session_lotsAt_0 1 rfl)) rfl (by decide) rfl ?_
  refine EJ_iconst 3 (dk_3 (bt bc_Session_lotsAt_0 2 rfl)) rfl (v := 0) kI_0 ?_
  refine EJ_istore 5 (lv2 := [(4, .int _), (3, .int _), (0, .ref _), (1, .int _), (2, .int _)]) (dk_54 (bt bc_Session_lotsAt_0 3 rfl) (bt bc_Session_lotsAt_0 4 rfl)) rfl (by decide) rfl ?_
  exact EJ_pick (lv2 := [(0, .ref _), (1, .int _), (2, .int _), (3, .int _), (4, .int _)]) [2, 3, 4, 1, 0] rfl (e_Session_lotsAt_L5 fu _ _ _ _ _ _)
abbrev Y_Session_dropTakenBack : Ym := (⟨"RiceHall$Session", "dropTakenBack", "(I[I)V"⟩, prog_11_method_12_code, 4, none)
theorem bc_Session_dropTakenBack_0 : bts prog_11_method_12_code 0 [3, 62, 29, 27, 162, 0, 26, 42, 180, 0, 20, 29, 50, 180, 0, 73, 27, 160, 0, 7, 44, 29, 3, 79, 132, 3, 1, 167, 255, 231, 177] := bts_of (by decide +kernel)
theorem hd_Session_dropTakenBack : Y_Session_dropTakenBack.1.cls = RX9 ∧ Y_Session_dropTakenBack.1.cls ≠ "java/lang/invoke/MethodHandle" ∧ Y_Session_dropTakenBack.1.cls ≠ "java/lang/invoke/VarHandle" ∧ (parseMethodDescriptor Y_Session_dropTakenBack.1.desc).map (fun d => d.parameters.length) = some 2 := by decide +kernel
def Session_dropTakenBack_J24 (k2 : Nat → Int32 → Nat → Int32 → Mm → Option (Unit × Mm)) (x0 : Nat) (x1 : Int32) (x2 : Nat) (x3 : Int32) (M : Mm) : Option (Unit × Mm) :=
  let v6 : Int32 := x3 + 1
  k2 x0 x1 x2 v6 M
set_option maxRecDepth 100000 in
set_option maxHeartbeats 4000000 in
theorem e_Session_dropTakenBack_J24 {G : Gx} (k2 : Nat → Int32 → Nat → Int32 → Mm → Option (Unit × Mm)) (hk2 : ∀ (x0 : Nat) (x1 : Int32) (x2 : Nat) (x3 : Int32) (M : Mm), EJ G Y_Session_dropTakenBack cvV 1 2 [(0, .ref x0), (1, .int x1), (2, .ref x2), (3, .int x3)] [] M (k2 x0 x1 x2 x3 M)) (x0 : Nat) (x1 : Int32) (x2 : Nat) (x3 : Int32) (M : Mm) : EJ G Y_Session_dropTakenBack cvV 1 24 [(0, .ref x0), (1, .int x1), (2, .ref x2), (3, .int x3)] [] M (Session_dropTakenBack_J24 k2 x0 x1 x2 x3 M) := by
  unfold Session_dropTakenBack_J24
  refine EJ_iinc 27 3 (lv2 := [(3, .int _), (0, .ref _), (1, .int _), (2, .ref _)]) (dk_132 (bt bc_Session_dropTakenBack_0 24 rfl) (bt bc_Session_dropTakenBack_0 25 rfl) (bt bc_Session_dropTakenBack_0 26 rfl) (n := 1) rfl) rfl (by decide) rfl (v := 1) kI_1 rfl ?_
  refine EJ_goto 2 (dk_167 (bt bc_Session_dropTakenBack_0 27 rfl) (bt bc_Session_dropTakenBack_0 28 rfl) (bt bc_Session_dropTakenBack_0 29 rfl) (n := -25) rfl) (by decide) ?_
  exact EJ_pick (lv2 := [(0, .ref _), (1, .int _), (2, .ref _), (3, .int _)]) [1, 2, 3, 0] rfl (hk2 _ _ _ _ _)
def Session_dropTakenBack_B2 (k2 : Nat → Int32 → Nat → Int32 → Mm → Option (Unit × Mm)) (x0 : Nat) (x1 : Int32) (x2 : Nat) (x3 : Int32) (M : Mm) : Option (Unit × Mm) :=
  if x1 ≤ x3 then (
    some ((), M))
  else (
    ck (kO M x0 9 11) (
    nn (mR M x0 1) (fun b2 =>
    ck (kA M b2 28 x3) (
    nn (mR M b2 (ix x3)) (fun b4 =>
    ck (kO M b4 1 6) (
    if (mI M b4 5) = x1 then (
      ck (kA M x2 20 x3) (
      let M8 := sI M x2 (ix x3) 0
      Session_dropTakenBack_J24 k2 x0 x1 x2 x3 M8))
    else (
      Session_dropTakenBack_J24 k2 x0 x1 x2 x3 M)))))))
set_option maxRecDepth 100000 in
set_option maxHeartbeats 4000000 in
theorem e_Session_dropTakenBack_B2 {G : Gx} (k2 : Nat → Int32 → Nat → Int32 → Mm → Option (Unit × Mm)) (hk2 : ∀ (x0 : Nat) (x1 : Int32) (x2 : Nat) (x3 : Int32) (M : Mm), EJ G Y_Session_dropTakenBack cvV 1 2 [(0, .ref x0), (1, .int x1), (2, .ref x2), (3, .int x3)] [] M (k2 x0 x1 x2 x3 M)) (x0 : Nat) (x1 : Int32) (x2 : Nat) (x3 : Int32) (M : Mm) : EJ G Y_Session_dropTakenBack cvV 1 2 [(0, .ref x0), (1, .int x1), (2, .ref x2), (3, .int x3)] [] M (Session_dropTakenBack_B2 k2 x0 x1 x2 x3 M) := by
  unfold Session_dropTakenBack_B2
  refine EJ_iload_n 3 3 (dk_29 (bt bc_Session_dropTakenBack_0 2 rfl)) rfl rfl ?_
  refine EJ_iload_n 4 1 (dk_27 (bt bc_Session_dropTakenBack_0 3 rfl)) rfl rfl ?_
  refine EJ_icmp_ge 30 7 (dk_162 (bt bc_Session_dropTakenBack_0 4 rfl) (bt bc_Session_dropTakenBack_0 5 rfl) (bt bc_Session_dropTakenBack_0 6 rfl) (n := 26) rfl) (by decide) rfl (fun _ => ?_) (fun _ => ?_)
  · exact EJ_vret rfl (dk_177 (bt bc_Session_dropTakenBack_0 30 rfl))
  · refine EJ_aload_n 8 0 (dk_42 (bt bc_Session_dropTakenBack_0 7 rfl)) rfl rfl ?_
    refine EJ_ck (fun h1 => ?_)
    refine EJ_getR cf9 1 (by decide) 11 tw_830 (fun _ _ _ => rfl) (dk_180 (bt bc_Session_dropTakenBack_0 8 rfl) (bt bc_Session_dropTakenBack_0 9 rfl) (bt bc_Session_dropTakenBack_0 10 rfl) (n := 20) rfl) rfl (of_decide_eq_true h1) (fun b2 => ?_)
    refine EJ_iload_n 12 3 (dk_29 (bt bc_Session_dropTakenBack_0 11 rfl)) rfl rfl ?_
    refine EJ_ck (fun h3 => ?_)
    refine EJ_aald 8 13 (by decide) (by decide) rfl h3 (dk_50 (bt bc_Session_dropTakenBack_0 12 rfl)) rfl (fun b4 => ?_)
    refine EJ_ck (fun h5 => ?_)
    refine EJ_getI cf1 5 (by decide) 16 tw_897 (fun _ _ _ => rfl) (dk_180 (bt bc_Session_dropTakenBack_0 13 rfl) (bt bc_Session_dropTakenBack_0 14 rfl) (bt bc_Session_dropTakenBack_0 15 rfl) (n := 73) rfl) rfl (of_decide_eq_true h5) ?_
    refine EJ_iload_n 17 1 (dk_27 (bt bc_Session_dropTakenBack_0 16 rfl)) rfl rfl ?_
    refine EJ_icmp_ne 24 20 (dk_160 (bt bc_Session_dropTakenBack_0 17 rfl) (bt bc_Session_dropTakenBack_0 18 rfl) (bt bc_Session_dropTakenBack_0 19 rfl) (n := 7) rfl) (by decide) rfl (fun _ => ?_) (fun _ => ?_)
    · exact EJ_pick (lv2 := [(0, .ref _), (1, .int _), (2, .ref _), (3, .int _)]) [0, 1, 2, 3] rfl (e_Session_dropTakenBack_J24 k2 hk2 _ _ _ _ _)
    · refine EJ_aload_n 21 2 (dk_44 (bt bc_Session_dropTakenBack_0 20 rfl)) rfl rfl ?_
      refine EJ_iload_n 22 3 (dk_29 (bt bc_Session_dropTakenBack_0 21 rfl)) rfl rfl ?_
      refine EJ_iconst 23 (dk_3 (bt bc_Session_dropTakenBack_0 22 rfl)) rfl (v := 0) kI_0 ?_
      refine EJ_ck (fun h7 => ?_)
      refine EJ_iast 24 h7 (dk_79 (bt bc_Session_dropTakenBack_0 23 rfl)) rfl ?_
      exact EJ_pick (lv2 := [(0, .ref _), (1, .int _), (2, .ref _), (3, .int _)]) [0, 1, 2, 3] rfl (e_Session_dropTakenBack_J24 k2 hk2 _ _ _ _ _)
def Session_dropTakenBack_L2 (n : Nat) : Nat → Int32 → Nat → Int32 → Mm → Option (Unit × Mm) :=
  match n with
  | 0 => fun _ _ _ _ _ => none
  | n + 1 => Session_dropTakenBack_B2 (Session_dropTakenBack_L2 n)
theorem e_Session_dropTakenBack_L2 {G : Gx} : ∀ (n : Nat) (x0 : Nat) (x1 : Int32) (x2 : Nat) (x3 : Int32) (M : Mm), EJ G Y_Session_dropTakenBack cvV 1 2 [(0, .ref x0), (1, .int x1), (2, .ref x2), (3, .int x3)] [] M (Session_dropTakenBack_L2 n x0 x1 x2 x3 M) := by
  intro n
  induction n with
  | zero => intros; exact EJ_none
  | succ n ih => intro x0 x1 x2 x3 M; exact e_Session_dropTakenBack_B2 _ ih x0 x1 x2 x3 M
def Session_dropTakenBack (M : Mm) (a0 : Nat) (a1 : Int32) (a2 : Nat) : Option (Unit × Mm) :=
  Session_dropTakenBack_L2 fu a0 a1 a2 0 M
set_option maxRecDepth 100000 in
set_option maxHeartbeats 4000000 in
theorem s_Session_dropTakenBack (G : Gx) (M : Mm) (a0 : Nat) (a1 : Int32) (a2 : Nat) : FnS G Y_Session_dropTakenBack cvV 1 [.ref a0, .int a1, .ref a2] M (Session_dropTakenBack M a0 a1 a2) := by
  refine FnS.ofE (by decide) (Nat.le_of_ble_eq_true rfl) ?_
  show EJ G Y_Session_dropTakenBack cvV 1 0 [(0, .ref a0), (1, .int a1), (2, .ref a2)] [] M _
  unfold Session_dropTakenBack
  refine EJ_iconst 1 (dk_3 (bt bc_Session_dropTakenBack_0 0 rfl)) rfl (v := 0) kI_0 ?_
  refine EJ_istore_n 2 (lv2 := [(3, .int _), (0, .ref _), (1, .int _), (2, .ref _)]) (dk_62 (bt bc_Session_dropTakenBack_0 1 rfl)) rfl (by decide) rfl ?_
  exact EJ_pick (lv2 := [(0, .ref _), (1, .int _), (2, .ref _), (3, .int _)]) [1, 2, 3, 0] rfl (e_Session_dropTakenBack_L2 fu _ _ _ _ _)
abbrev Y_Session_meetAgain : Ym := (⟨"RiceHall$Session", "meetAgain", "(I[I)I"⟩, prog_11_method_13_code, 6, (some FieldType.int))
theorem bc_Session_meetAgain_0 : bts prog_11_method_13_code 0 [2, 62, 3, 54, 4, 21, 4, 42, 180, 0, 43, 162, 0, 50, 44, 27, 46, 158, 0, 44, 42, 27, 44, 182, 0, 49, 54, 5, 21, 5, 2, 160] := bts_of (by decide +kernel)
theorem bc_Session_meetAgain_1 : bts prog_11_method_13_code 32 [0, 5, 29, 172, 27, 21, 5, 44, 184, 0, 53, 87, 42, 180, 0, 20, 21, 5, 50, 180, 0, 80, 62, 132, 4, 1, 167, 255, 203, 29, 172] := bts_of (by decide +kernel)
theorem hd_Session_meetAgain : Y_Session_meetAgain.1.cls = RX9 ∧ Y_Session_meetAgain.1.cls ≠ "java/lang/invoke/MethodHandle" ∧ Y_Session_meetAgain.1.cls ≠ "java/lang/invoke/VarHandle" ∧ (parseMethodDescriptor Y_Session_meetAgain.1.desc).map (fun d => d.parameters.length) = some 2 := by decide +kernel
def Session_meetAgain_B5 (k5 : Nat → Int32 → Nat → Int32 → Int32 → Mm → Option (Int32 × Mm)) (x0 : Nat) (x1 : Int32) (x2 : Nat) (x3 : Int32) (x4 : Int32) (M : Mm) : Option (Int32 × Mm) :=
  ck (kO M x0 9 11) (
  if (mI M x0 4) ≤ x4 then (
    some (x3, M))
  else (
    ck (kA M x2 20 x1) (
    if (mI M x2 (ix x1)) ≤ 0 then (
      some (x3, M))
    else (
      bd (Session_bestPartner M x0 x1 x2) (fun r3 M4 =>
      if r3 = (-1) then (
        some (x3, M4))
      else (
        bd (Session_strike M4 x1 r3 x2) (fun r5 M6 =>
        ck (kO M6 x0 9 11) (
        nn (mR M6 x0 1) (fun b8 =>
        ck (kA M6 b8 28 r3) (
        nn (mR M6 b8 (ix r3)) (fun b10 =>
        ck (kO M6 b10 1 6) (
        let v12 : Int32 := mI M6 b10 3
        let v13 : Int32 := x4 + 1
        k5 x0 x1 x2 v12 v13 M6))))))))))))
set_option maxRecDepth 100000 in
set_option maxHeartbeats 4000000 in
theorem e_Session_meetAgain_B5 {G : Gx} (k5 : Nat → Int32 → Nat → Int32 → Int32 → Mm → Option (Int32 × Mm)) (hk5 : ∀ (x0 : Nat) (x1 : Int32) (x2 : Nat) (x3 : Int32) (x4 : Int32) (M : Mm), EJ G Y_Session_meetAgain cvI 3 5 [(0, .ref x0), (1, .int x1), (2, .ref x2), (3, .int x3), (4, .int x4)] [] M (k5 x0 x1 x2 x3 x4 M)) (x0 : Nat) (x1 : Int32) (x2 : Nat) (x3 : Int32) (x4 : Int32) (M : Mm) : EJ G Y_Session_meetAgain cvI 3 5 [(0, .ref x0), (1, .int x1), (2, .ref x2), (3, .int x3), (4, .int x4)] [] M (Session_meetAgain_B5 k5 x0 x1 x2 x3 x4 M) := by
  unfold Session_meetAgain_B5
  refine EJ_iload 7 4 (dk_21 (bt bc_Session_meetAgain_0 5 rfl) (bt bc_Session_meetAgain_0 6 rfl)) rfl rfl ?_
  refine EJ_aload_n 8 0 (dk_42 (bt bc_Session_meetAgain_0 7 rfl)) rfl rfl ?_
  refine EJ_ck (fun h1 => ?_)
  refine EJ_getI cf9 4 (by decide) 11 tw_835 (fun _ _ _ => rfl) (dk_180 (bt bc_Session_meetAgain_0 8 rfl) (bt bc_Session_meetAgain_0 9 rfl) (bt bc_Session_meetAgain_0 10 rfl) (n := 43) rfl) rfl (of_decide_eq_true h1) ?_
  refine EJ_icmp_ge 61 14 (dk_162 (bt bc_Session_meetAgain_0 11 rfl) (bt bc_Session_meetAgain_0 12 rfl) (bt bc_Session_meetAgain_0 13 rfl) (n := 50) rfl) (by decide) rfl (fun _ => ?_) (fun _ => ?_)
  · refine EJ_iload_n 62 3 (dk_29 (bt bc_Session_meetAgain_1 29 rfl)) rfl rfl ?_
    exact EJ_iret rfl (dk_172 (bt bc_Session_meetAgain_1 30 rfl))
  · refine EJ_aload_n 15 2 (dk_44 (bt bc_Session_meetAgain_0 14 rfl)) rfl rfl ?_
    refine EJ_iload_n 16 1 (dk_27 (bt bc_Session_meetAgain_0 15 rfl)) rfl rfl ?_
    refine EJ_ck (fun h2 => ?_)
    refine EJ_iald 17 h2 (dk_46 (bt bc_Session_meetAgain_0 16 rfl)) rfl ?_
    refine EJ_if_le 61 20 (dk_158 (bt bc_Session_meetAgain_0 17 rfl) (bt bc_Session_meetAgain_0 18 rfl) (bt bc_Session_meetAgain_0 19 rfl) (n := 44) rfl) (by decide) rfl (fun _ => ?_) (fun _ => ?_)
    · refine EJ_iload_n 62 3 (dk_29 (bt bc_Session_meetAgain_1 29 rfl)) rfl rfl ?_
      exact EJ_iret rfl (dk_172 (bt bc_Session_meetAgain_1 30 rfl))
    · refine EJ_aload_n 21 0 (dk_42 (bt bc_Session_meetAgain_0 20 rfl)) rfl rfl ?_
      refine EJ_iload_n 22 1 (dk_27 (bt bc_Session_meetAgain_0 21 rfl)) rfl rfl ?_
      refine EJ_aload_n 23 2 (dk_44 (bt bc_Session_meetAgain_0 22 rfl)) rfl rfl ?_
      refine EJ_callVi (Y2 := Y_Session_bestPartner) 26 cf9 (s_Session_bestPartner G _ _ _ _) (of_decide_eq_true h1) rfl (dk_182 (bt bc_Session_meetAgain_0 23 rfl) (bt bc_Session_meetAgain_0 24 rfl) (bt bc_Session_meetAgain_0 25 rfl) (n := 49) rfl) rfl tw_919 tw_921 ts_24 tw_922 hd_Session_bestPartner rfl (by decide) (Nat.le_of_ble_eq_true rfl) (fun r3 M4 => ?_)
      refine EJ_istore 28 (lv2 := [(5, .int _), (0, .ref _), (1, .int _), (2, .ref _), (3, .int _), (4, .int _)]) (dk_54 (bt bc_Session_meetAgain_0 26 rfl) (bt bc_Session_meetAgain_0 27 rfl)) rfl (by decide) rfl ?_
      refine EJ_iload 30 0 (dk_21 (bt bc_Session_meetAgain_0 28 rfl) (bt bc_Session_meetAgain_0 29 rfl)) rfl rfl ?_
      refine EJ_iconst 31 (dk_2 (bt bc_Session_meetAgain_0 30 rfl)) rfl (v := (-1)) kI_m1 ?_
      refine EJ_icmp_ne 36 34 (dk_160 (bt bc_Session_meetAgain_0 31 rfl) (bt bc_Session_meetAgain_1 0 rfl) (bt bc_Session_meetAgain_1 1 rfl) (n := 5) rfl) (by decide) rfl (fun _ => ?_) (fun _ => ?_)
      · refine EJ_iload_n 37 2 (dk_27 (bt bc_Session_meetAgain_1 4 rfl)) rfl rfl ?_
        refine EJ_iload 39 0 (dk_21 (bt bc_Session_meetAgain_1 5 rfl) (bt bc_Session_meetAgain_1 6 rfl)) rfl rfl ?_
        refine EJ_aload_n 40 3 (dk_44 (bt bc_Session_meetAgain_1 7 rfl)) rfl rfl ?_
        refine EJ_callSi (Y2 := Y_Session_strike) 43 (s_Session_strike G _ _ _ _) rfl (dk_184 (bt bc_Session_meetAgain_1 8 rfl) (bt bc_Session_meetAgain_1 9 rfl) (bt bc_Session_meetAgain_1 10 rfl) (n := 53) rfl) rfl tw_931 tw_932 tw_18 tw_933 hd_Session_strike rfl (by decide) (Nat.le_of_ble_eq_true rfl) (fun r5 M6 => ?_)
        refine EJ_pop 44 (dk_87 (bt bc_Session_meetAgain_1 11 rfl)) rfl rfl ?_
        refine EJ_aload_n 45 1 (dk_42 (bt bc_Session_meetAgain_1 12 rfl)) rfl rfl ?_
        refine EJ_ck (fun h7 => ?_)
        refine EJ_getR cf9 1 (by decide) 48 tw_830 (fun _ _ _ => rfl) (dk_180 (bt bc_Session_meetAgain_1 13 rfl) (bt bc_Session_meetAgain_1 14 rfl) (bt bc_Session_meetAgain_1 15 rfl) (n := 20) rfl) rfl (of_decide_eq_true h7) (fun b8 => ?_)
        refine EJ_iload 50 0 (dk_21 (bt bc_Session_meetAgain_1 16 rfl) (bt bc_Session_meetAgain_1 17 rfl)) rfl rfl ?_
        refine EJ_ck (fun h9 => ?_)
        refine EJ_aald 8 51 (by decide) (by decide) rfl h9 (dk_50 (bt bc_Session_meetAgain_1 18 rfl)) rfl (fun b10 => ?_)
        refine EJ_ck (fun h11 => ?_)
        refine EJ_getI cf1 3 (by decide) 54 tw_892 (fun _ _ _ => rfl) (dk_180 (bt bc_Session_meetAgain_1 19 rfl) (bt bc_Session_meetAgain_1 20 rfl) (bt bc_Session_meetAgain_1 21 rfl) (n := 80) rfl) rfl (of_decide_eq_true h11) ?_
        refine EJ_istore_n 55 (lv2 := [(3, .int _), (5, .int _), (0, .ref _), (1, .int _), (2, .ref _), (4, .int _)]) (dk_62 (bt bc_Session_meetAgain_1 22 rfl)) rfl (by decide) rfl ?_
        refine EJ_iinc 58 5 (lv2 := [(4, .int _), (3, .int _), (5, .int _), (0, .ref _), (1, .int _), (2, .ref _)]) (dk_132 (bt bc_Session_meetAgain_1 23 rfl) (bt bc_Session_meetAgain_1 24 rfl) (bt bc_Session_meetAgain_1 25 rfl) (n := 1) rfl) rfl (by decide) rfl (v := 1) kI_1 rfl ?_
        refine EJ_goto 5 (dk_167 (bt bc_Session_meetAgain_1 26 rfl) (bt bc_Session_meetAgain_1 27 rfl) (bt bc_Session_meetAgain_1 28 rfl) (n := -53) rfl) (by decide) ?_
        exact EJ_pick (lv2 := [(0, .ref _), (1, .int _), (2, .ref _), (3, .int _), (4, .int _)]) [3, 4, 5, 1, 0] rfl (hk5 _ _ _ _ _ _)
      · refine EJ_iload_n 35 4 (dk_29 (bt bc_Session_meetAgain_1 2 rfl)) rfl rfl ?_
        exact EJ_iret rfl (dk_172 (bt bc_Session_meetAgain_1 3 rfl))
def Session_meetAgain_L5 (n : Nat) : Nat → Int32 → Nat → Int32 → Int32 → Mm → Option (Int32 × Mm) :=
  match n with
  | 0 => fun _ _ _ _ _ _ => none
  | n + 1 => Session_meetAgain_B5 (Session_meetAgain_L5 n)
theorem e_Session_meetAgain_L5 {G : Gx} : ∀ (n : Nat) (x0 : Nat) (x1 : Int32) (x2 : Nat) (x3 : Int32) (x4 : Int32) (M : Mm), EJ G Y_Session_meetAgain cvI 3 5 [(0, .ref x0), (1, .int x1), (2, .ref x2), (3, .int x3), (4, .int x4)] [] M (Session_meetAgain_L5 n x0 x1 x2 x3 x4 M) := by
  intro n
  induction n with
  | zero => intros; exact EJ_none
  | succ n ih => intro x0 x1 x2 x3 x4 M; exact e_Session_meetAgain_B5 _ ih x0 x1 x2 x3 x4 M
def Session_meetAgain (M : Mm) (a0 : Nat) (a1 : Int32) (a2 : Nat) : Option (Int32 × Mm) :=
  Session_meetAgain_L5 fu a0 a1 a2 (-1) 0 M
set_option maxRecDepth 100000 in
set_option maxHeartbeats 4000000 in
theorem s_Session_meetAgain (G : Gx) (M : Mm) (a0 : Nat) (a1 : Int32) (a2 : Nat) : FnS G Y_Session_meetAgain cvI 3 [.ref a0, .int a1, .ref a2] M (Session_meetAgain M a0 a1 a2) := by
  refine FnS.ofE (by decide) (Nat.le_of_ble_eq_true rfl) ?_
  show EJ G Y_Session_meetAgain cvI 3 0 [(0, .ref a0), (1, .int a1), (2, .ref a2)] [] M _
  unfold Session_meetAgain
  refine EJ_iconst 1 (dk_2 (bt bc_Session_meetAgain_0 0 rfl)) rfl (v := (-1)) kI_m1 ?_
  refine EJ_istore_n 2 (lv2 := [(3, .int _), (0, .ref _), (1, .int _), (2, .ref _)]) (dk_62 (bt bc_Session_meetAgain_0 1 rfl)) rfl (by decide) rfl ?_
  refine EJ_iconst 3 (dk_3 (bt bc_Session_meetAgain_0 2 rfl)) rfl (v := 0) kI_0 ?_
  refine EJ_istore 5 (lv2 := [(4, .int _), (3, .int _), (0, .ref _), (1, .int _), (2, .ref _)]) (dk_54 (bt bc_Session_meetAgain_0 3 rfl) (bt bc_Session_meetAgain_0 4 rfl)) rfl (by decide) rfl ?_
  exact EJ_pick (lv2 := [(0, .ref _), (1, .int _), (2, .ref _), (3, .int _), (4, .int _)]) [2, 3, 4, 1, 0] rfl (e_Session_meetAgain_L5 fu _ _ _ _ _ _)
abbrev Y_Session_otherClose : Ym := (⟨"RiceHall$Session", "otherClose", "(II[I)I"⟩, prog_11_method_11_code, 7, (some FieldType.int))
theorem bc_Session_otherClose_0 : bts prog_11_method_11_code 0 [2, 54, 4, 3, 54, 5, 21, 5, 42, 180, 0, 43, 162, 0, 97, 42, 21, 5, 45, 182, 0, 99, 45, 21, 5, 42, 180, 0, 20, 21, 5, 50] := bts_of (by decide +kernel)
theorem bc_Session_otherClose_1 : bts prog_11_method_11_code 32 [180, 0, 80, 27, 28, 184, 0, 103, 153, 0, 16, 42, 180, 0, 20, 21, 5, 50, 180, 0, 46, 167, 0, 4, 3, 79, 42, 21, 5, 45, 182, 0] := bts_of (by decide +kernel)
theorem bc_Session_otherClose_2 : bts prog_11_method_11_code 64 [107, 54, 6, 21, 6, 2, 159, 0, 33, 42, 180, 0, 20, 21, 5, 50, 180, 0, 110, 42, 180, 0, 34, 42, 180, 0, 83, 100, 161, 0, 8, 21] := bts_of (by decide +kernel)
theorem bc_Session_otherClose_3 : bts prog_11_method_11_code 96 [6, 167, 0, 4, 2, 54, 4, 132, 5, 1, 167, 255, 156, 21, 4, 172] := bts_of (by decide +kernel)
theorem hd_Session_otherClose : Y_Session_otherClose.1.cls = RX9 ∧ Y_Session_otherClose.1.cls ≠ "java/lang/invoke/MethodHandle" ∧ Y_Session_otherClose.1.cls ≠ "java/lang/invoke/VarHandle" ∧ (parseMethodDescriptor Y_Session_otherClose.1.desc).map (fun d => d.parameters.length) = some 3 := by decide +kernel
def Session_otherClose_J103 (k6 : Nat → Int32 → Int32 → Nat → Int32 → Int32 → Mm → Option (Int32 × Mm)) (x0 : Nat) (x1 : Int32) (x2 : Int32) (x3 : Nat) (x4 : Int32) (x5 : Int32) (M : Mm) : Option (Int32 × Mm) :=
  let v16 : Int32 := x5 + 1
  k6 x0 x1 x2 x3 x4 v16 M
set_option maxRecDepth 100000 in
set_option maxHeartbeats 4000000 in
theorem e_Session_otherClose_J103 {G : Gx} (k6 : Nat → Int32 → Int32 → Nat → Int32 → Int32 → Mm → Option (Int32 × Mm)) (hk6 : ∀ (x0 : Nat) (x1 : Int32) (x2 : Int32) (x3 : Nat) (x4 : Int32) (x5 : Int32) (M : Mm), EJ G Y_Session_otherClose cvI 4 6 [(0, .ref x0), (1, .int x1), (2, .int x2), (3, .ref x3), (4, .int x4), (5, .int x5)] [] M (k6 x0 x1 x2 x3 x4 x5 M)) (x0 : Nat) (x1 : Int32) (x2 : Int32) (x3 : Nat) (x4 : Int32) (x5 : Int32) (M : Mm) : EJ G Y_Session_otherClose cvI 4 103 [(0, .ref x0), (1, .int x1), (2, .int x2), (3, .ref x3), (4, .int x4), (5, .int x5)] [] M (Session_otherClose_J103 k6 x0 x1 x2 x3 x4 x5 M) := by
  unfold Session_otherClose_J103
  refine EJ_iinc 106 5 (lv2 := [(5, .int _), (0, .ref _), (1, .int _), (2, .int _), (3, .ref _), (4, .int _)]) (dk_132 (bt bc_Session_otherClose_3 7 rfl) (bt bc_Session_otherClose_3 8 rfl) (bt bc_Session_otherClose_3 9 rfl) (n := 1) rfl) rfl (by decide) rfl (v := 1) kI_1 rfl ?_
  refine EJ_goto 6 (dk_167 (bt bc_Session_otherClose_3 10 rfl) (bt bc_Session_otherClose_3 11 rfl) (bt bc_Session_otherClose_3 12 rfl) (n := -100) rfl) (by decide) ?_
  exact EJ_pick (lv2 := [(0, .ref _), (1, .int _), (2, .int _), (3, .ref _), (4, .int _), (5, .int _)]) [1, 2, 3, 4, 5, 0] rfl (hk6 _ _ _ _ _ _ _)
def Session_otherClose_J101 (k6 : Nat → Int32 → Int32 → Nat → Int32 → Int32 → Mm → Option (Int32 × Mm)) (x0 : Nat) (x1 : Int32) (x2 : Int32) (x3 : Nat) (x5 : Int32) (s0 : Int32) (M : Mm) : Option (Int32 × Mm) :=
  Session_otherClose_J103 k6 x0 x1 x2 x3 s0 x5 M
set_option maxRecDepth 100000 in
set_option maxHeartbeats 4000000 in
theorem e_Session_otherClose_J101 {G : Gx} (k6 : Nat → Int32 → Int32 → Nat → Int32 → Int32 → Mm → Option (Int32 × Mm)) (hk6 : ∀ (x0 : Nat) (x1 : Int32) (x2 : Int32) (x3 : Nat) (x4 : Int32) (x5 : Int32) (M : Mm), EJ G Y_Session_otherClose cvI 4 6 [(0, .ref x0), (1, .int x1), (2, .int x2), (3, .ref x3), (4, .int x4), (5, .int x5)] [] M (k6 x0 x1 x2 x3 x4 x5 M)) (x0 : Nat) (x1 : Int32) (x2 : Int32) (x3 : Nat) (x5 : Int32) (s0 : Int32) (M : Mm) : EJ G Y_Session_otherClose cvI 4 101 [(0, .ref x0), (1, .int x1), (2, .int x2), (3, .ref x3), (5, .int x5)] [.int s0] M (Session_otherClose_J101 k6 x0 x1 x2 x3 x5 s0 M) := by
  unfold Session_otherClose_J101
  refine EJ_istore 103 (lv2 := [(4, .int _), (0, .ref _), (1, .int _), (2, .int _), (3, .ref _), (5, .int _)]) (dk_54 (bt bc_Session_otherClose_3 5 rfl) (bt bc_Session_otherClose_3 6 rfl)) rfl (by decide) rfl ?_
  exact EJ_pick (lv2 := [(0, .ref _), (1, .int _), (2, .int _), (3, .ref _), (4, .int _), (5, .int _)]) [1, 2, 3, 4, 0, 5] rfl (e_Session_otherClose_J103 k6 hk6 _ _ _ _ _ _ _)
def Session_otherClose_J57 (k6 : Nat → Int32 → Int32 → Nat → Int32 → Int32 → Mm → Option (Int32 × Mm)) (x0 : Nat) (x1 : Int32) (x2 : Int32) (x3 : Nat) (x4 : Int32) (x5 : Int32) (s0 : Int32) (s1 : Int32) (s2 : Nat) (M : Mm) : Option (Int32 × Mm) :=
  ck (kA M s2 20 s1) (
  let M12 := sI M s2 (ix s1) s0
  ck (kO M12 x0 9 11) (
  bd (Session_meetAgain M12 x0 x5 x3) (fun r14 M15 =>
  if r14 = (-1) then (
    Session_otherClose_J103 k6 x0 x1 x2 x3 x4 x5 M15)
  else (
    ck (kO M15 x0 9 11) (
    nn (mR M15 x0 1) (fun b18 =>
    ck (kA M15 b18 28 x5) (
    nn (mR M15 b18 (ix x5)) (fun b20 =>
    ck (kO M15 b20 1 6) (
    if (mI M15 b20 4) < ((mI M15 x0 8) - (mI M15 x0 10)) then (
      Session_otherClose_J101 k6 x0 x1 x2 x3 x5 (-1) M15)
    else (
      Session_otherClose_J101 k6 x0 x1 x2 x3 x5 r14 M15))))))))))
set_option maxRecDepth 100000 in
set_option maxHeartbeats 4000000 in
theorem e_Session_otherClose_J57 {G : Gx} (k6 : Nat → Int32 → Int32 → Nat → Int32 → Int32 → Mm → Option (Int32 × Mm)) (hk6 : ∀ (x0 : Nat) (x1 : Int32) (x2 : Int32) (x3 : Nat) (x4 : Int32) (x5 : Int32) (M : Mm), EJ G Y_Session_otherClose cvI 4 6 [(0, .ref x0), (1, .int x1), (2, .int x2), (3, .ref x3), (4, .int x4), (5, .int x5)] [] M (k6 x0 x1 x2 x3 x4 x5 M)) (x0 : Nat) (x1 : Int32) (x2 : Int32) (x3 : Nat) (x4 : Int32) (x5 : Int32) (s0 : Int32) (s1 : Int32) (s2 : Nat) (M : Mm) : EJ G Y_Session_otherClose cvI 4 57 [(0, .ref x0), (1, .int x1), (2, .int x2), (3, .ref x3), (4, .int x4), (5, .int x5)] [.int s0, .int s1, .ref s2] M (Session_otherClose_J57 k6 x0 x1 x2 x3 x4 x5 s0 s1 s2 M) := by
  unfold Session_otherClose_J57
  refine EJ_ck (fun h11 => ?_)
  refine EJ_iast 58 h11 (dk_79 (bt bc_Session_otherClose_1 25 rfl)) rfl ?_
  refine EJ_aload_n 59 0 (dk_42 (bt bc_Session_otherClose_1 26 rfl)) rfl rfl ?_
  refine EJ_iload 61 5 (dk_21 (bt bc_Session_otherClose_1 27 rfl) (bt bc_Session_otherClose_1 28 rfl)) rfl rfl ?_
  refine EJ_aload_n 62 3 (dk_45 (bt bc_Session_otherClose_1 29 rfl)) rfl rfl ?_
  refine EJ_ck (fun h13 => ?_)
  refine EJ_callVi (Y2 := Y_Session_meetAgain) 65 cf9 (s_Session_meetAgain G _ _ _ _) (of_decide_eq_true h13) rfl (dk_182 (bt bc_Session_otherClose_1 30 rfl) (bt bc_Session_otherClose_1 31 rfl) (bt bc_Session_otherClose_2 0 rfl) (n := 107) rfl) rfl tw_1160 tw_1162 ts_35 tw_1163 hd_Session_meetAgain rfl (by decide) (Nat.le_of_ble_eq_true rfl) (fun r14 M15 => ?_)
  refine EJ_istore 67 (lv2 := [(6, .int _), (0, .ref _), (1, .int _), (2, .int _), (3, .ref _), (4, .int _), (5, .int _)]) (dk_54 (bt bc_Session_otherClose_2 1 rfl) (bt bc_Session_otherClose_2 2 rfl)) rfl (by decide) rfl ?_
  refine EJ_iload 69 0 (dk_21 (bt bc_Session_otherClose_2 3 rfl) (bt bc_Session_otherClose_2 4 rfl)) rfl rfl ?_
  refine EJ_iconst 70 (dk_2 (bt bc_Session_otherClose_2 5 rfl)) rfl (v := (-1)) kI_m1 ?_
  refine EJ_icmp_eq 103 73 (dk_159 (bt bc_Session_otherClose_2 6 rfl) (bt bc_Session_otherClose_2 7 rfl) (bt bc_Session_otherClose_2 8 rfl) (n := 33) rfl) (by decide) rfl (fun _ => ?_) (fun _ => ?_)
  · exact EJ_pick (lv2 := [(0, .ref _), (1, .int _), (2, .int _), (3, .ref _), (4, .int _), (5, .int _)]) [1, 2, 3, 4, 5, 6] rfl (e_Session_otherClose_J103 k6 hk6 _ _ _ _ _ _ _)
  · refine EJ_aload_n 74 1 (dk_42 (bt bc_Session_otherClose_2 9 rfl)) rfl rfl ?_
    refine EJ_ck (fun h17 => ?_)
    refine EJ_getR cf9 1 (by decide) 77 tw_830 (fun _ _ _ => rfl) (dk_180 (bt bc_Session_otherClose_2 10 rfl) (bt bc_Session_otherClose_2 11 rfl) (bt bc_Session_otherClose_2 12 rfl) (n := 20) rfl) rfl (of_decide_eq_true h17) (fun b18 => ?_)
    refine EJ_iload 79 6 (dk_21 (bt bc_Session_otherClose_2 13 rfl) (bt bc_Session_otherClose_2 14 rfl)) rfl rfl ?_
    refine EJ_ck (fun h19 => ?_)
    refine EJ_aald 8 80 (by decide) (by decide) rfl h19 (dk_50 (bt bc_Session_otherClose_2 15 rfl)) rfl (fun b20 => ?_)
    refine EJ_ck (fun h21 => ?_)
    refine EJ_getI cf1 4 (by decide) 83 tw_895 (fun _ _ _ => rfl) (dk_180 (bt bc_Session_otherClose_2 16 rfl) (bt bc_Session_otherClose_2 17 rfl) (bt bc_Session_otherClose_2 18 rfl) (n := 110) rfl) rfl (of_decide_eq_true h21) ?_
    refine EJ_aload_n 84 1 (dk_42 (bt bc_Session_otherClose_2 19 rfl)) rfl rfl ?_
    refine EJ_getI cf9 8 (by decide) 87 tw_844 (fun _ _ _ => rfl) (dk_180 (bt bc_Session_otherClose_2 20 rfl) (bt bc_Session_otherClose_2 21 rfl) (bt bc_Session_otherClose_2 22 rfl) (n := 34) rfl) rfl (of_decide_eq_true h17) ?_
    refine EJ_aload_n 88 1 (dk_42 (bt bc_Session_otherClose_2 23 rfl)) rfl rfl ?_
    refine EJ_getI cf9 10 (by decide) 91 tw_849 (fun _ _ _ => rfl) (dk_180 (bt bc_Session_otherClose_2 24 rfl) (bt bc_Session_otherClose_2 25 rfl) (bt bc_Session_otherClose_2 26 rfl) (n := 83) rfl) rfl (of_decide_eq_true h17) ?_
    refine EJ_isub 92 (dk_100 (bt bc_Session_otherClose_2 27 rfl)) rfl ?_
    refine EJ_icmp_lt 100 95 (dk_161 (bt bc_Session_otherClose_2 28 rfl) (bt bc_Session_otherClose_2 29 rfl) (bt bc_Session_otherClose_2 30 rfl) (n := 8) rfl) (by decide) rfl (fun _ => ?_) (fun _ => ?_)
    · refine EJ_iconst 101 (dk_2 (bt bc_Session_otherClose_3 4 rfl)) rfl (v := (-1)) kI_m1 ?_
      exact EJ_pick (lv2 := [(0, .ref _), (1, .int _), (2, .int _), (3, .ref _), (5, .int _)]) [1, 2, 3, 4, 6] rfl (e_Session_otherClose_J101 k6 hk6 _ _ _ _ _ _ _)
    · refine EJ_iload 97 0 (dk_21 (bt bc_Session_otherClose_2 31 rfl) (bt bc_Session_otherClose_3 0 rfl)) rfl rfl ?_
      refine EJ_goto 101 (dk_167 (bt bc_Session_otherClose_3 1 rfl) (bt bc_Session_otherClose_3 2 rfl) (bt bc_Session_otherClose_3 3 rfl) (n := 4) rfl) (by decide) ?_
      exact EJ_pick (lv2 := [(0, .ref _), (1, .int _), (2, .int _), (3, .ref _), (5, .int _)]) [1, 2, 3, 4, 6] rfl (e_Session_otherClose_J101 k6 hk6 _ _ _ _ _ _ _)
def Session_otherClose_B6 (k6 : Nat → Int32 → Int32 → Nat → Int32 → Int32 → Mm → Option (Int32 × Mm)) (x0 : Nat) (x1 : Int32) (x2 : Int32) (x3 : Nat) (x4 : Int32) (x5 : Int32) (M : Mm) : Option (Int32 × Mm) :=
  ck (kO M x0 9 11) (
  if (mI M x0 4) ≤ x5 then (
    some (x4, M))
  else (
    bd (Session_dropTakenBack M x0 x5 x3) (fun _ M3 =>
    ck (kO M3 x0 9 11) (
    nn (mR M3 x0 1) (fun b5 =>
    ck (kA M3 b5 28 x5) (
    nn (mR M3 b5 (ix x5)) (fun b7 =>
    ck (kO M3 b7 1 6) (
    bd (Hall_isWithin M3 (mI M3 b7 3) x1 x2) (fun r9 M10 =>
    if r9 = 0 then (
      Session_otherClose_J57 k6 x0 x1 x2 x3 x4 x5 0 x5 x3 M10)
    else (
      ck (kO M10 x0 9 11) (
      nn (mR M10 x0 1) (fun b23 =>
      ck (kA M10 b23 28 x5) (
      nn (mR M10 b23 (ix x5)) (fun b25 =>
      ck (kO M10 b25 1 6) (
      Session_otherClose_J57 k6 x0 x1 x2 x3 x4 x5 (mI M10 b25 2) x5 x3 M10)))))))))))))))
set_option maxRecDepth 100000 in
set_option maxHeartbeats 4000000 in
theorem e_Session_otherClose_B6 {G : Gx} (k6 : Nat → Int32 → Int32 → Nat → Int32 → Int32 → Mm → Option (Int32 × Mm)) (hk6 : ∀ (x0 : Nat) (x1 : Int32) (x2 : Int32) (x3 : Nat) (x4 : Int32) (x5 : Int32) (M : Mm), EJ G Y_Session_otherClose cvI 4 6 [(0, .ref x0), (1, .int x1), (2, .int x2), (3, .ref x3), (4, .int x4), (5, .int x5)] [] M (k6 x0 x1 x2 x3 x4 x5 M)) (x0 : Nat) (x1 : Int32) (x2 : Int32) (x3 : Nat) (x4 : Int32) (x5 : Int32) (M : Mm) : EJ G Y_Session_otherClose cvI 4 6 [(0, .ref x0), (1, .int x1), (2, .int x2), (3, .ref x3), (4, .int x4), (5, .int x5)] [] M (Session_otherClose_B6 k6 x0 x1 x2 x3 x4 x5 M) := by
  unfold Session_otherClose_B6
  refine EJ_iload 8 5 (dk_21 (bt bc_Session_otherClose_0 6 rfl) (bt bc_Session_otherClose_0 7 rfl)) rfl rfl ?_
  refine EJ_aload_n 9 0 (dk_42 (bt bc_Session_otherClose_0 8 rfl)) rfl rfl ?_
  refine EJ_ck (fun h1 => ?_)
  refine EJ_getI cf9 4 (by decide) 12 tw_835 (fun _ _ _ => rfl) (dk_180 (bt bc_Session_otherClose_0 9 rfl) (bt bc_Session_otherClose_0 10 rfl) (bt bc_Session_otherClose_0 11 rfl) (n := 43) rfl) rfl (of_decide_eq_true h1) ?_
  refine EJ_icmp_ge 109 15 (dk_162 (bt bc_Session_otherClose_0 12 rfl) (bt bc_Session_otherClose_0 13 rfl) (bt bc_Session_otherClose_0 14 rfl) (n := 97) rfl) (by decide) rfl (fun _ => ?_) (fun _ => ?_)
  · refine EJ_iload 111 4 (dk_21 (bt bc_Session_otherClose_3 13 rfl) (bt bc_Session_otherClose_3 14 rfl)) rfl rfl ?_
    exact EJ_iret rfl (dk_172 (bt bc_Session_otherClose_3 15 rfl))
  · refine EJ_aload_n 16 0 (dk_42 (bt bc_Session_otherClose_0 15 rfl)) rfl rfl ?_
    refine EJ_iload 18 5 (dk_21 (bt bc_Session_otherClose_0 16 rfl) (bt bc_Session_otherClose_0 17 rfl)) rfl rfl ?_
    refine EJ_aload_n 19 3 (dk_45 (bt bc_Session_otherClose_0 18 rfl)) rfl rfl ?_
    refine EJ_callVv (Y2 := Y_Session_dropTakenBack) 22 cf9 (s_Session_dropTakenBack G _ _ _ _) (of_decide_eq_true h1) rfl (dk_182 (bt bc_Session_otherClose_0 19 rfl) (bt bc_Session_otherClose_0 20 rfl) (bt bc_Session_otherClose_0 21 rfl) (n := 99) rfl) rfl tw_1155 tw_1157 ts_34 tw_1158 hd_Session_dropTakenBack rfl (by decide) (Nat.le_of_ble_eq_true rfl) (fun _ M3 => ?_)
    refine EJ_aload_n 23 3 (dk_45 (bt bc_Session_otherClose_0 22 rfl)) rfl rfl ?_
    refine EJ_iload 25 5 (dk_21 (bt bc_Session_otherClose_0 23 rfl) (bt bc_Session_otherClose_0 24 rfl)) rfl rfl ?_
    refine EJ_aload_n 26 0 (dk_42 (bt bc_Session_otherClose_0 25 rfl)) rfl rfl ?_
    refine EJ_ck (fun h4 => ?_)
    refine EJ_getR cf9 1 (by decide) 29 tw_830 (fun _ _ _ => rfl) (dk_180 (bt bc_Session_otherClose_0 26 rfl) (bt bc_Session_otherClose_0 27 rfl) (bt bc_Session_otherClose_0 28 rfl) (n := 20) rfl) rfl (of_decide_eq_true h4) (fun b5 => ?_)
    refine EJ_iload 31 5 (dk_21 (bt bc_Session_otherClose_0 29 rfl) (bt bc_Session_otherClose_0 30 rfl)) rfl rfl ?_
    refine EJ_ck (fun h6 => ?_)
    refine EJ_aald 8 32 (by decide) (by decide) rfl h6 (dk_50 (bt bc_Session_otherClose_0 31 rfl)) rfl (fun b7 => ?_)
    refine EJ_ck (fun h8 => ?_)
    refine EJ_getI cf1 3 (by decide) 35 tw_892 (fun _ _ _ => rfl) (dk_180 (bt bc_Session_otherClose_1 0 rfl) (bt bc_Session_otherClose_1 1 rfl) (bt bc_Session_otherClose_1 2 rfl) (n := 80) rfl) rfl (of_decide_eq_true h8) ?_
    refine EJ_iload_n 36 1 (dk_27 (bt bc_Session_otherClose_1 3 rfl)) rfl rfl ?_
    refine EJ_iload_n 37 2 (dk_28 (bt bc_Session_otherClose_1 4 rfl)) rfl rfl ?_
    refine EJ_callNi (Y2 := Y_Hall_isWithin) 40 (s_Hall_isWithin G _ _ _ _) rfl (dk_184 (bt bc_Session_otherClose_1 5 rfl) (bt bc_Session_otherClose_1 6 rfl) (bt bc_Session_otherClose_1 7 rfl) (n := 103) rfl) rfl (fun _ h => h.2.2.2.2.2.2.2.2.2.1) tw_276 tw_1 tw_277 hd_Hall_isWithin rfl (by decide) (Nat.le_of_ble_eq_true rfl) (fun r9 M10 => ?_)
    refine EJ_if_eq 56 43 (dk_153 (bt bc_Session_otherClose_1 8 rfl) (bt bc_Session_otherClose_1 9 rfl) (bt bc_Session_otherClose_1 10 rfl) (n := 16) rfl) (by decide) rfl (fun _ => ?_) (fun _ => ?_)
    · refine EJ_iconst 57 (dk_3 (bt bc_Session_otherClose_1 24 rfl)) rfl (v := 0) kI_0 ?_
      exact EJ_pick (lv2 := [(0, .ref _), (1, .int _), (2, .int _), (3, .ref _), (4, .int _), (5, .int _)]) [0, 1, 2, 3, 4, 5] rfl (e_Session_otherClose_J57 k6 hk6 _ _ _ _ _ _ _ _ _ _)
    · refine EJ_aload_n 44 0 (dk_42 (bt bc_Session_otherClose_1 11 rfl)) rfl rfl ?_
      refine EJ_ck (fun h22 => ?_)
      refine EJ_getR cf9 1 (by decide) 47 tw_830 (fun _ _ _ => rfl) (dk_180 (bt bc_Session_otherClose_1 12 rfl) (bt bc_Session_otherClose_1 13 rfl) (bt bc_Session_otherClose_1 14 rfl) (n := 20) rfl) rfl (of_decide_eq_true h22) (fun b23 => ?_)
      refine EJ_iload 49 5 (dk_21 (bt bc_Session_otherClose_1 15 rfl) (bt bc_Session_otherClose_1 16 rfl)) rfl rfl ?_
      refine EJ_ck (fun h24 => ?_)
      refine EJ_aald 8 50 (by decide) (by decide) rfl h24 (dk_50 (bt bc_Session_otherClose_1 17 rfl)) rfl (fun b25 => ?_)
      refine EJ_ck (fun h26 => ?_)
      refine EJ_getI cf1 2 (by decide) 53 tw_889 (fun _ _ _ => rfl) (dk_180 (bt bc_Session_otherClose_1 18 rfl) (bt bc_Session_otherClose_1 19 rfl) (bt bc_Session_otherClose_1 20 rfl) (n := 46) rfl) rfl (of_decide_eq_true h26) ?_
      refine EJ_goto 57 (dk_167 (bt bc_Session_otherClose_1 21 rfl) (bt bc_Session_otherClose_1 22 rfl) (bt bc_Session_otherClose_1 23 rfl) (n := 4) rfl) (by decide) ?_
      exact EJ_pick (lv2 := [(0, .ref _), (1, .int _), (2, .int _), (3, .ref _), (4, .int _), (5, .int _)]) [0, 1, 2, 3, 4, 5] rfl (e_Session_otherClose_J57 k6 hk6 _ _ _ _ _ _ _ _ _ _)
def Session_otherClose_L6 (n : Nat) : Nat → Int32 → Int32 → Nat → Int32 → Int32 → Mm → Option (Int32 × Mm) :=
  match n with
  | 0 => fun _ _ _ _ _ _ _ => none
  | n + 1 => Session_otherClose_B6 (Session_otherClose_L6 n)
theorem e_Session_otherClose_L6 {G : Gx} : ∀ (n : Nat) (x0 : Nat) (x1 : Int32) (x2 : Int32) (x3 : Nat) (x4 : Int32) (x5 : Int32) (M : Mm), EJ G Y_Session_otherClose cvI 4 6 [(0, .ref x0), (1, .int x1), (2, .int x2), (3, .ref x3), (4, .int x4), (5, .int x5)] [] M (Session_otherClose_L6 n x0 x1 x2 x3 x4 x5 M) := by
  intro n
  induction n with
  | zero => intros; exact EJ_none
  | succ n ih => intro x0 x1 x2 x3 x4 x5 M; exact e_Session_otherClose_B6 _ ih x0 x1 x2 x3 x4 x5 M
def Session_otherClose (M : Mm) (a0 : Nat) (a1 : Int32) (a2 : Int32) (a3 : Nat) : Option (Int32 × Mm) :=
  Session_otherClose_L6 fu a0 a1 a2 a3 (-1) 0 M
set_option maxRecDepth 100000 in
set_option maxHeartbeats 4000000 in
theorem s_Session_otherClose (G : Gx) (M : Mm) (a0 : Nat) (a1 : Int32) (a2 : Int32) (a3 : Nat) : FnS G Y_Session_otherClose cvI 4 [.ref a0, .int a1, .int a2, .ref a3] M (Session_otherClose M a0 a1 a2 a3) := by
  refine FnS.ofE (by decide) (Nat.le_of_ble_eq_true rfl) ?_
  show EJ G Y_Session_otherClose cvI 4 0 [(0, .ref a0), (1, .int a1), (2, .int a2), (3, .ref a3)] [] M _
  unfold Session_otherClose
  refine EJ_iconst 1 (dk_2 (bt bc_Session_otherClose_0 0 rfl)) rfl (v := (-1)) kI_m1 ?_
  refine EJ_istore 3 (lv2 := [(4, .int _), (0, .ref _), (1, .int _), (2, .int _), (3, .ref _)]) (dk_54 (bt bc_Session_otherClose_0 1 rfl) (bt bc_Session_otherClose_0 2 rfl)) rfl (by decide) rfl ?_
  refine EJ_iconst 4 (dk_3 (bt bc_Session_otherClose_0 3 rfl)) rfl (v := 0) kI_0 ?_
  refine EJ_istore 6 (lv2 := [(5, .int _), (4, .int _), (0, .ref _), (1, .int _), (2, .int _), (3, .ref _)]) (dk_54 (bt bc_Session_otherClose_0 4 rfl) (bt bc_Session_otherClose_0 5 rfl)) rfl (by decide) rfl ?_
  exact EJ_pick (lv2 := [(0, .ref _), (1, .int _), (2, .int _), (3, .ref _), (4, .int _), (5, .int _)]) [2, 3, 4, 5, 1, 0] rfl (e_Session_otherClose_L6 fu _ _ _ _ _ _ _)
abbrev Y_Hall_new : Ym := (⟨"RiceHall", "<init>", "()V"⟩, prog_1_method_1_code, 1, none)
theorem bc_Hall_new_0 : bts prog_1_method_1_code 0 [42, 183, 0, 1, 42, 187, 0, 7, 89, 183, 0, 9, 181, 0, 10, 42, 16, 16, 189, 0, 16, 181, 0, 18, 42, 7, 189, 0, 22, 181, 0, 24] := bts_of (by decide +kernel)
theorem bc_Hall_new_1 : bts prog_1_method_1_code 32 [42, 17, 1, 244, 188, 8, 181, 0, 28, 42, 187, 0, 32, 89, 183, 0, 34, 181, 0, 35, 42, 187, 0, 39, 89, 183, 0, 41, 181, 0, 42, 42] := bts_of (by decide +kernel)
theorem bc_Hall_new_2 : bts prog_1_method_1_code 64 [187, 0, 46, 89, 183, 0, 48, 181, 0, 49, 42, 16, 24, 189, 0, 53, 181, 0, 55, 42, 16, 60, 188, 10, 181, 0, 59, 177] := bts_of (by decide +kernel)
theorem hd_Hall_new : Y_Hall_new.1.cls ≠ "java/lang/invoke/MethodHandle" ∧ Y_Hall_new.1.cls ≠ "java/lang/invoke/VarHandle" ∧ (parseMethodDescriptor Y_Hall_new.1.desc).map (fun d => d.parameters.length) = some 0 := by decide +kernel
def Hall_new (M : Mm) (a0 : Nat) : Option (Unit × Mm) :=
  let M1 := nw M 4 7
  bd (Land_new M1 (mZ M)) (fun _ M3 =>
  ck (kO M3 a0 11 18) (
  let M5 := sR M3 a0 0 (some (mZ M))
  let M6 := nw M5 24 16
  ck (kO M6 a0 11 18) (
  let M8 := sR M6 a0 1 (some (mZ M5))
  let M9 := nw M8 25 4
  ck (kO M9 a0 11 18) (
  let M11 := sR M9 a0 3 (some (mZ M8))
  let M12 := nw M11 21 500
  ck (kO M12 a0 11 18) (
  let M14 := sR M12 a0 7 (some (mZ M11))
  let M15 := nw M14 5 5
  bd (Law_new M15 (mZ M14)) (fun _ M17 =>
  ck (kO M17 a0 11 18) (
  let M19 := sR M17 a0 9 (some (mZ M14))
  let M20 := nw M19 3 7
  bd (House_new M20 (mZ M19)) (fun _ M22 =>
  ck (kO M22 a0 11 18) (
  let M24 := sR M22 a0 10 (some (mZ M19))
  let M25 := nw M24 7 5
  bd (Ruin_new M25 (mZ M24)) (fun _ M27 =>
  ck (kO M27 a0 11 18) (
  let M29 := sR M27 a0 11 (some (mZ M24))
  let M30 := nw M29 26 24
  ck (kO M30 a0 11 18) (
  let M32 := sR M30 a0 12 (some (mZ M29))
  let M33 := nw M32 20 60
  ck (kO M33 a0 11 18) (
  let M35 := sR M33 a0 15 (some (mZ M32))
  some ((), M35))))))))))))))
set_option maxRecDepth 100000 in
set_option maxHeartbeats 4000000 in
theorem s_Hall_new (G : Gx) (M : Mm) (a0 : Nat) : FnS G Y_Hall_new cvV 3 [.ref a0] M (Hall_new M a0) := by
  refine FnS.ofE (by decide) (Nat.le_of_ble_eq_true rfl) ?_
  show EJ G Y_Hall_new cvV 3 0 [(0, .ref a0)] [] M _
  unfold Hall_new
  refine EJ_aload_n 1 0 (dk_42 (bt bc_Hall_new_0 0 rfl)) rfl rfl ?_
  refine EJ_obj 4 (dk_183 (bt bc_Hall_new_0 1 rfl) (bt bc_Hall_new_0 2 rfl) (bt bc_Hall_new_0 3 rfl) (n := 1) rfl) rfl tw_26 tw_27 tw_28 (by decide) (Nat.le_of_ble_eq_true rfl) ?_
  refine EJ_aload_n 5 0 (dk_42 (bt bc_Hall_new_0 4 rfl)) rfl rfl ?_
  refine EJ_new cf4 8 tw_29 (dk_187 (bt bc_Hall_new_0 5 rfl) (bt bc_Hall_new_0 6 rfl) (bt bc_Hall_new_0 7 rfl) (n := 7) rfl) rfl ?_
  refine EJ_dup 9 (dk_89 (bt bc_Hall_new_0 8 rfl)) rfl rfl ?_
  refine EJ_callIv (Y2 := Y_Land_new) 12 (s_Land_new G _ _) rfl (dk_183 (bt bc_Hall_new_0 9 rfl) (bt bc_Hall_new_0 10 rfl) (bt bc_Hall_new_0 11 rfl) (n := 9) rfl) rfl rfl tw_31 tw_32 tw_2 tw_33 rfl hd_Land_new rfl (by decide) (Nat.le_of_ble_eq_true rfl) (fun _ M3 => ?_)
  refine EJ_ck (fun h4 => ?_)
  refine EJ_putR cf11 0 (by decide) 15 tw_200 (fun _ _ _ => rfl) (fun _ => rfl) (fun _ => rfl) (Or.inr ⟨rfl, rfl⟩) (dk_181 (bt bc_Hall_new_0 12 rfl) (bt bc_Hall_new_0 13 rfl) (bt bc_Hall_new_0 14 rfl) (n := 10) rfl) rfl (of_decide_eq_true h4) ?_
  refine EJ_aload_n 16 0 (dk_42 (bt bc_Hall_new_0 15 rfl)) rfl rfl ?_
  refine EJ_bipush 18 (dk_16 (bt bc_Hall_new_0 16 rfl) (bt bc_Hall_new_0 17 rfl) (n := 16) rfl) rfl (v := 16) kB_16 ?_
  refine EJ_newq' 4 21 (c := 24) (N := 16) (by decide) (by decide) rfl tw_63 (fun _ h => h.2.2.1) rfl (by decide) (by decide) (dk_189 (bt bc_Hall_new_0 18 rfl) (bt bc_Hall_new_0 19 rfl) (bt bc_Hall_new_0 20 rfl) (n := 16) rfl) rfl ?_
  refine EJ_ck (fun h7 => ?_)
  refine EJ_putR cf11 1 (by decide) 24 tw_201 (fun _ _ _ => rfl) (fun _ => rfl) (fun _ => rfl) (Or.inr ⟨rfl, rfl⟩) (dk_181 (bt bc_Hall_new_0 21 rfl) (bt bc_Hall_new_0 22 rfl) (bt bc_Hall_new_0 23 rfl) (n := 18) rfl) rfl (of_decide_eq_true h7) ?_
  refine EJ_aload_n 25 0 (dk_42 (bt bc_Hall_new_0 24 rfl)) rfl rfl ?_
  refine EJ_iconst 26 (dk_7 (bt bc_Hall_new_0 25 rfl)) rfl (v := 4) kI_4 ?_
  refine EJ_newq' 5 29 (c := 25) (N := 4) (by decide) (by decide) rfl tw_65 (fun _ h => h.2.2.2.1) rfl (by decide) (by decide) (dk_189 (bt bc_Hall_new_0 26 rfl) (bt bc_Hall_new_0 27 rfl) (bt bc_Hall_new_0 28 rfl) (n := 22) rfl) rfl ?_
  refine EJ_ck (fun h10 => ?_)
  refine EJ_putR cf11 3 (by decide) 32 tw_203 (fun _ _ _ => rfl) (fun _ => rfl) (fun _ => rfl) (Or.inr ⟨rfl, rfl⟩) (dk_181 (bt bc_Hall_new_0 29 rfl) (bt bc_Hall_new_0 30 rfl) (bt bc_Hall_new_0 31 rfl) (n := 24) rfl) rfl (of_decide_eq_true h10) ?_
  refine EJ_aload_n 33 0 (dk_42 (bt bc_Hall_new_1 0 rfl)) rfl rfl ?_
  refine EJ_sipush 36 (dk_17 (bt bc_Hall_new_1 1 rfl) (bt bc_Hall_new_1 2 rfl) (bt bc_Hall_new_1 3 rfl) (n := 500) rfl) rfl (v := 500) kS_500 ?_
  refine EJ_newa' 1 38 (c := 21) (N := 500) (by decide) rfl tw_119 rfl (by decide) (by decide) (dk_188_8 (bt bc_Hall_new_1 4 rfl) (bt bc_Hall_new_1 5 rfl)) rfl ?_
  refine EJ_ck (fun h13 => ?_)
  refine EJ_putR cf11 7 (by decide) 41 tw_207 (fun _ _ _ => rfl) (fun _ => rfl) (fun _ => rfl) (Or.inr ⟨rfl, rfl⟩) (dk_181 (bt bc_Hall_new_1 6 rfl) (bt bc_Hall_new_1 7 rfl) (bt bc_Hall_new_1 8 rfl) (n := 28) rfl) rfl (of_decide_eq_true h13) ?_
  refine EJ_aload_n 42 0 (dk_42 (bt bc_Hall_new_1 9 rfl)) rfl rfl ?_
  refine EJ_new cf5 45 tw_67 (dk_187 (bt bc_Hall_new_1 10 rfl) (bt bc_Hall_new_1 11 rfl) (bt bc_Hall_new_1 12 rfl) (n := 32) rfl) rfl ?_
  refine EJ_dup 46 (dk_89 (bt bc_Hall_new_1 13 rfl)) rfl rfl ?_
  refine EJ_callIv (Y2 := Y_Law_new) 49 (s_Law_new G _ _) rfl (dk_183 (bt bc_Hall_new_1 14 rfl) (bt bc_Hall_new_1 15 rfl) (bt bc_Hall_new_1 16 rfl) (n := 34) rfl) rfl rfl tw_69 tw_70 tw_4 tw_71 rfl hd_Law_new rfl (by decide) (Nat.le_of_ble_eq_true rfl) (fun _ M17 => ?_)
  refine EJ_ck (fun h18 => ?_)
  refine EJ_putR cf11 9 (by decide) 52 tw_209 (fun _ _ _ => rfl) (fun _ => rfl) (fun _ => rfl) (Or.inr ⟨rfl, rfl⟩) (dk_181 (bt bc_Hall_new_1 17 rfl) (bt bc_Hall_new_1 18 rfl) (bt bc_Hall_new_1 19 rfl) (n := 35) rfl) rfl (of_decide_eq_true h18) ?_
  refine EJ_aload_n 53 0 (dk_42 (bt bc_Hall_new_1 20 rfl)) rfl rfl ?_
  refine EJ_new cf3 56 tw_140 (dk_187 (bt bc_Hall_new_1 21 rfl) (bt bc_Hall_new_1 22 rfl) (bt bc_Hall_new_1 23 rfl) (n := 39) rfl) rfl ?_
  refine EJ_dup 57 (dk_89 (bt bc_Hall_new_1 24 rfl)) rfl rfl ?_
  refine EJ_callIv (Y2 := Y_House_new) 60 (s_House_new G _ _) rfl (dk_183 (bt bc_Hall_new_1 25 rfl) (bt bc_Hall_new_1 26 rfl) (bt bc_Hall_new_1 27 rfl) (n := 41) rfl) rfl rfl tw_142 tw_143 tw_6 tw_144 rfl hd_House_new rfl (by decide) (Nat.le_of_ble_eq_true rfl) (fun _ M22 => ?_)
  refine EJ_ck (fun h23 => ?_)
  refine EJ_putR cf11 10 (by decide) 63 tw_210 (fun _ _ _ => rfl) (fun _ => rfl) (fun _ => rfl) (Or.inr ⟨rfl, rfl⟩) (dk_181 (bt bc_Hall_new_1 28 rfl) (bt bc_Hall_new_1 29 rfl) (bt bc_Hall_new_1 30 rfl) (n := 42) rfl) rfl (of_decide_eq_true h23) ?_
  refine EJ_aload_n 64 0 (dk_42 (bt bc_Hall_new_1 31 rfl)) rfl rfl ?_
  refine EJ_new cf7 67 tw_172 (dk_187 (bt bc_Hall_new_2 0 rfl) (bt bc_Hall_new_2 1 rfl) (bt bc_Hall_new_2 2 rfl) (n := 46) rfl) rfl ?_
  refine EJ_dup 68 (dk_89 (bt bc_Hall_new_2 3 rfl)) rfl rfl ?_
  refine EJ_callIv (Y2 := Y_Ruin_new) 71 (s_Ruin_new G _ _) rfl (dk_183 (bt bc_Hall_new_2 4 rfl) (bt bc_Hall_new_2 5 rfl) (bt bc_Hall_new_2 6 rfl) (n := 48) rfl) rfl rfl tw_174 tw_175 tw_7 tw_176 rfl hd_Ruin_new rfl (by decide) (Nat.le_of_ble_eq_true rfl) (fun _ M27 => ?_)
  refine EJ_ck (fun h28 => ?_)
  refine EJ_putR cf11 11 (by decide) 74 tw_211 (fun _ _ _ => rfl) (fun _ => rfl) (fun _ => rfl) (Or.inr ⟨rfl, rfl⟩) (dk_181 (bt bc_Hall_new_2 7 rfl) (bt bc_Hall_new_2 8 rfl) (bt bc_Hall_new_2 9 rfl) (n := 49) rfl) rfl (of_decide_eq_true h28) ?_
  refine EJ_aload_n 75 0 (dk_42 (bt bc_Hall_new_2 10 rfl)) rfl rfl ?_
  refine EJ_bipush 77 (dk_16 (bt bc_Hall_new_2 11 rfl) (bt bc_Hall_new_2 12 rfl) (n := 24) rfl) rfl (v := 24) kB_24 ?_
  refine EJ_newq' 6 80 (c := 26) (N := 24) (by decide) (by decide) rfl tw_198 (fun _ h => h.2.2.2.2.1) rfl (by decide) (by decide) (dk_189 (bt bc_Hall_new_2 13 rfl) (bt bc_Hall_new_2 14 rfl) (bt bc_Hall_new_2 15 rfl) (n := 53) rfl) rfl ?_
  refine EJ_ck (fun h31 => ?_)
  refine EJ_putR cf11 12 (by decide) 83 tw_212 (fun _ _ _ => rfl) (fun _ => rfl) (fun _ => rfl) (Or.inr ⟨rfl, rfl⟩) (dk_181 (bt bc_Hall_new_2 16 rfl) (bt bc_Hall_new_2 17 rfl) (bt bc_Hall_new_2 18 rfl) (n := 55) rfl) rfl (of_decide_eq_true h31) ?_
  refine EJ_aload_n 84 0 (dk_42 (bt bc_Hall_new_2 19 rfl)) rfl rfl ?_
  refine EJ_bipush 86 (dk_16 (bt bc_Hall_new_2 20 rfl) (bt bc_Hall_new_2 21 rfl) (n := 60) rfl) rfl (v := 60) kB_60 ?_
  refine EJ_newa' 0 88 (c := 20) (N := 60) (by decide) rfl tw_61 rfl (by decide) (by decide) (dk_188_10 (bt bc_Hall_new_2 22 rfl) (bt bc_Hall_new_2 23 rfl)) rfl ?_
  refine EJ_ck (fun h34 => ?_)
  refine EJ_putR cf11 15 (by decide) 91 tw_215 (fun _ _ _ => rfl) (fun _ => rfl) (fun _ => rfl) (Or.inr ⟨rfl, rfl⟩) (dk_181 (bt bc_Hall_new_2 24 rfl) (bt bc_Hall_new_2 25 rfl) (bt bc_Hall_new_2 26 rfl) (n := 59) rfl) rfl (of_decide_eq_true h34) ?_
  exact EJ_vret rfl (dk_177 (bt bc_Hall_new_2 27 rfl))
abbrev Y_Hall_town : Ym := (⟨"RiceHall", "town", "()I"⟩, prog_1_method_2_code, 1, (some FieldType.int))
theorem bc_Hall_town_0 : bts prog_1_method_2_code 0 [42, 180, 0, 10, 182, 0, 63, 172] := bts_of (by decide +kernel)
theorem hd_Hall_town : Y_Hall_town.1.cls = RX11 ∧ Y_Hall_town.1.cls ≠ "java/lang/invoke/MethodHandle" ∧ Y_Hall_town.1.cls ≠ "java/lang/invoke/VarHandle" ∧ (parseMethodDescriptor Y_Hall_town.1.desc).map (fun d => d.parameters.length) = some 0 := by decide +kernel
def Hall_town (M : Mm) (a0 : Nat) : Option (Int32 × Mm) :=
  ck (kO M a0 11 18) (
  nn (mR M a0 0) (fun b2 =>
  ck (kO M b2 4 7) (
  bd (Land_addTown M b2) (fun r4 M5 =>
  some (r4, M5)))))
set_option maxRecDepth 100000 in
set_option maxHeartbeats 4000000 in
theorem s_Hall_town (G : Gx) (M : Mm) (a0 : Nat) : FnS G Y_Hall_town cvI 2 [.ref a0] M (Hall_town M a0) := by
  refine FnS.ofE (by decide) (Nat.le_of_ble_eq_true rfl) ?_
  show EJ G Y_Hall_town cvI 2 0 [(0, .ref a0)] [] M _
  unfold Hall_town
  refine EJ_aload_n 1 0 (dk_42 (bt bc_Hall_town_0 0 rfl)) rfl rfl ?_
  refine EJ_ck (fun h1 => ?_)
  refine EJ_getR cf11 0 (by decide) 4 tw_200 (fun _ _ _ => rfl) (dk_180 (bt bc_Hall_town_0 1 rfl) (bt bc_Hall_town_0 2 rfl) (bt bc_Hall_town_0 3 rfl) (n := 10) rfl) rfl (of_decide_eq_true h1) (fun b2 => ?_)
  refine EJ_ck (fun h3 => ?_)
  refine EJ_callVi (Y2 := Y_Land_addTown) 7 cf4 (s_Land_addTown G _ _) (of_decide_eq_true h3) rfl (dk_182 (bt bc_Hall_town_0 4 rfl) (bt bc_Hall_town_0 5 rfl) (bt bc_Hall_town_0 6 rfl) (n := 63) rfl) rfl tw_259 tw_260 tw_261 tw_262 hd_Land_addTown rfl (by decide) (Nat.le_of_ble_eq_true rfl) (fun r4 M5 => ?_)
  exact EJ_iret rfl (dk_172 (bt bc_Hall_town_0 7 rfl))
abbrev Y_Hall_fog : Ym := (⟨"RiceHall", "fog", "(III)Z"⟩, prog_1_method_3_code, 4, (some FieldType.boolean))
theorem bc_Hall_fog_0 : bts prog_1_method_3_code 0 [42, 180, 0, 10, 27, 28, 29, 182, 0, 67, 172] := bts_of (by decide +kernel)
theorem hd_Hall_fog : Y_Hall_fog.1.cls = RX11 ∧ Y_Hall_fog.1.cls ≠ "java/lang/invoke/MethodHandle" ∧ Y_Hall_fog.1.cls ≠ "java/lang/invoke/VarHandle" ∧ (parseMethodDescriptor Y_Hall_fog.1.desc).map (fun d => d.parameters.length) = some 3 := by decide +kernel
def Hall_fog (M : Mm) (a0 : Nat) (a1 : Int32) (a2 : Int32) (a3 : Int32) : Option (Int32 × Mm) :=
  ck (kO M a0 11 18) (
  nn (mR M a0 0) (fun b2 =>
  ck (kO M b2 4 7) (
  bd (Land_setFog M b2 a1 a2 a3) (fun r4 M5 =>
  ck (kZ r4) (
  some (r4, M5))))))
set_option maxRecDepth 100000 in
set_option maxHeartbeats 4000000 in
theorem s_Hall_fog (G : Gx) (M : Mm) (a0 : Nat) (a1 : Int32) (a2 : Int32) (a3 : Int32) : FnS G Y_Hall_fog cvI 3 [.ref a0, .int a1, .int a2, .int a3] M (Hall_fog M a0 a1 a2 a3) := by
  refine FnS.ofE (by decide) (Nat.le_of_ble_eq_true rfl) ?_
  show EJ G Y_Hall_fog cvI 3 0 [(0, .ref a0), (1, .int a1), (2, .int a2), (3, .int a3)] [] M _
  unfold Hall_fog
  refine EJ_aload_n 1 0 (dk_42 (bt bc_Hall_fog_0 0 rfl)) rfl rfl ?_
  refine EJ_ck (fun h1 => ?_)
  refine EJ_getR cf11 0 (by decide) 4 tw_200 (fun _ _ _ => rfl) (dk_180 (bt bc_Hall_fog_0 1 rfl) (bt bc_Hall_fog_0 2 rfl) (bt bc_Hall_fog_0 3 rfl) (n := 10) rfl) rfl (of_decide_eq_true h1) (fun b2 => ?_)
  refine EJ_iload_n 5 1 (dk_27 (bt bc_Hall_fog_0 4 rfl)) rfl rfl ?_
  refine EJ_iload_n 6 2 (dk_28 (bt bc_Hall_fog_0 5 rfl)) rfl rfl ?_
  refine EJ_iload_n 7 3 (dk_29 (bt bc_Hall_fog_0 6 rfl)) rfl rfl ?_
  refine EJ_ck (fun h3 => ?_)
  refine EJ_callVi (Y2 := Y_Land_setFog) 10 cf4 (s_Land_setFog G _ _ _ _ _) (of_decide_eq_true h3) rfl (dk_182 (bt bc_Hall_fog_0 7 rfl) (bt bc_Hall_fog_0 8 rfl) (bt bc_Hall_fog_0 9 rfl) (n := 67) rfl) rfl tw_267 tw_268 tw_269 tw_270 hd_Land_setFog rfl (by decide) (Nat.le_of_ble_eq_true rfl) (fun r4 M5 => ?_)
  refine EJ_ck (fun h6 => ?_)
  exact EJ_zret rfl h6 (dk_172 (bt bc_Hall_fog_0 10 rfl))
abbrev Y_Hall_road : Ym := (⟨"RiceHall", "road", "(IIII)Z"⟩, prog_1_method_4_code, 5, (some FieldType.boolean))
theorem bc_Hall_road_0 : bts prog_1_method_4_code 0 [42, 180, 0, 10, 27, 28, 29, 21, 4, 182, 0, 71, 172] := bts_of (by decide +kernel)
theorem hd_Hall_road : Y_Hall_road.1.cls = RX11 ∧ Y_Hall_road.1.cls ≠ "java/lang/invoke/MethodHandle" ∧ Y_Hall_road.1.cls ≠ "java/lang/invoke/VarHandle" ∧ (parseMethodDescriptor Y_Hall_road.1.desc).map (fun d => d.parameters.length) = some 4 := by decide +kernel
def Hall_road (M : Mm) (a0 : Nat) (a1 : Int32) (a2 : Int32) (a3 : Int32) (a4 : Int32) : Option (Int32 × Mm) :=
  ck (kO M a0 11 18) (
  nn (mR M a0 0) (fun b2 =>
  ck (kO M b2 4 7) (
  bd (Land_setRoad M b2 a1 a2 a3 a4) (fun r4 M5 =>
  ck (kZ r4) (
  some (r4, M5))))))
set_option maxRecDepth 100000 in
set_option maxHeartbeats 4000000 in
theorem s_Hall_road (G : Gx) (M : Mm) (a0 : Nat) (a1 : Int32) (a2 : Int32) (a3 : Int32) (a4 : Int32) : FnS G Y_Hall_road cvI 3 [.ref a0, .int a1, .int a2, .int a3, .int a4] M (Hall_road M a0 a1 a2 a3 a4) := by
  refine FnS.ofE (by decide) (Nat.le_of_ble_eq_true rfl) ?_
  show EJ G Y_Hall_road cvI 3 0 [(0, .ref a0), (1, .int a1), (2, .int a2), (3, .int a3), (4, .int a4)] [] M _
  unfold Hall_road
  refine EJ_aload_n 1 0 (dk_42 (bt bc_Hall_road_0 0 rfl)) rfl rfl ?_
  refine EJ_ck (fun h1 => ?_)
  refine EJ_getR cf11 0 (by decide) 4 tw_200 (fun _ _ _ => rfl) (dk_180 (bt bc_Hall_road_0 1 rfl) (bt bc_Hall_road_0 2 rfl) (bt bc_Hall_road_0 3 rfl) (n := 10) rfl) rfl (of_decide_eq_true h1) (fun b2 => ?_)
  refine EJ_iload_n 5 1 (dk_27 (bt bc_Hall_road_0 4 rfl)) rfl rfl ?_
  refine EJ_iload_n 6 2 (dk_28 (bt bc_Hall_road_0 5 rfl)) rfl rfl ?_
  refine EJ_iload_n 7 3 (dk_29 (bt bc_Hall_road_0 6 rfl)) rfl rfl ?_
  refine EJ_iload 9 4 (dk_21 (bt bc_Hall_road_0 7 rfl) (bt bc_Hall_road_0 8 rfl)) rfl rfl ?_
  refine EJ_ck (fun h3 => ?_)
  refine EJ_callVi (Y2 := Y_Land_setRoad) 12 cf4 (s_Land_setRoad G _ _ _ _ _ _) (of_decide_eq_true h3) rfl (dk_182 (bt bc_Hall_road_0 9 rfl) (bt bc_Hall_road_0 10 rfl) (bt bc_Hall_road_0 11 rfl) (n := 71) rfl) rfl tw_282 tw_283 tw_284 tw_285 hd_Land_setRoad rfl (by decide) (Nat.le_of_ble_eq_true rfl) (fun r4 M5 => ?_)
  refine EJ_ck (fun h6 => ?_)
  exact EJ_zret rfl h6 (dk_172 (bt bc_Hall_road_0 12 rfl))
abbrev Y_Hall_news : Ym := (⟨"RiceHall", "news", "(III)I"⟩, prog_1_method_5_code, 4, (some FieldType.int))
theorem bc_Hall_news_0 : bts prog_1_method_5_code 0 [42, 180, 0, 10, 27, 182, 0, 75, 153, 0, 24, 42, 180, 0, 10, 28, 182, 0, 75, 153, 0, 13, 29, 3, 18, 79, 184, 0, 80, 154, 0, 5] := bts_of (by decide +kernel)
theorem bc_Hall_news_1 : bts prog_1_method_5_code 32 [2, 172, 42, 180, 0, 10, 27, 29, 182, 0, 83, 42, 180, 0, 10, 28, 182, 0, 87, 172] := bts_of (by decide +kernel)
theorem hd_Hall_news : Y_Hall_news.1.cls = RX11 ∧ Y_Hall_news.1.cls ≠ "java/lang/invoke/MethodHandle" ∧ Y_Hall_news.1.cls ≠ "java/lang/invoke/VarHandle" ∧ (parseMethodDescriptor Y_Hall_news.1.desc).map (fun d => d.parameters.length) = some 3 := by decide +kernel
def Hall_news (M : Mm) (a0 : Nat) (a1 : Int32) (a2 : Int32) (a3 : Int32) : Option (Int32 × Mm) :=
  ck (kO M a0 11 18) (
  nn (mR M a0 0) (fun b2 =>
  ck (kO M b2 4 7) (
  bd (Land_has M b2 a1) (fun r4 M5 =>
  if r4 = 0 then (
    some ((-1), M5))
  else (
    ck (kO M5 a0 11 18) (
    nn (mR M5 a0 0) (fun b7 =>
    ck (kO M5 b7 4 7) (
    bd (Land_has M5 b7 a2) (fun r9 M10 =>
    if r9 = 0 then (
      some ((-1), M10))
    else (
      bd (Hall_isWithin M10 a3 0 57600) (fun r11 M12 =>
      if r11 = 0 then (
        some ((-1), M12))
      else (
        ck (kO M12 a0 11 18) (
        nn (mR M12 a0 0) (fun b14 =>
        ck (kO M12 b14 4 7) (
        bd (Land_spread M12 b14 a1 a3) (fun _ M17 =>
        ck (kO M17 a0 11 18) (
        nn (mR M17 a0 0) (fun b19 =>
        ck (kO M17 b19 4 7) (
        bd (Land_minuteIn M17 b19 a2) (fun r21 M22 =>
        some (r21, M22)))))))))))))))))))))
set_option maxRecDepth 100000 in
set_option maxHeartbeats 4000000 in
theorem s_Hall_news (G : Gx) (M : Mm) (a0 : Nat) (a1 : Int32) (a2 : Int32) (a3 : Int32) : FnS G Y_Hall_news cvI 6 [.ref a0, .int a1, .int a2, .int a3] M (Hall_news M a0 a1 a2 a3) := by
  refine FnS.ofE (by decide) (Nat.le_of_ble_eq_true rfl) ?_
  show EJ G Y_Hall_news cvI 6 0 [(0, .ref a0), (1, .int a1), (2, .int a2), (3, .int a3)] [] M _
  unfold Hall_news
  refine EJ_aload_n 1 0 (dk_42 (bt bc_Hall_news_0 0 rfl)) rfl rfl ?_
  refine EJ_ck (fun h1 => ?_)
  refine EJ_getR cf11 0 (by decide) 4 tw_200 (fun _ _ _ => rfl) (dk_180 (bt bc_Hall_news_0 1 rfl) (bt bc_Hall_news_0 2 rfl) (bt bc_Hall_news_0 3 rfl) (n := 10) rfl) rfl (of_decide_eq_true h1) (fun b2 => ?_)
  refine EJ_iload_n 5 1 (dk_27 (bt bc_Hall_news_0 4 rfl)) rfl rfl ?_
  refine EJ_ck (fun h3 => ?_)
  refine EJ_callVi (Y2 := Y_Land_has) 8 cf4 (s_Land_has G _ _ _) (of_decide_eq_true h3) rfl (dk_182 (bt bc_Hall_news_0 5 rfl) (bt bc_Hall_news_0 6 rfl) (bt bc_Hall_news_0 7 rfl) (n := 75) rfl) rfl tw_290 tw_272 tw_273 tw_274 hd_Land_has rfl (by decide) (Nat.le_of_ble_eq_true rfl) (fun r4 M5 => ?_)
  refine EJ_if_eq 32 11 (dk_153 (bt bc_Hall_news_0 8 rfl) (bt bc_Hall_news_0 9 rfl) (bt bc_Hall_news_0 10 rfl) (n := 24) rfl) (by decide) rfl (fun _ => ?_) (fun _ => ?_)
  · refine EJ_iconst 33 (dk_2 (bt bc_Hall_news_1 0 rfl)) rfl (v := (-1)) kI_m1 ?_
    exact EJ_iret rfl (dk_172 (bt bc_Hall_news_1 1 rfl))
  · refine EJ_aload_n 12 0 (dk_42 (bt bc_Hall_news_0 11 rfl)) rfl rfl ?_
    refine EJ_ck (fun h6 => ?_)
    refine EJ_getR cf11 0 (by decide) 15 tw_200 (fun _ _ _ => rfl) (dk_180 (bt bc_Hall_news_0 12 rfl) (bt bc_Hall_news_0 13 rfl) (bt bc_Hall_news_0 14 rfl) (n := 10) rfl) rfl (of_decide_eq_true h6) (fun b7 => ?_)
    refine EJ_iload_n 16 2 (dk_28 (bt bc_Hall_news_0 15 rfl)) rfl rfl ?_
    refine EJ_ck (fun h8 => ?_)
    refine EJ_callVi (Y2 := Y_Land_has) 19 cf4 (s_Land_has G _ _ _) (of_decide_eq_true h8) rfl (dk_182 (bt bc_Hall_news_0 16 rfl) (bt bc_Hall_news_0 17 rfl) (bt bc_Hall_news_0 18 rfl) (n := 75) rfl) rfl tw_290 tw_272 tw_273 tw_274 hd_Land_has rfl (by decide) (Nat.le_of_ble_eq_true rfl) (fun r9 M10 => ?_)
    refine EJ_if_eq 32 22 (dk_153 (bt bc_Hall_news_0 19 rfl) (bt bc_Hall_news_0 20 rfl) (bt bc_Hall_news_0 21 rfl) (n := 13) rfl) (by decide) rfl (fun _ => ?_) (fun _ => ?_)
    · refine EJ_iconst 33 (dk_2 (bt bc_Hall_news_1 0 rfl)) rfl (v := (-1)) kI_m1 ?_
      exact EJ_iret rfl (dk_172 (bt bc_Hall_news_1 1 rfl))
    · refine EJ_iload_n 23 3 (dk_29 (bt bc_Hall_news_0 22 rfl)) rfl rfl ?_
      refine EJ_iconst 24 (dk_3 (bt bc_Hall_news_0 23 rfl)) rfl (v := 0) kI_0 ?_
      refine EJ_ldc 26 (dk_18 (bt bc_Hall_news_0 24 rfl) (bt bc_Hall_news_0 25 rfl)) rfl tw_291 ?_
      refine EJ_callSi (Y2 := Y_Hall_isWithin) 29 (s_Hall_isWithin G _ _ _ _) rfl (dk_184 (bt bc_Hall_news_0 26 rfl) (bt bc_Hall_news_0 27 rfl) (bt bc_Hall_news_0 28 rfl) (n := 80) rfl) rfl tw_292 tw_276 tw_1 tw_277 hd_Hall_isWithin rfl (by decide) (Nat.le_of_ble_eq_true rfl) (fun r11 M12 => ?_)
      refine EJ_if_ne 34 32 (dk_154 (bt bc_Hall_news_0 29 rfl) (bt bc_Hall_news_0 30 rfl) (bt bc_Hall_news_0 31 rfl) (n := 5) rfl) (by decide) rfl (fun _ => ?_) (fun _ => ?_)
      · refine EJ_aload_n 35 0 (dk_42 (bt bc_Hall_news_1 2 rfl)) rfl rfl ?_
        refine EJ_ck (fun h13 => ?_)
        refine EJ_getR cf11 0 (by decide) 38 tw_200 (fun _ _ _ => rfl) (dk_180 (bt bc_Hall_news_1 3 rfl) (bt bc_Hall_news_1 4 rfl) (bt bc_Hall_news_1 5 rfl) (n := 10) rfl) rfl (of_decide_eq_true h13) (fun b14 => ?_)
        refine EJ_iload_n 39 1 (dk_27 (bt bc_Hall_news_1 6 rfl)) rfl rfl ?_
        refine EJ_iload_n 40 3 (dk_29 (bt bc_Hall_news_1 7 rfl)) rfl rfl ?_
        refine EJ_ck (fun h15 => ?_)
        refine EJ_callVv (Y2 := Y_Land_spread) 43 cf4 (s_Land_spread G _ _ _ _) (of_decide_eq_true h15) rfl (dk_182 (bt bc_Hall_news_1 8 rfl) (bt bc_Hall_news_1 9 rfl) (bt bc_Hall_news_1 10 rfl) (n := 83) rfl) rfl tw_293 tw_294 tw_295 tw_296 hd_Land_spread rfl (by decide) (Nat.le_of_ble_eq_true rfl) (fun _ M17 => ?_)
        refine EJ_aload_n 44 0 (dk_42 (bt bc_Hall_news_1 11 rfl)) rfl rfl ?_
        refine EJ_ck (fun h18 => ?_)
        refine EJ_getR cf11 0 (by decide) 47 tw_200 (fun _ _ _ => rfl) (dk_180 (bt bc_Hall_news_1 12 rfl) (bt bc_Hall_news_1 13 rfl) (bt bc_Hall_news_1 14 rfl) (n := 10) rfl) rfl (of_decide_eq_true h18) (fun b19 => ?_)
        refine EJ_iload_n 48 2 (dk_28 (bt bc_Hall_news_1 15 rfl)) rfl rfl ?_
        refine EJ_ck (fun h20 => ?_)
        refine EJ_callVi (Y2 := Y_Land_minuteIn) 51 cf4 (s_Land_minuteIn G _ _ _) (of_decide_eq_true h20) rfl (dk_182 (bt bc_Hall_news_1 16 rfl) (bt bc_Hall_news_1 17 rfl) (bt bc_Hall_news_1 18 rfl) (n := 87) rfl) rfl tw_324 tw_325 tw_326 tw_327 hd_Land_minuteIn rfl (by decide) (Nat.le_of_ble_eq_true rfl) (fun r21 M22 => ?_)
        exact EJ_iret rfl (dk_172 (bt bc_Hall_news_1 19 rfl))
      · refine EJ_iconst 33 (dk_2 (bt bc_Hall_news_1 0 rfl)) rfl (v := (-1)) kI_m1 ?_
        exact EJ_iret rfl (dk_172 (bt bc_Hall_news_1 1 rfl))
