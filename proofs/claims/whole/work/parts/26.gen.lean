abbrev Y_Mod_cry : Ym := (⟨"RiceHallModel", "cry", "(IZII)I"⟩, prog_14_method_65_code, 11, (some FieldType.int))
theorem bc_Mod_cry_0 : bts prog_14_method_65_code 0 [42, 27, 182, 1, 22, 153, 0, 48, 29, 4, 16, 50, 184, 0, 252, 153, 0, 38, 21, 4, 4, 17, 39, 15, 184, 0, 252, 153, 0, 26, 42, 180] := bts_of (by decide +kernel)
theorem bc_Mod_cry_1 : bts prog_14_method_65_code 32 [1, 254, 153, 0, 19, 42, 180, 0, 161, 42, 180, 2, 1, 4, 100, 46, 16, 60, 160, 0, 5, 2, 172, 42, 180, 2, 1, 4, 100, 54, 5, 42] := bts_of (by decide +kernel)
theorem bc_Mod_cry_2 : bts prog_14_method_65_code 64 [16, 10, 182, 1, 46, 4, 160, 0, 6, 16, 254, 172, 42, 180, 0, 42, 27, 46, 155, 0, 6, 16, 252, 172, 42, 180, 0, 161, 21, 5, 46, 54] := bts_of (by decide +kernel)
theorem bc_Mod_cry_3 : bts prog_14_method_65_code 96 [6, 16, 60, 21, 5, 104, 21, 6, 96, 54, 7, 42, 180, 0, 176, 21, 7, 27, 79, 42, 180, 0, 191, 21, 7, 28, 84, 42, 180, 0, 179, 21] := bts_of (by decide +kernel)
theorem bc_Mod_cry_4 : bts prog_14_method_65_code 128 [7, 29, 79, 42, 180, 0, 182, 21, 7, 21, 4, 79, 42, 180, 0, 185, 21, 7, 42, 180, 1, 28, 79, 42, 180, 0, 188, 16, 120, 21, 5, 104] := bts_of (by decide +kernel)
theorem bc_Mod_cry_5 : bts prog_14_method_65_code 160 [42, 180, 0, 170, 21, 5, 46, 96, 21, 6, 79, 42, 180, 0, 170, 21, 5, 92, 46, 4, 96, 79, 42, 180, 0, 161, 21, 5, 92, 46, 4, 96] := bts_of (by decide +kernel)
theorem bc_Mod_cry_6 : bts prog_14_method_65_code 192 [79, 42, 180, 0, 227, 21, 6, 3, 79, 21, 4, 42, 3, 182, 1, 46, 161, 0, 13, 21, 4, 42, 4, 182, 1, 46, 164, 0, 6, 16, 253, 172] := bts_of (by decide +kernel)
theorem bc_Mod_cry_7 : bts prog_14_method_65_code 224 [42, 180, 0, 227, 21, 6, 29, 79, 42, 21, 5, 21, 6, 21, 6, 182, 2, 7, 54, 8, 21, 8, 155, 0, 197, 42, 180, 0, 227, 21, 6, 46] := bts_of (by decide +kernel)
theorem bc_Mod_cry_8 : bts prog_14_method_65_code 256 [42, 180, 0, 227, 21, 8, 46, 184, 1, 38, 54, 9, 42, 180, 0, 227, 21, 6, 92, 46, 21, 9, 100, 79, 42, 180, 0, 227, 21, 8, 92, 46] := bts_of (by decide +kernel)
theorem bc_Mod_cry_9 : bts prog_14_method_65_code 288 [21, 9, 100, 79, 16, 60, 21, 5, 104, 42, 180, 0, 164, 21, 5, 46, 96, 54, 10, 42, 180, 0, 194, 21, 10, 28, 153, 0, 7, 27, 167, 0] := bts_of (by decide +kernel)
theorem bc_Mod_cry_10 : bts prog_14_method_65_code 320 [16, 42, 180, 0, 176, 16, 60, 21, 5, 104, 21, 8, 96, 46, 79, 42, 180, 0, 197, 21, 10, 28, 153, 0, 19, 42, 180, 0, 176, 16, 60, 21] := bts_of (by decide +kernel)
theorem bc_Mod_cry_11 : bts prog_14_method_65_code 352 [5, 104, 21, 8, 96, 46, 167, 0, 4, 27, 79, 42, 180, 0, 200, 21, 10, 21, 9, 79, 42, 180, 0, 203, 21, 10, 42, 180, 0, 182, 16, 60] := bts_of (by decide +kernel)
theorem bc_Mod_cry_12 : bts prog_14_method_65_code 384 [21, 5, 104, 21, 8, 96, 46, 79, 42, 180, 0, 206, 21, 10, 42, 180, 1, 28, 79, 42, 180, 0, 164, 21, 5, 92, 46, 4, 96, 79, 42, 180] := bts_of (by decide +kernel)
theorem bc_Mod_cry_13 : bts prog_14_method_65_code 416 [0, 227, 21, 6, 46, 154, 0, 7, 2, 167, 0, 13, 42, 21, 5, 21, 6, 21, 6, 182, 2, 7, 54, 8, 167, 255, 60, 21, 6, 172] := bts_of (by decide +kernel)
theorem hd_Mod_cry : Y_Mod_cry.1.cls = RX12 ∧ Y_Mod_cry.1.cls ≠ "java/lang/invoke/MethodHandle" ∧ Y_Mod_cry.1.cls ≠ "java/lang/invoke/VarHandle" ∧ (parseMethodDescriptor Y_Mod_cry.1.desc).map (fun d => d.parameters.length) = some 4 := by decide +kernel
def Mod_cry_J438 (k244 : Nat → Int32 → Int32 → Int32 → Int32 → Int32 → Mm → Option (Int32 × Mm)) (x0 : Nat) (x1 : Int32) (x2 : Int32) (x5 : Int32) (x6 : Int32) (s0 : Int32) (M : Mm) : Option (Int32 × Mm) :=
  k244 x0 x1 x2 x5 x6 s0 M
set_option maxRecDepth 100000 in
set_option maxHeartbeats 4000000 in
theorem e_Mod_cry_J438 {G : Gx} (k244 : Nat → Int32 → Int32 → Int32 → Int32 → Int32 → Mm → Option (Int32 × Mm)) (hk244 : ∀ (x0 : Nat) (x1 : Int32) (x2 : Int32) (x5 : Int32) (x6 : Int32) (x8 : Int32) (M : Mm), EJ G Y_Mod_cry cvI 5 244 [(0, .ref x0), (1, .int x1), (2, .int x2), (5, .int x5), (6, .int x6), (8, .int x8)] [] M (k244 x0 x1 x2 x5 x6 x8 M)) (x0 : Nat) (x1 : Int32) (x2 : Int32) (x5 : Int32) (x6 : Int32) (s0 : Int32) (M : Mm) : EJ G Y_Mod_cry cvI 5 438 [(0, .ref x0), (1, .int x1), (2, .int x2), (5, .int x5), (6, .int x6)] [.int s0] M (Mod_cry_J438 k244 x0 x1 x2 x5 x6 s0 M) := by
  unfold Mod_cry_J438
  refine EJ_istore 440 (lv2 := [(8, .int _), (0, .ref _), (1, .int _), (2, .int _), (5, .int _), (6, .int _)]) (dk_54 (bt bc_Mod_cry_13 22 rfl) (bt bc_Mod_cry_13 23 rfl)) rfl (by decide) rfl ?_
  refine EJ_goto 244 (dk_167 (bt bc_Mod_cry_13 24 rfl) (bt bc_Mod_cry_13 25 rfl) (bt bc_Mod_cry_13 26 rfl) (n := -196) rfl) (by decide) ?_
  exact EJ_pick (lv2 := [(0, .ref _), (1, .int _), (2, .int _), (5, .int _), (6, .int _), (8, .int _)]) [1, 2, 3, 4, 5, 0] rfl (hk244 _ _ _ _ _ _ _)
def Mod_cry_J362 (k244 : Nat → Int32 → Int32 → Int32 → Int32 → Int32 → Mm → Option (Int32 × Mm)) (x0 : Nat) (x1 : Int32) (x2 : Int32) (x5 : Int32) (x6 : Int32) (x8 : Int32) (x9 : Int32) (x10 : Int32) (s0 : Int32) (s1 : Int32) (s2 : Nat) (M : Mm) : Option (Int32 × Mm) :=
  ck (kA M s2 20 s1) (
  let M87 := sI M s2 (ix s1) s0
  ck (kO M87 x0 12 107) (
  nn (mR M87 x0 91) (fun b89 =>
  ck (kA M87 b89 20 x10) (
  let M91 := sI M87 b89 (ix x10) x9
  nn (mR M91 x0 92) (fun b92 =>
  nn (mR M91 x0 85) (fun b93 =>
  ck (kA M91 b93 20 ((60 * x5) + x8)) (
  ck (kA M91 b92 20 x10) (
  let M96 := sI M91 b92 (ix x10) (mI M91 b93 (ix ((60 * x5) + x8)))
  nn (mR M96 x0 93) (fun b97 =>
  ck (kA M96 b97 20 x10) (
  let M99 := sI M96 b97 (ix x10) (mI M96 x0 0)
  nn (mR M99 x0 79) (fun b100 =>
  ck (kA M99 b100 20 x5) (
  let M102 := sI M99 b100 (ix x5) ((mI M99 b100 (ix x5)) + 1)
  nn (mR M102 x0 100) (fun b103 =>
  ck (kA M102 b103 20 x6) (
  if (mI M102 b103 (ix x6)) = 0 then (
    Mod_cry_J438 k244 x0 x1 x2 x5 x6 (-1) M102)
  else (
    bd (Mod_against M102 x0 x5 x6 x6) (fun r105 M106 =>
    Mod_cry_J438 k244 x0 x1 x2 x5 x6 r105 M106))))))))))))))))
set_option maxRecDepth 100000 in
set_option maxHeartbeats 4000000 in
theorem e_Mod_cry_J362 {G : Gx} (k244 : Nat → Int32 → Int32 → Int32 → Int32 → Int32 → Mm → Option (Int32 × Mm)) (hk244 : ∀ (x0 : Nat) (x1 : Int32) (x2 : Int32) (x5 : Int32) (x6 : Int32) (x8 : Int32) (M : Mm), EJ G Y_Mod_cry cvI 5 244 [(0, .ref x0), (1, .int x1), (2, .int x2), (5, .int x5), (6, .int x6), (8, .int x8)] [] M (k244 x0 x1 x2 x5 x6 x8 M)) (x0 : Nat) (x1 : Int32) (x2 : Int32) (x5 : Int32) (x6 : Int32) (x8 : Int32) (x9 : Int32) (x10 : Int32) (s0 : Int32) (s1 : Int32) (s2 : Nat) (M : Mm) : EJ G Y_Mod_cry cvI 5 362 [(0, .ref x0), (1, .int x1), (2, .int x2), (5, .int x5), (6, .int x6), (8, .int x8), (9, .int x9), (10, .int x10)] [.int s0, .int s1, .ref s2] M (Mod_cry_J362 k244 x0 x1 x2 x5 x6 x8 x9 x10 s0 s1 s2 M) := by
  unfold Mod_cry_J362
  refine EJ_ck (fun h86 => ?_)
  refine EJ_iast 363 h86 (dk_79 (bt bc_Mod_cry_11 10 rfl)) rfl ?_
  refine EJ_aload_n 364 0 (dk_42 (bt bc_Mod_cry_11 11 rfl)) rfl rfl ?_
  refine EJ_ck (fun h88 => ?_)
  refine EJ_getR cf12 91 (by decide) 367 tw_1289 (fun _ _ _ => rfl) (dk_180 (bt bc_Mod_cry_11 12 rfl) (bt bc_Mod_cry_11 13 rfl) (bt bc_Mod_cry_11 14 rfl) (n := 200) rfl) rfl (of_decide_eq_true h88) (fun b89 => ?_)
  refine EJ_iload 369 7 (dk_21 (bt bc_Mod_cry_11 15 rfl) (bt bc_Mod_cry_11 16 rfl)) rfl rfl ?_
  refine EJ_iload 371 6 (dk_21 (bt bc_Mod_cry_11 17 rfl) (bt bc_Mod_cry_11 18 rfl)) rfl rfl ?_
  refine EJ_ck (fun h90 => ?_)
  refine EJ_iast 372 h90 (dk_79 (bt bc_Mod_cry_11 19 rfl)) rfl ?_
  refine EJ_aload_n 373 0 (dk_42 (bt bc_Mod_cry_11 20 rfl)) rfl rfl ?_
  refine EJ_getR cf12 92 (by decide) 376 tw_1290 (fun _ _ _ => rfl) (dk_180 (bt bc_Mod_cry_11 21 rfl) (bt bc_Mod_cry_11 22 rfl) (bt bc_Mod_cry_11 23 rfl) (n := 203) rfl) rfl (kp_I (of_decide_eq_true h88)) (fun b92 => ?_)
  refine EJ_iload 378 7 (dk_21 (bt bc_Mod_cry_11 24 rfl) (bt bc_Mod_cry_11 25 rfl)) rfl rfl ?_
  refine EJ_aload_n 379 0 (dk_42 (bt bc_Mod_cry_11 26 rfl)) rfl rfl ?_
  refine EJ_getR cf12 85 (by decide) 382 tw_1283 (fun _ _ _ => rfl) (dk_180 (bt bc_Mod_cry_11 27 rfl) (bt bc_Mod_cry_11 28 rfl) (bt bc_Mod_cry_11 29 rfl) (n := 182) rfl) rfl (kp_I (of_decide_eq_true h88)) (fun b93 => ?_)
  refine EJ_bipush 384 (dk_16 (bt bc_Mod_cry_11 30 rfl) (bt bc_Mod_cry_11 31 rfl) (n := 60) rfl) rfl (v := 60) kB_60 ?_
  refine EJ_iload 386 3 (dk_21 (bt bc_Mod_cry_12 0 rfl) (bt bc_Mod_cry_12 1 rfl)) rfl rfl ?_
  refine EJ_imul 387 (dk_104 (bt bc_Mod_cry_12 2 rfl)) rfl ?_
  refine EJ_iload 389 5 (dk_21 (bt bc_Mod_cry_12 3 rfl) (bt bc_Mod_cry_12 4 rfl)) rfl rfl ?_
  refine EJ_iadd 390 (dk_96 (bt bc_Mod_cry_12 5 rfl)) rfl ?_
  refine EJ_ck (fun h94 => ?_)
  refine EJ_iald 391 h94 (dk_46 (bt bc_Mod_cry_12 6 rfl)) rfl ?_
  refine EJ_ck (fun h95 => ?_)
  refine EJ_iast 392 h95 (dk_79 (bt bc_Mod_cry_12 7 rfl)) rfl ?_
  refine EJ_aload_n 393 0 (dk_42 (bt bc_Mod_cry_12 8 rfl)) rfl rfl ?_
  refine EJ_getR cf12 93 (by decide) 396 tw_1291 (fun _ _ _ => rfl) (dk_180 (bt bc_Mod_cry_12 9 rfl) (bt bc_Mod_cry_12 10 rfl) (bt bc_Mod_cry_12 11 rfl) (n := 206) rfl) rfl (kp_I (kp_I (of_decide_eq_true h88))) (fun b97 => ?_)
  refine EJ_iload 398 7 (dk_21 (bt bc_Mod_cry_12 12 rfl) (bt bc_Mod_cry_12 13 rfl)) rfl rfl ?_
  refine EJ_aload_n 399 0 (dk_42 (bt bc_Mod_cry_12 14 rfl)) rfl rfl ?_
  refine EJ_getI cf12 0 (by decide) 402 tw_1198 (fun _ _ _ => rfl) (dk_180 (bt bc_Mod_cry_12 15 rfl) (bt bc_Mod_cry_12 16 rfl) (bt bc_Mod_cry_12 17 rfl) (n := 284) rfl) rfl (kp_I (kp_I (of_decide_eq_true h88))) ?_
  refine EJ_ck (fun h98 => ?_)
  refine EJ_iast 403 h98 (dk_79 (bt bc_Mod_cry_12 18 rfl)) rfl ?_
  refine EJ_aload_n 404 0 (dk_42 (bt bc_Mod_cry_12 19 rfl)) rfl rfl ?_
  refine EJ_getR cf12 79 (by decide) 407 tw_1277 (fun _ _ _ => rfl) (dk_180 (bt bc_Mod_cry_12 20 rfl) (bt bc_Mod_cry_12 21 rfl) (bt bc_Mod_cry_12 22 rfl) (n := 164) rfl) rfl (kp_I (kp_I (kp_I (of_decide_eq_true h88)))) (fun b100 => ?_)
  refine EJ_iload 409 3 (dk_21 (bt bc_Mod_cry_12 23 rfl) (bt bc_Mod_cry_12 24 rfl)) rfl rfl ?_
  refine EJ_dup2 410 (dk_92 (bt bc_Mod_cry_12 25 rfl)) rfl rfl rfl ?_
  refine EJ_ck (fun h101 => ?_)
  refine EJ_iald 411 h101 (dk_46 (bt bc_Mod_cry_12 26 rfl)) rfl ?_
  refine EJ_iconst 412 (dk_4 (bt bc_Mod_cry_12 27 rfl)) rfl (v := 1) kI_1 ?_
  refine EJ_iadd 413 (dk_96 (bt bc_Mod_cry_12 28 rfl)) rfl ?_
  refine EJ_iast 414 h101 (dk_79 (bt bc_Mod_cry_12 29 rfl)) rfl ?_
  refine EJ_aload_n 415 0 (dk_42 (bt bc_Mod_cry_12 30 rfl)) rfl rfl ?_
  refine EJ_getR cf12 100 (by decide) 418 tw_1298 (fun _ _ _ => rfl) (dk_180 (bt bc_Mod_cry_12 31 rfl) (bt bc_Mod_cry_13 0 rfl) (bt bc_Mod_cry_13 1 rfl) (n := 227) rfl) rfl (kp_I (kp_I (kp_I (kp_I (of_decide_eq_true h88))))) (fun b103 => ?_)
  refine EJ_iload 420 4 (dk_21 (bt bc_Mod_cry_13 2 rfl) (bt bc_Mod_cry_13 3 rfl)) rfl rfl ?_
  refine EJ_ck (fun h104 => ?_)
  refine EJ_iald 421 h104 (dk_46 (bt bc_Mod_cry_13 4 rfl)) rfl ?_
  refine EJ_if_ne 428 424 (dk_154 (bt bc_Mod_cry_13 5 rfl) (bt bc_Mod_cry_13 6 rfl) (bt bc_Mod_cry_13 7 rfl) (n := 7) rfl) (by decide) rfl (fun _ => ?_) (fun _ => ?_)
  · refine EJ_aload_n 429 0 (dk_42 (bt bc_Mod_cry_13 12 rfl)) rfl rfl ?_
    refine EJ_iload 431 3 (dk_21 (bt bc_Mod_cry_13 13 rfl) (bt bc_Mod_cry_13 14 rfl)) rfl rfl ?_
    refine EJ_iload 433 4 (dk_21 (bt bc_Mod_cry_13 15 rfl) (bt bc_Mod_cry_13 16 rfl)) rfl rfl ?_
    refine EJ_iload 435 4 (dk_21 (bt bc_Mod_cry_13 17 rfl) (bt bc_Mod_cry_13 18 rfl)) rfl rfl ?_
    refine EJ_callVi (Y2 := Y_Mod_against) 438 cf12 (s_Mod_against G _ _ _ _ _) (kp_I (kp_I (kp_I (kp_I (of_decide_eq_true h88))))) rfl (dk_182 (bt bc_Mod_cry_13 19 rfl) (bt bc_Mod_cry_13 20 rfl) (bt bc_Mod_cry_13 21 rfl) (n := 519) rfl) rfl tw_1797 tw_1799 ts_67 tw_1800 hd_Mod_against rfl (by decide) (Nat.le_of_ble_eq_true rfl) (fun r105 M106 => ?_)
    exact EJ_pick (lv2 := [(0, .ref _), (1, .int _), (2, .int _), (5, .int _), (6, .int _)]) [0, 1, 2, 3, 4] rfl (e_Mod_cry_J438 k244 hk244 _ _ _ _ _ _ _)
  · refine EJ_iconst 425 (dk_2 (bt bc_Mod_cry_13 8 rfl)) rfl (v := (-1)) kI_m1 ?_
    refine EJ_goto 438 (dk_167 (bt bc_Mod_cry_13 9 rfl) (bt bc_Mod_cry_13 10 rfl) (bt bc_Mod_cry_13 11 rfl) (n := 13) rfl) (by decide) ?_
    exact EJ_pick (lv2 := [(0, .ref _), (1, .int _), (2, .int _), (5, .int _), (6, .int _)]) [0, 1, 2, 3, 4] rfl (e_Mod_cry_J438 k244 hk244 _ _ _ _ _ _ _)
def Mod_cry_J334 (k244 : Nat → Int32 → Int32 → Int32 → Int32 → Int32 → Mm → Option (Int32 × Mm)) (x0 : Nat) (x1 : Int32) (x2 : Int32) (x5 : Int32) (x6 : Int32) (x8 : Int32) (x9 : Int32) (x10 : Int32) (s0 : Int32) (s1 : Int32) (s2 : Nat) (M : Mm) : Option (Int32 × Mm) :=
  ck (kA M s2 20 s1) (
  let M83 := sI M s2 (ix s1) s0
  ck (kO M83 x0 12 107) (
  nn (mR M83 x0 90) (fun b85 =>
  if x2 = 0 then (
    Mod_cry_J362 k244 x0 x1 x2 x5 x6 x8 x9 x10 x1 x10 b85 M83)
  else (
    nn (mR M83 x0 83) (fun b107 =>
    ck (kA M83 b107 20 ((60 * x5) + x8)) (
    Mod_cry_J362 k244 x0 x1 x2 x5 x6 x8 x9 x10 (mI M83 b107 (ix ((60 * x5) + x8))) x10 b85 M83))))))
set_option maxRecDepth 100000 in
set_option maxHeartbeats 4000000 in
theorem e_Mod_cry_J334 {G : Gx} (k244 : Nat → Int32 → Int32 → Int32 → Int32 → Int32 → Mm → Option (Int32 × Mm)) (hk244 : ∀ (x0 : Nat) (x1 : Int32) (x2 : Int32) (x5 : Int32) (x6 : Int32) (x8 : Int32) (M : Mm), EJ G Y_Mod_cry cvI 5 244 [(0, .ref x0), (1, .int x1), (2, .int x2), (5, .int x5), (6, .int x6), (8, .int x8)] [] M (k244 x0 x1 x2 x5 x6 x8 M)) (x0 : Nat) (x1 : Int32) (x2 : Int32) (x5 : Int32) (x6 : Int32) (x8 : Int32) (x9 : Int32) (x10 : Int32) (s0 : Int32) (s1 : Int32) (s2 : Nat) (M : Mm) : EJ G Y_Mod_cry cvI 5 334 [(0, .ref x0), (1, .int x1), (2, .int x2), (5, .int x5), (6, .int x6), (8, .int x8), (9, .int x9), (10, .int x10)] [.int s0, .int s1, .ref s2] M (Mod_cry_J334 k244 x0 x1 x2 x5 x6 x8 x9 x10 s0 s1 s2 M) := by
  unfold Mod_cry_J334
  refine EJ_ck (fun h82 => ?_)
  refine EJ_iast 335 h82 (dk_79 (bt bc_Mod_cry_10 14 rfl)) rfl ?_
  refine EJ_aload_n 336 0 (dk_42 (bt bc_Mod_cry_10 15 rfl)) rfl rfl ?_
  refine EJ_ck (fun h84 => ?_)
  refine EJ_getR cf12 90 (by decide) 339 tw_1288 (fun _ _ _ => rfl) (dk_180 (bt bc_Mod_cry_10 16 rfl) (bt bc_Mod_cry_10 17 rfl) (bt bc_Mod_cry_10 18 rfl) (n := 197) rfl) rfl (of_decide_eq_true h84) (fun b85 => ?_)
  refine EJ_iload 341 7 (dk_21 (bt bc_Mod_cry_10 19 rfl) (bt bc_Mod_cry_10 20 rfl)) rfl rfl ?_
  refine EJ_iload_n 342 2 (dk_28 (bt bc_Mod_cry_10 21 rfl)) rfl rfl ?_
  refine EJ_if_eq 361 345 (dk_153 (bt bc_Mod_cry_10 22 rfl) (bt bc_Mod_cry_10 23 rfl) (bt bc_Mod_cry_10 24 rfl) (n := 19) rfl) (by decide) rfl (fun _ => ?_) (fun _ => ?_)
  · refine EJ_iload_n 362 1 (dk_27 (bt bc_Mod_cry_11 9 rfl)) rfl rfl ?_
    exact EJ_pick (lv2 := [(0, .ref _), (1, .int _), (2, .int _), (5, .int _), (6, .int _), (8, .int _), (9, .int _), (10, .int _)]) [0, 1, 2, 3, 4, 5, 6, 7] rfl (e_Mod_cry_J362 k244 hk244 _ _ _ _ _ _ _ _ _ _ _ _)
  · refine EJ_aload_n 346 0 (dk_42 (bt bc_Mod_cry_10 25 rfl)) rfl rfl ?_
    refine EJ_getR cf12 83 (by decide) 349 tw_1281 (fun _ _ _ => rfl) (dk_180 (bt bc_Mod_cry_10 26 rfl) (bt bc_Mod_cry_10 27 rfl) (bt bc_Mod_cry_10 28 rfl) (n := 176) rfl) rfl (of_decide_eq_true h84) (fun b107 => ?_)
    refine EJ_bipush 351 (dk_16 (bt bc_Mod_cry_10 29 rfl) (bt bc_Mod_cry_10 30 rfl) (n := 60) rfl) rfl (v := 60) kB_60 ?_
    refine EJ_iload 353 3 (dk_21 (bt bc_Mod_cry_10 31 rfl) (bt bc_Mod_cry_11 0 rfl)) rfl rfl ?_
    refine EJ_imul 354 (dk_104 (bt bc_Mod_cry_11 1 rfl)) rfl ?_
    refine EJ_iload 356 5 (dk_21 (bt bc_Mod_cry_11 2 rfl) (bt bc_Mod_cry_11 3 rfl)) rfl rfl ?_
    refine EJ_iadd 357 (dk_96 (bt bc_Mod_cry_11 4 rfl)) rfl ?_
    refine EJ_ck (fun h108 => ?_)
    refine EJ_iald 358 h108 (dk_46 (bt bc_Mod_cry_11 5 rfl)) rfl ?_
    refine EJ_goto 362 (dk_167 (bt bc_Mod_cry_11 6 rfl) (bt bc_Mod_cry_11 7 rfl) (bt bc_Mod_cry_11 8 rfl) (n := 4) rfl) (by decide) ?_
    exact EJ_pick (lv2 := [(0, .ref _), (1, .int _), (2, .int _), (5, .int _), (6, .int _), (8, .int _), (9, .int _), (10, .int _)]) [0, 1, 2, 3, 4, 5, 6, 7] rfl (e_Mod_cry_J362 k244 hk244 _ _ _ _ _ _ _ _ _ _ _ _)
def Mod_cry_B244 (k244 : Nat → Int32 → Int32 → Int32 → Int32 → Int32 → Mm → Option (Int32 × Mm)) (x0 : Nat) (x1 : Int32) (x2 : Int32) (x5 : Int32) (x6 : Int32) (x8 : Int32) (M : Mm) : Option (Int32 × Mm) :=
  if x8 < 0 then (
    some (x6, M))
  else (
    ck (kO M x0 12 107) (
    nn (mR M x0 100) (fun b63 =>
    ck (kA M b63 20 x6) (
    nn (mR M x0 100) (fun b65 =>
    ck (kA M b65 20 x8) (
    bd (Mod_min M (mI M b63 (ix x6)) (mI M b65 (ix x8))) (fun r67 M68 =>
    ck (kO M68 x0 12 107) (
    nn (mR M68 x0 100) (fun b70 =>
    ck (kA M68 b70 20 x6) (
    let M72 := sI M68 b70 (ix x6) ((mI M68 b70 (ix x6)) - r67)
    nn (mR M72 x0 100) (fun b73 =>
    ck (kA M72 b73 20 x8) (
    let M75 := sI M72 b73 (ix x8) ((mI M72 b73 (ix x8)) - r67)
    nn (mR M75 x0 79) (fun b76 =>
    ck (kA M75 b76 20 x5) (
    let v78 : Int32 := (60 * x5) + (mI M75 b76 (ix x5))
    nn (mR M75 x0 89) (fun b79 =>
    if x2 = 0 then (
      nn (mR M75 x0 83) (fun b80 =>
      ck (kA M75 b80 20 ((60 * x5) + x8)) (
      Mod_cry_J334 k244 x0 x1 x2 x5 x6 x8 r67 v78 (mI M75 b80 (ix ((60 * x5) + x8))) v78 b79 M75)))
    else (
      Mod_cry_J334 k244 x0 x1 x2 x5 x6 x8 r67 v78 x1 v78 b79 M75))))))))))))))))
set_option maxRecDepth 100000 in
set_option maxHeartbeats 4000000 in
theorem e_Mod_cry_B244 {G : Gx} (k244 : Nat → Int32 → Int32 → Int32 → Int32 → Int32 → Mm → Option (Int32 × Mm)) (hk244 : ∀ (x0 : Nat) (x1 : Int32) (x2 : Int32) (x5 : Int32) (x6 : Int32) (x8 : Int32) (M : Mm), EJ G Y_Mod_cry cvI 5 244 [(0, .ref x0), (1, .int x1), (2, .int x2), (5, .int x5), (6, .int x6), (8, .int x8)] [] M (k244 x0 x1 x2 x5 x6 x8 M)) (x0 : Nat) (x1 : Int32) (x2 : Int32) (x5 : Int32) (x6 : Int32) (x8 : Int32) (M : Mm) : EJ G Y_Mod_cry cvI 5 244 [(0, .ref x0), (1, .int x1), (2, .int x2), (5, .int x5), (6, .int x6), (8, .int x8)] [] M (Mod_cry_B244 k244 x0 x1 x2 x5 x6 x8 M) := by
  unfold Mod_cry_B244
  refine EJ_iload 246 5 (dk_21 (bt bc_Mod_cry_7 20 rfl) (bt bc_Mod_cry_7 21 rfl)) rfl rfl ?_
  refine EJ_if_lt 443 249 (dk_155 (bt bc_Mod_cry_7 22 rfl) (bt bc_Mod_cry_7 23 rfl) (bt bc_Mod_cry_7 24 rfl) (n := 197) rfl) (by decide) rfl (fun _ => ?_) (fun _ => ?_)
  · refine EJ_iload 445 4 (dk_21 (bt bc_Mod_cry_13 27 rfl) (bt bc_Mod_cry_13 28 rfl)) rfl rfl ?_
    exact EJ_iret rfl (dk_172 (bt bc_Mod_cry_13 29 rfl))
  · refine EJ_aload_n 250 0 (dk_42 (bt bc_Mod_cry_7 25 rfl)) rfl rfl ?_
    refine EJ_ck (fun h62 => ?_)
    refine EJ_getR cf12 100 (by decide) 253 tw_1298 (fun _ _ _ => rfl) (dk_180 (bt bc_Mod_cry_7 26 rfl) (bt bc_Mod_cry_7 27 rfl) (bt bc_Mod_cry_7 28 rfl) (n := 227) rfl) rfl (of_decide_eq_true h62) (fun b63 => ?_)
    refine EJ_iload 255 4 (dk_21 (bt bc_Mod_cry_7 29 rfl) (bt bc_Mod_cry_7 30 rfl)) rfl rfl ?_
    refine EJ_ck (fun h64 => ?_)
    refine EJ_iald 256 h64 (dk_46 (bt bc_Mod_cry_7 31 rfl)) rfl ?_
    refine EJ_aload_n 257 0 (dk_42 (bt bc_Mod_cry_8 0 rfl)) rfl rfl ?_
    refine EJ_getR cf12 100 (by decide) 260 tw_1298 (fun _ _ _ => rfl) (dk_180 (bt bc_Mod_cry_8 1 rfl) (bt bc_Mod_cry_8 2 rfl) (bt bc_Mod_cry_8 3 rfl) (n := 227) rfl) rfl (of_decide_eq_true h62) (fun b65 => ?_)
    refine EJ_iload 262 5 (dk_21 (bt bc_Mod_cry_8 4 rfl) (bt bc_Mod_cry_8 5 rfl)) rfl rfl ?_
    refine EJ_ck (fun h66 => ?_)
    refine EJ_iald 263 h66 (dk_46 (bt bc_Mod_cry_8 6 rfl)) rfl ?_
    refine EJ_callSi (Y2 := Y_Mod_min) 266 (s_Mod_min G _ _ _) rfl (dk_184 (bt bc_Mod_cry_8 7 rfl) (bt bc_Mod_cry_8 8 rfl) (bt bc_Mod_cry_8 9 rfl) (n := 294) rfl) rfl tw_1596 tw_1597 tw_8 tw_1598 hd_Mod_min rfl (by decide) (Nat.le_of_ble_eq_true rfl) (fun r67 M68 => ?_)
    refine EJ_istore 268 (lv2 := [(9, .int _), (0, .ref _), (1, .int _), (2, .int _), (5, .int _), (6, .int _), (8, .int _)]) (dk_54 (bt bc_Mod_cry_8 10 rfl) (bt bc_Mod_cry_8 11 rfl)) rfl (by decide) rfl ?_
    refine EJ_aload_n 269 1 (dk_42 (bt bc_Mod_cry_8 12 rfl)) rfl rfl ?_
    refine EJ_ck (fun h69 => ?_)
    refine EJ_getR cf12 100 (by decide) 272 tw_1298 (fun _ _ _ => rfl) (dk_180 (bt bc_Mod_cry_8 13 rfl) (bt bc_Mod_cry_8 14 rfl) (bt bc_Mod_cry_8 15 rfl) (n := 227) rfl) rfl (of_decide_eq_true h69) (fun b70 => ?_)
    refine EJ_iload 274 5 (dk_21 (bt bc_Mod_cry_8 16 rfl) (bt bc_Mod_cry_8 17 rfl)) rfl rfl ?_
    refine EJ_dup2 275 (dk_92 (bt bc_Mod_cry_8 18 rfl)) rfl rfl rfl ?_
    refine EJ_ck (fun h71 => ?_)
    refine EJ_iald 276 h71 (dk_46 (bt bc_Mod_cry_8 19 rfl)) rfl ?_
    refine EJ_iload 278 0 (dk_21 (bt bc_Mod_cry_8 20 rfl) (bt bc_Mod_cry_8 21 rfl)) rfl rfl ?_
    refine EJ_isub 279 (dk_100 (bt bc_Mod_cry_8 22 rfl)) rfl ?_
    refine EJ_iast 280 h71 (dk_79 (bt bc_Mod_cry_8 23 rfl)) rfl ?_
    refine EJ_aload_n 281 1 (dk_42 (bt bc_Mod_cry_8 24 rfl)) rfl rfl ?_
    refine EJ_getR cf12 100 (by decide) 284 tw_1298 (fun _ _ _ => rfl) (dk_180 (bt bc_Mod_cry_8 25 rfl) (bt bc_Mod_cry_8 26 rfl) (bt bc_Mod_cry_8 27 rfl) (n := 227) rfl) rfl (kp_I (of_decide_eq_true h69)) (fun b73 => ?_)
    refine EJ_iload 286 6 (dk_21 (bt bc_Mod_cry_8 28 rfl) (bt bc_Mod_cry_8 29 rfl)) rfl rfl ?_
    refine EJ_dup2 287 (dk_92 (bt bc_Mod_cry_8 30 rfl)) rfl rfl rfl ?_
    refine EJ_ck (fun h74 => ?_)
    refine EJ_iald 288 h74 (dk_46 (bt bc_Mod_cry_8 31 rfl)) rfl ?_
    refine EJ_iload 290 0 (dk_21 (bt bc_Mod_cry_9 0 rfl) (bt bc_Mod_cry_9 1 rfl)) rfl rfl ?_
    refine EJ_isub 291 (dk_100 (bt bc_Mod_cry_9 2 rfl)) rfl ?_
    refine EJ_iast 292 h74 (dk_79 (bt bc_Mod_cry_9 3 rfl)) rfl ?_
    refine EJ_bipush 294 (dk_16 (bt bc_Mod_cry_9 4 rfl) (bt bc_Mod_cry_9 5 rfl) (n := 60) rfl) rfl (v := 60) kB_60 ?_
    refine EJ_iload 296 4 (dk_21 (bt bc_Mod_cry_9 6 rfl) (bt bc_Mod_cry_9 7 rfl)) rfl rfl ?_
    refine EJ_imul 297 (dk_104 (bt bc_Mod_cry_9 8 rfl)) rfl ?_
    refine EJ_aload_n 298 1 (dk_42 (bt bc_Mod_cry_9 9 rfl)) rfl rfl ?_
    refine EJ_getR cf12 79 (by decide) 301 tw_1277 (fun _ _ _ => rfl) (dk_180 (bt bc_Mod_cry_9 10 rfl) (bt bc_Mod_cry_9 11 rfl) (bt bc_Mod_cry_9 12 rfl) (n := 164) rfl) rfl (kp_I (kp_I (of_decide_eq_true h69))) (fun b76 => ?_)
    refine EJ_iload 303 4 (dk_21 (bt bc_Mod_cry_9 13 rfl) (bt bc_Mod_cry_9 14 rfl)) rfl rfl ?_
    refine EJ_ck (fun h77 => ?_)
    refine EJ_iald 304 h77 (dk_46 (bt bc_Mod_cry_9 15 rfl)) rfl ?_
    refine EJ_iadd 305 (dk_96 (bt bc_Mod_cry_9 16 rfl)) rfl ?_
    refine EJ_istore 307 (lv2 := [(10, .int _), (9, .int _), (0, .ref _), (1, .int _), (2, .int _), (5, .int _), (6, .int _), (8, .int _)]) (dk_54 (bt bc_Mod_cry_9 17 rfl) (bt bc_Mod_cry_9 18 rfl)) rfl (by decide) rfl ?_
    refine EJ_aload_n 308 2 (dk_42 (bt bc_Mod_cry_9 19 rfl)) rfl rfl ?_
    refine EJ_getR cf12 89 (by decide) 311 tw_1287 (fun _ _ _ => rfl) (dk_180 (bt bc_Mod_cry_9 20 rfl) (bt bc_Mod_cry_9 21 rfl) (bt bc_Mod_cry_9 22 rfl) (n := 194) rfl) rfl (kp_I (kp_I (of_decide_eq_true h69))) (fun b79 => ?_)
    refine EJ_iload 313 0 (dk_21 (bt bc_Mod_cry_9 23 rfl) (bt bc_Mod_cry_9 24 rfl)) rfl rfl ?_
    refine EJ_iload_n 314 4 (dk_28 (bt bc_Mod_cry_9 25 rfl)) rfl rfl ?_
    refine EJ_if_eq 321 317 (dk_153 (bt bc_Mod_cry_9 26 rfl) (bt bc_Mod_cry_9 27 rfl) (bt bc_Mod_cry_9 28 rfl) (n := 7) rfl) (by decide) rfl (fun _ => ?_) (fun _ => ?_)
    · refine EJ_aload_n 322 2 (dk_42 (bt bc_Mod_cry_10 1 rfl)) rfl rfl ?_
      refine EJ_getR cf12 83 (by decide) 325 tw_1281 (fun _ _ _ => rfl) (dk_180 (bt bc_Mod_cry_10 2 rfl) (bt bc_Mod_cry_10 3 rfl) (bt bc_Mod_cry_10 4 rfl) (n := 176) rfl) rfl (kp_I (kp_I (of_decide_eq_true h69))) (fun b80 => ?_)
      refine EJ_bipush 327 (dk_16 (bt bc_Mod_cry_10 5 rfl) (bt bc_Mod_cry_10 6 rfl) (n := 60) rfl) rfl (v := 60) kB_60 ?_
      refine EJ_iload 329 5 (dk_21 (bt bc_Mod_cry_10 7 rfl) (bt bc_Mod_cry_10 8 rfl)) rfl rfl ?_
      refine EJ_imul 330 (dk_104 (bt bc_Mod_cry_10 9 rfl)) rfl ?_
      refine EJ_iload 332 7 (dk_21 (bt bc_Mod_cry_10 10 rfl) (bt bc_Mod_cry_10 11 rfl)) rfl rfl ?_
      refine EJ_iadd 333 (dk_96 (bt bc_Mod_cry_10 12 rfl)) rfl ?_
      refine EJ_ck (fun h81 => ?_)
      refine EJ_iald 334 h81 (dk_46 (bt bc_Mod_cry_10 13 rfl)) rfl ?_
      exact EJ_pick (lv2 := [(0, .ref _), (1, .int _), (2, .int _), (5, .int _), (6, .int _), (8, .int _), (9, .int _), (10, .int _)]) [2, 3, 4, 5, 6, 7, 1, 0] rfl (e_Mod_cry_J334 k244 hk244 _ _ _ _ _ _ _ _ _ _ _ _)
    · refine EJ_iload_n 318 3 (dk_27 (bt bc_Mod_cry_9 29 rfl)) rfl rfl ?_
      refine EJ_goto 334 (dk_167 (bt bc_Mod_cry_9 30 rfl) (bt bc_Mod_cry_9 31 rfl) (bt bc_Mod_cry_10 0 rfl) (n := 16) rfl) (by decide) ?_
      exact EJ_pick (lv2 := [(0, .ref _), (1, .int _), (2, .int _), (5, .int _), (6, .int _), (8, .int _), (9, .int _), (10, .int _)]) [2, 3, 4, 5, 6, 7, 1, 0] rfl (e_Mod_cry_J334 k244 hk244 _ _ _ _ _ _ _ _ _ _ _ _)
def Mod_cry_L244 (n : Nat) : Nat → Int32 → Int32 → Int32 → Int32 → Int32 → Mm → Option (Int32 × Mm) :=
  match n with
  | 0 => fun _ _ _ _ _ _ _ => none
  | n + 1 => Mod_cry_B244 (Mod_cry_L244 n)
theorem e_Mod_cry_L244 {G : Gx} : ∀ (n : Nat) (x0 : Nat) (x1 : Int32) (x2 : Int32) (x5 : Int32) (x6 : Int32) (x8 : Int32) (M : Mm), EJ G Y_Mod_cry cvI 5 244 [(0, .ref x0), (1, .int x1), (2, .int x2), (5, .int x5), (6, .int x6), (8, .int x8)] [] M (Mod_cry_L244 n x0 x1 x2 x5 x6 x8 M) := by
  intro n
  induction n with
  | zero => intros; exact EJ_none
  | succ n ih => intro x0 x1 x2 x5 x6 x8 M; exact e_Mod_cry_B244 _ ih x0 x1 x2 x5 x6 x8 M
def Mod_cry (M : Mm) (a0 : Nat) (a1 : Int32) (a2 : Int32) (a3 : Int32) (a4 : Int32) : Option (Int32 × Mm) :=
  ck (kO M a0 12 107) (
  bd (Mod_isPerson M a0 a1) (fun r2 M3 =>
  if r2 = 0 then (
    some ((-1), M3))
  else (
    bd (Mod_in M3 a3 1 50) (fun r4 M5 =>
    if r4 = 0 then (
      some ((-1), M5))
    else (
      bd (Mod_in M5 a4 1 9999) (fun r6 M7 =>
      if r6 = 0 then (
        some ((-1), M7))
      else (
        ck (kO M7 a0 12 107) (
        if (mI M7 a0 73) = 0 then (
          some ((-1), M7))
        else (
          nn (mR M7 a0 78) (fun b9 =>
          ck (kA M7 b9 20 ((mI M7 a0 70) - 1)) (
          if (mI M7 b9 (ix ((mI M7 a0 70) - 1))) = 60 then (
            some ((-1), M7))
          else (
            let v11 : Int32 := (mI M7 a0 70) - 1
            bd (Mod_asked M7 a0 10) (fun r12 M13 =>
            if r12 = 1 then (
              some ((-2), M13))
            else (
              ck (kO M13 a0 12 107) (
              nn (mR M13 a0 13) (fun b15 =>
              ck (kA M13 b15 20 a1) (
              if (mI M13 b15 (ix a1)) < 0 then (
                nn (mR M13 a0 78) (fun b17 =>
                ck (kA M13 b17 20 v11) (
                let v19 : Int32 := mI M13 b17 (ix v11)
                let v20 : Int32 := (60 * v11) + v19
                nn (mR M13 a0 83) (fun b21 =>
                ck (kA M13 b21 20 v20) (
                let M23 := sI M13 b21 (ix v20) a1
                nn (mR M23 a0 88) (fun b24 =>
                ck (kA M23 b24 22 v20) (
                ck (kZ a2) (
                let M27 := sI M23 b24 (ix v20) a2
                nn (mR M27 a0 84) (fun b28 =>
                ck (kA M27 b28 20 v20) (
                let M30 := sI M27 b28 (ix v20) a3
                nn (mR M30 a0 85) (fun b31 =>
                ck (kA M30 b31 20 v20) (
                let M33 := sI M30 b31 (ix v20) a4
                nn (mR M33 a0 86) (fun b34 =>
                ck (kA M33 b34 20 v20) (
                let M36 := sI M33 b34 (ix v20) (mI M33 a0 0)
                nn (mR M36 a0 87) (fun b37 =>
                nn (mR M36 a0 81) (fun b38 =>
                ck (kA M36 b38 20 v11) (
                ck (kA M36 b37 20 ((120 * v11) + (mI M36 b38 (ix v11)))) (
                let M41 := sI M36 b37 (ix ((120 * v11) + (mI M36 b38 (ix v11)))) v19
                nn (mR M41 a0 81) (fun b42 =>
                ck (kA M41 b42 20 v11) (
                let M44 := sI M41 b42 (ix v11) ((mI M41 b42 (ix v11)) + 1)
                nn (mR M44 a0 78) (fun b45 =>
                ck (kA M44 b45 20 v11) (
                let M47 := sI M44 b45 (ix v11) ((mI M44 b45 (ix v11)) + 1)
                nn (mR M47 a0 100) (fun b48 =>
                ck (kA M47 b48 20 v19) (
                let M50 := sI M47 b48 (ix v19) 0
                bd (Mod_asked M50 a0 0) (fun r51 M52 =>
                if a4 < r51 then (
                  some ((-3), M52))
                else (
                  ck (kO M52 a0 12 107) (
                  bd (Mod_asked M52 a0 1) (fun r54 M55 =>
                  if a4 ≤ r54 then (
                    ck (kO M55 a0 12 107) (
                    nn (mR M55 a0 100) (fun b57 =>
                    ck (kA M55 b57 20 v19) (
                    let M59 := sI M55 b57 (ix v19) a3
                    bd (Mod_against M59 a0 v11 v19 v19) (fun r60 M61 =>
                    Mod_cry_L244 fu a0 a1 a2 v11 v19 r60 M61)))))
                  else (
                    some ((-3), M55))))))))))))))))))))))))))))))
              else (
                some ((-4), M13)))))))))))))))))))
set_option maxRecDepth 100000 in
set_option maxHeartbeats 4000000 in
theorem s_Mod_cry (G : Gx) (M : Mm) (a0 : Nat) (a1 : Int32) (a2 : Int32) (a3 : Int32) (a4 : Int32) : FnS G Y_Mod_cry cvI 5 [.ref a0, .int a1, .int a2, .int a3, .int a4] M (Mod_cry M a0 a1 a2 a3 a4) := by
  refine FnS.ofE (by decide) (Nat.le_of_ble_eq_true rfl) ?_
  show EJ G Y_Mod_cry cvI 5 0 [(0, .ref a0), (1, .int a1), (2, .int a2), (3, .int a3), (4, .int a4)] [] M _
  unfold Mod_cry
  refine EJ_aload_n 1 0 (dk_42 (bt bc_Mod_cry_0 0 rfl)) rfl rfl ?_
  refine EJ_iload_n 2 1 (dk_27 (bt bc_Mod_cry_0 1 rfl)) rfl rfl ?_
  refine EJ_ck (fun h1 => ?_)
  refine EJ_callVi (Y2 := Y_Mod_isPerson) 5 cf12 (s_Mod_isPerson G _ _ _) (of_decide_eq_true h1) rfl (dk_182 (bt bc_Mod_cry_0 2 rfl) (bt bc_Mod_cry_0 3 rfl) (bt bc_Mod_cry_0 4 rfl) (n := 278) rfl) rfl tw_1576 tw_1578 ts_41 tw_1579 hd_Mod_isPerson rfl (by decide) (Nat.le_of_ble_eq_true rfl) (fun r2 M3 => ?_)
  refine EJ_if_eq 53 8 (dk_153 (bt bc_Mod_cry_0 5 rfl) (bt bc_Mod_cry_0 6 rfl) (bt bc_Mod_cry_0 7 rfl) (n := 48) rfl) (by decide) rfl (fun _ => ?_) (fun _ => ?_)
  · refine EJ_iconst 54 (dk_2 (bt bc_Mod_cry_1 21 rfl)) rfl (v := (-1)) kI_m1 ?_
    exact EJ_iret rfl (dk_172 (bt bc_Mod_cry_1 22 rfl))
  · refine EJ_iload_n 9 3 (dk_29 (bt bc_Mod_cry_0 8 rfl)) rfl rfl ?_
    refine EJ_iconst 10 (dk_4 (bt bc_Mod_cry_0 9 rfl)) rfl (v := 1) kI_1 ?_
    refine EJ_bipush 12 (dk_16 (bt bc_Mod_cry_0 10 rfl) (bt bc_Mod_cry_0 11 rfl) (n := 50) rfl) rfl (v := 50) kB_50 ?_
    refine EJ_callSi (Y2 := Y_Mod_in) 15 (s_Mod_in G _ _ _ _) rfl (dk_184 (bt bc_Mod_cry_0 12 rfl) (bt bc_Mod_cry_0 13 rfl) (bt bc_Mod_cry_0 14 rfl) (n := 252) rfl) rfl tw_1532 tw_1533 tw_8 tw_1534 hd_Mod_in rfl (by decide) (Nat.le_of_ble_eq_true rfl) (fun r4 M5 => ?_)
    refine EJ_if_eq 53 18 (dk_153 (bt bc_Mod_cry_0 15 rfl) (bt bc_Mod_cry_0 16 rfl) (bt bc_Mod_cry_0 17 rfl) (n := 38) rfl) (by decide) rfl (fun _ => ?_) (fun _ => ?_)
    · refine EJ_iconst 54 (dk_2 (bt bc_Mod_cry_1 21 rfl)) rfl (v := (-1)) kI_m1 ?_
      exact EJ_iret rfl (dk_172 (bt bc_Mod_cry_1 22 rfl))
    · refine EJ_iload 20 4 (dk_21 (bt bc_Mod_cry_0 18 rfl) (bt bc_Mod_cry_0 19 rfl)) rfl rfl ?_
      refine EJ_iconst 21 (dk_4 (bt bc_Mod_cry_0 20 rfl)) rfl (v := 1) kI_1 ?_
      refine EJ_sipush 24 (dk_17 (bt bc_Mod_cry_0 21 rfl) (bt bc_Mod_cry_0 22 rfl) (bt bc_Mod_cry_0 23 rfl) (n := 9999) rfl) rfl (v := 9999) kS_9999 ?_
      refine EJ_callSi (Y2 := Y_Mod_in) 27 (s_Mod_in G _ _ _ _) rfl (dk_184 (bt bc_Mod_cry_0 24 rfl) (bt bc_Mod_cry_0 25 rfl) (bt bc_Mod_cry_0 26 rfl) (n := 252) rfl) rfl tw_1532 tw_1533 tw_8 tw_1534 hd_Mod_in rfl (by decide) (Nat.le_of_ble_eq_true rfl) (fun r6 M7 => ?_)
      refine EJ_if_eq 53 30 (dk_153 (bt bc_Mod_cry_0 27 rfl) (bt bc_Mod_cry_0 28 rfl) (bt bc_Mod_cry_0 29 rfl) (n := 26) rfl) (by decide) rfl (fun _ => ?_) (fun _ => ?_)
      · refine EJ_iconst 54 (dk_2 (bt bc_Mod_cry_1 21 rfl)) rfl (v := (-1)) kI_m1 ?_
        exact EJ_iret rfl (dk_172 (bt bc_Mod_cry_1 22 rfl))
      · refine EJ_aload_n 31 0 (dk_42 (bt bc_Mod_cry_0 30 rfl)) rfl rfl ?_
        refine EJ_ck (fun h8 => ?_)
        refine EJ_getI cf12 73 (by decide) 34 tw_1271 (fun _ _ _ => rfl) (dk_180 (bt bc_Mod_cry_0 31 rfl) (bt bc_Mod_cry_1 0 rfl) (bt bc_Mod_cry_1 1 rfl) (n := 510) rfl) rfl (of_decide_eq_true h8) ?_
        refine EJ_if_eq 53 37 (dk_153 (bt bc_Mod_cry_1 2 rfl) (bt bc_Mod_cry_1 3 rfl) (bt bc_Mod_cry_1 4 rfl) (n := 19) rfl) (by decide) rfl (fun _ => ?_) (fun _ => ?_)
        · refine EJ_iconst 54 (dk_2 (bt bc_Mod_cry_1 21 rfl)) rfl (v := (-1)) kI_m1 ?_
          exact EJ_iret rfl (dk_172 (bt bc_Mod_cry_1 22 rfl))
        · refine EJ_aload_n 38 0 (dk_42 (bt bc_Mod_cry_1 5 rfl)) rfl rfl ?_
          refine EJ_getR cf12 78 (by decide) 41 tw_1276 (fun _ _ _ => rfl) (dk_180 (bt bc_Mod_cry_1 6 rfl) (bt bc_Mod_cry_1 7 rfl) (bt bc_Mod_cry_1 8 rfl) (n := 161) rfl) rfl (of_decide_eq_true h8) (fun b9 => ?_)
          refine EJ_aload_n 42 0 (dk_42 (bt bc_Mod_cry_1 9 rfl)) rfl rfl ?_
          refine EJ_getI cf12 70 (by decide) 45 tw_1268 (fun _ _ _ => rfl) (dk_180 (bt bc_Mod_cry_1 10 rfl) (bt bc_Mod_cry_1 11 rfl) (bt bc_Mod_cry_1 12 rfl) (n := 513) rfl) rfl (of_decide_eq_true h8) ?_
          refine EJ_iconst 46 (dk_4 (bt bc_Mod_cry_1 13 rfl)) rfl (v := 1) kI_1 ?_
          refine EJ_isub 47 (dk_100 (bt bc_Mod_cry_1 14 rfl)) rfl ?_
          refine EJ_ck (fun h10 => ?_)
          refine EJ_iald 48 h10 (dk_46 (bt bc_Mod_cry_1 15 rfl)) rfl ?_
          refine EJ_bipush 50 (dk_16 (bt bc_Mod_cry_1 16 rfl) (bt bc_Mod_cry_1 17 rfl) (n := 60) rfl) rfl (v := 60) kB_60 ?_
          refine EJ_icmp_ne 55 53 (dk_160 (bt bc_Mod_cry_1 18 rfl) (bt bc_Mod_cry_1 19 rfl) (bt bc_Mod_cry_1 20 rfl) (n := 5) rfl) (by decide) rfl (fun _ => ?_) (fun _ => ?_)
          · refine EJ_aload_n 56 0 (dk_42 (bt bc_Mod_cry_1 23 rfl)) rfl rfl ?_
            refine EJ_getI cf12 70 (by decide) 59 tw_1268 (fun _ _ _ => rfl) (dk_180 (bt bc_Mod_cry_1 24 rfl) (bt bc_Mod_cry_1 25 rfl) (bt bc_Mod_cry_1 26 rfl) (n := 513) rfl) rfl (of_decide_eq_true h8) ?_
            refine EJ_iconst 60 (dk_4 (bt bc_Mod_cry_1 27 rfl)) rfl (v := 1) kI_1 ?_
            refine EJ_isub 61 (dk_100 (bt bc_Mod_cry_1 28 rfl)) rfl ?_
            refine EJ_istore 63 (lv2 := [(5, .int _), (0, .ref _), (1, .int _), (2, .int _), (3, .int _), (4, .int _)]) (dk_54 (bt bc_Mod_cry_1 29 rfl) (bt bc_Mod_cry_1 30 rfl)) rfl (by decide) rfl ?_
            refine EJ_aload_n 64 1 (dk_42 (bt bc_Mod_cry_1 31 rfl)) rfl rfl ?_
            refine EJ_bipush 66 (dk_16 (bt bc_Mod_cry_2 0 rfl) (bt bc_Mod_cry_2 1 rfl) (n := 10) rfl) rfl (v := 10) kB_10 ?_
            refine EJ_callVi (Y2 := Y_Mod_asked) 69 cf12 (s_Mod_asked G _ _ _) (of_decide_eq_true h8) rfl (dk_182 (bt bc_Mod_cry_2 2 rfl) (bt bc_Mod_cry_2 3 rfl) (bt bc_Mod_cry_2 4 rfl) (n := 302) rfl) rfl tw_1608 tw_1610 ts_44 tw_1611 hd_Mod_asked rfl (by decide) (Nat.le_of_ble_eq_true rfl) (fun r12 M13 => ?_)
            refine EJ_iconst 70 (dk_4 (bt bc_Mod_cry_2 5 rfl)) rfl (v := 1) kI_1 ?_
            refine EJ_icmp_ne 76 73 (dk_160 (bt bc_Mod_cry_2 6 rfl) (bt bc_Mod_cry_2 7 rfl) (bt bc_Mod_cry_2 8 rfl) (n := 6) rfl) (by decide) rfl (fun _ => ?_) (fun _ => ?_)
            · refine EJ_aload_n 77 1 (dk_42 (bt bc_Mod_cry_2 12 rfl)) rfl rfl ?_
              refine EJ_ck (fun h14 => ?_)
              refine EJ_getR cf12 13 (by decide) 80 tw_1211 (fun _ _ _ => rfl) (dk_180 (bt bc_Mod_cry_2 13 rfl) (bt bc_Mod_cry_2 14 rfl) (bt bc_Mod_cry_2 15 rfl) (n := 42) rfl) rfl (of_decide_eq_true h14) (fun b15 => ?_)
              refine EJ_iload_n 81 2 (dk_27 (bt bc_Mod_cry_2 16 rfl)) rfl rfl ?_
              refine EJ_ck (fun h16 => ?_)
              refine EJ_iald 82 h16 (dk_46 (bt bc_Mod_cry_2 17 rfl)) rfl ?_
              refine EJ_if_lt 88 85 (dk_155 (bt bc_Mod_cry_2 18 rfl) (bt bc_Mod_cry_2 19 rfl) (bt bc_Mod_cry_2 20 rfl) (n := 6) rfl) (by decide) rfl (fun _ => ?_) (fun _ => ?_)
              · refine EJ_aload_n 89 1 (dk_42 (bt bc_Mod_cry_2 24 rfl)) rfl rfl ?_
                refine EJ_getR cf12 78 (by decide) 92 tw_1276 (fun _ _ _ => rfl) (dk_180 (bt bc_Mod_cry_2 25 rfl) (bt bc_Mod_cry_2 26 rfl) (bt bc_Mod_cry_2 27 rfl) (n := 161) rfl) rfl (of_decide_eq_true h14) (fun b17 => ?_)
                refine EJ_iload 94 0 (dk_21 (bt bc_Mod_cry_2 28 rfl) (bt bc_Mod_cry_2 29 rfl)) rfl rfl ?_
                refine EJ_ck (fun h18 => ?_)
                refine EJ_iald 95 h18 (dk_46 (bt bc_Mod_cry_2 30 rfl)) rfl ?_
                refine EJ_istore 97 (lv2 := [(6, .int _), (5, .int _), (0, .ref _), (1, .int _), (2, .int _), (3, .int _), (4, .int _)]) (dk_54 (bt bc_Mod_cry_2 31 rfl) (bt bc_Mod_cry_3 0 rfl)) rfl (by decide) rfl ?_
                refine EJ_bipush 99 (dk_16 (bt bc_Mod_cry_3 1 rfl) (bt bc_Mod_cry_3 2 rfl) (n := 60) rfl) rfl (v := 60) kB_60 ?_
                refine EJ_iload 101 1 (dk_21 (bt bc_Mod_cry_3 3 rfl) (bt bc_Mod_cry_3 4 rfl)) rfl rfl ?_
                refine EJ_imul 102 (dk_104 (bt bc_Mod_cry_3 5 rfl)) rfl ?_
                refine EJ_iload 104 0 (dk_21 (bt bc_Mod_cry_3 6 rfl) (bt bc_Mod_cry_3 7 rfl)) rfl rfl ?_
                refine EJ_iadd 105 (dk_96 (bt bc_Mod_cry_3 8 rfl)) rfl ?_
                refine EJ_istore 107 (lv2 := [(7, .int _), (6, .int _), (5, .int _), (0, .ref _), (1, .int _), (2, .int _), (3, .int _), (4, .int _)]) (dk_54 (bt bc_Mod_cry_3 9 rfl) (bt bc_Mod_cry_3 10 rfl)) rfl (by decide) rfl ?_
                refine EJ_aload_n 108 3 (dk_42 (bt bc_Mod_cry_3 11 rfl)) rfl rfl ?_
                refine EJ_getR cf12 83 (by decide) 111 tw_1281 (fun _ _ _ => rfl) (dk_180 (bt bc_Mod_cry_3 12 rfl) (bt bc_Mod_cry_3 13 rfl) (bt bc_Mod_cry_3 14 rfl) (n := 176) rfl) rfl (of_decide_eq_true h14) (fun b21 => ?_)
                refine EJ_iload 113 0 (dk_21 (bt bc_Mod_cry_3 15 rfl) (bt bc_Mod_cry_3 16 rfl)) rfl rfl ?_
                refine EJ_iload_n 114 4 (dk_27 (bt bc_Mod_cry_3 17 rfl)) rfl rfl ?_
                refine EJ_ck (fun h22 => ?_)
                refine EJ_iast 115 h22 (dk_79 (bt bc_Mod_cry_3 18 rfl)) rfl ?_
                refine EJ_aload_n 116 3 (dk_42 (bt bc_Mod_cry_3 19 rfl)) rfl rfl ?_
                refine EJ_getR cf12 88 (by decide) 119 tw_1286 (fun _ _ _ => rfl) (dk_180 (bt bc_Mod_cry_3 20 rfl) (bt bc_Mod_cry_3 21 rfl) (bt bc_Mod_cry_3 22 rfl) (n := 191) rfl) rfl (kp_I (of_decide_eq_true h14)) (fun b24 => ?_)
                refine EJ_iload 121 0 (dk_21 (bt bc_Mod_cry_3 23 rfl) (bt bc_Mod_cry_3 24 rfl)) rfl rfl ?_
                refine EJ_iload_n 122 5 (dk_28 (bt bc_Mod_cry_3 25 rfl)) rfl rfl ?_
                refine EJ_ck (fun h25 => ?_)
                refine EJ_ck (fun h26 => ?_)
                refine EJ_zast 123 h25 (narZ h26) (dk_84 (bt bc_Mod_cry_3 26 rfl)) rfl ?_
                refine EJ_aload_n 124 3 (dk_42 (bt bc_Mod_cry_3 27 rfl)) rfl rfl ?_
                refine EJ_getR cf12 84 (by decide) 127 tw_1282 (fun _ _ _ => rfl) (dk_180 (bt bc_Mod_cry_3 28 rfl) (bt bc_Mod_cry_3 29 rfl) (bt bc_Mod_cry_3 30 rfl) (n := 179) rfl) rfl (kp_I (kp_I (of_decide_eq_true h14))) (fun b28 => ?_)
                refine EJ_iload 129 0 (dk_21 (bt bc_Mod_cry_3 31 rfl) (bt bc_Mod_cry_4 0 rfl)) rfl rfl ?_
                refine EJ_iload_n 130 6 (dk_29 (bt bc_Mod_cry_4 1 rfl)) rfl rfl ?_
                refine EJ_ck (fun h29 => ?_)
                refine EJ_iast 131 h29 (dk_79 (bt bc_Mod_cry_4 2 rfl)) rfl ?_
                refine EJ_aload_n 132 3 (dk_42 (bt bc_Mod_cry_4 3 rfl)) rfl rfl ?_
                refine EJ_getR cf12 85 (by decide) 135 tw_1283 (fun _ _ _ => rfl) (dk_180 (bt bc_Mod_cry_4 4 rfl) (bt bc_Mod_cry_4 5 rfl) (bt bc_Mod_cry_4 6 rfl) (n := 182) rfl) rfl (kp_I (kp_I (kp_I (of_decide_eq_true h14)))) (fun b31 => ?_)
                refine EJ_iload 137 0 (dk_21 (bt bc_Mod_cry_4 7 rfl) (bt bc_Mod_cry_4 8 rfl)) rfl rfl ?_
                refine EJ_iload 139 7 (dk_21 (bt bc_Mod_cry_4 9 rfl) (bt bc_Mod_cry_4 10 rfl)) rfl rfl ?_
                refine EJ_ck (fun h32 => ?_)
                refine EJ_iast 140 h32 (dk_79 (bt bc_Mod_cry_4 11 rfl)) rfl ?_
                refine EJ_aload_n 141 3 (dk_42 (bt bc_Mod_cry_4 12 rfl)) rfl rfl ?_
                refine EJ_getR cf12 86 (by decide) 144 tw_1284 (fun _ _ _ => rfl) (dk_180 (bt bc_Mod_cry_4 13 rfl) (bt bc_Mod_cry_4 14 rfl) (bt bc_Mod_cry_4 15 rfl) (n := 185) rfl) rfl (kp_I (kp_I (kp_I (kp_I (of_decide_eq_true h14))))) (fun b34 => ?_)
                refine EJ_iload 146 0 (dk_21 (bt bc_Mod_cry_4 16 rfl) (bt bc_Mod_cry_4 17 rfl)) rfl rfl ?_
                refine EJ_aload_n 147 3 (dk_42 (bt bc_Mod_cry_4 18 rfl)) rfl rfl ?_
                refine EJ_getI cf12 0 (by decide) 150 tw_1198 (fun _ _ _ => rfl) (dk_180 (bt bc_Mod_cry_4 19 rfl) (bt bc_Mod_cry_4 20 rfl) (bt bc_Mod_cry_4 21 rfl) (n := 284) rfl) rfl (kp_I (kp_I (kp_I (kp_I (of_decide_eq_true h14))))) ?_
                refine EJ_ck (fun h35 => ?_)
                refine EJ_iast 151 h35 (dk_79 (bt bc_Mod_cry_4 22 rfl)) rfl ?_
                refine EJ_aload_n 152 3 (dk_42 (bt bc_Mod_cry_4 23 rfl)) rfl rfl ?_
                refine EJ_getR cf12 87 (by decide) 155 tw_1285 (fun _ _ _ => rfl) (dk_180 (bt bc_Mod_cry_4 24 rfl) (bt bc_Mod_cry_4 25 rfl) (bt bc_Mod_cry_4 26 rfl) (n := 188) rfl) rfl (kp_I (kp_I (kp_I (kp_I (kp_I (of_decide_eq_true h14)))))) (fun b37 => ?_)
                refine EJ_bipush 157 (dk_16 (bt bc_Mod_cry_4 27 rfl) (bt bc_Mod_cry_4 28 rfl) (n := 120) rfl) rfl (v := 120) kB_120 ?_
                refine EJ_iload 159 2 (dk_21 (bt bc_Mod_cry_4 29 rfl) (bt bc_Mod_cry_4 30 rfl)) rfl rfl ?_
                refine EJ_imul 160 (dk_104 (bt bc_Mod_cry_4 31 rfl)) rfl ?_
                refine EJ_aload_n 161 3 (dk_42 (bt bc_Mod_cry_5 0 rfl)) rfl rfl ?_
                refine EJ_getR cf12 81 (by decide) 164 tw_1279 (fun _ _ _ => rfl) (dk_180 (bt bc_Mod_cry_5 1 rfl) (bt bc_Mod_cry_5 2 rfl) (bt bc_Mod_cry_5 3 rfl) (n := 170) rfl) rfl (kp_I (kp_I (kp_I (kp_I (kp_I (of_decide_eq_true h14)))))) (fun b38 => ?_)
                refine EJ_iload 166 2 (dk_21 (bt bc_Mod_cry_5 4 rfl) (bt bc_Mod_cry_5 5 rfl)) rfl rfl ?_
                refine EJ_ck (fun h39 => ?_)
                refine EJ_iald 167 h39 (dk_46 (bt bc_Mod_cry_5 6 rfl)) rfl ?_
                refine EJ_iadd 168 (dk_96 (bt bc_Mod_cry_5 7 rfl)) rfl ?_
                refine EJ_iload 170 1 (dk_21 (bt bc_Mod_cry_5 8 rfl) (bt bc_Mod_cry_5 9 rfl)) rfl rfl ?_
                refine EJ_ck (fun h40 => ?_)
                refine EJ_iast 171 h40 (dk_79 (bt bc_Mod_cry_5 10 rfl)) rfl ?_
                refine EJ_aload_n 172 3 (dk_42 (bt bc_Mod_cry_5 11 rfl)) rfl rfl ?_
                refine EJ_getR cf12 81 (by decide) 175 tw_1279 (fun _ _ _ => rfl) (dk_180 (bt bc_Mod_cry_5 12 rfl) (bt bc_Mod_cry_5 13 rfl) (bt bc_Mod_cry_5 14 rfl) (n := 170) rfl) rfl (kp_I (kp_I (kp_I (kp_I (kp_I (kp_I (of_decide_eq_true h14))))))) (fun b42 => ?_)
                refine EJ_iload 177 2 (dk_21 (bt bc_Mod_cry_5 15 rfl) (bt bc_Mod_cry_5 16 rfl)) rfl rfl ?_
                refine EJ_dup2 178 (dk_92 (bt bc_Mod_cry_5 17 rfl)) rfl rfl rfl ?_
                refine EJ_ck (fun h43 => ?_)
                refine EJ_iald 179 h43 (dk_46 (bt bc_Mod_cry_5 18 rfl)) rfl ?_
                refine EJ_iconst 180 (dk_4 (bt bc_Mod_cry_5 19 rfl)) rfl (v := 1) kI_1 ?_
                refine EJ_iadd 181 (dk_96 (bt bc_Mod_cry_5 20 rfl)) rfl ?_
                refine EJ_iast 182 h43 (dk_79 (bt bc_Mod_cry_5 21 rfl)) rfl ?_
                refine EJ_aload_n 183 3 (dk_42 (bt bc_Mod_cry_5 22 rfl)) rfl rfl ?_
                refine EJ_getR cf12 78 (by decide) 186 tw_1276 (fun _ _ _ => rfl) (dk_180 (bt bc_Mod_cry_5 23 rfl) (bt bc_Mod_cry_5 24 rfl) (bt bc_Mod_cry_5 25 rfl) (n := 161) rfl) rfl (kp_I (kp_I (kp_I (kp_I (kp_I (kp_I (kp_I (of_decide_eq_true h14)))))))) (fun b45 => ?_)
                refine EJ_iload 188 2 (dk_21 (bt bc_Mod_cry_5 26 rfl) (bt bc_Mod_cry_5 27 rfl)) rfl rfl ?_
                refine EJ_dup2 189 (dk_92 (bt bc_Mod_cry_5 28 rfl)) rfl rfl rfl ?_
                refine EJ_ck (fun h46 => ?_)
                refine EJ_iald 190 h46 (dk_46 (bt bc_Mod_cry_5 29 rfl)) rfl ?_
                refine EJ_iconst 191 (dk_4 (bt bc_Mod_cry_5 30 rfl)) rfl (v := 1) kI_1 ?_
                refine EJ_iadd 192 (dk_96 (bt bc_Mod_cry_5 31 rfl)) rfl ?_
                refine EJ_iast 193 h46 (dk_79 (bt bc_Mod_cry_6 0 rfl)) rfl ?_
                refine EJ_aload_n 194 3 (dk_42 (bt bc_Mod_cry_6 1 rfl)) rfl rfl ?_
                refine EJ_getR cf12 100 (by decide) 197 tw_1298 (fun _ _ _ => rfl) (dk_180 (bt bc_Mod_cry_6 2 rfl) (bt bc_Mod_cry_6 3 rfl) (bt bc_Mod_cry_6 4 rfl) (n := 227) rfl) rfl (kp_I (kp_I (kp_I (kp_I (kp_I (kp_I (kp_I (kp_I (of_decide_eq_true h14))))))))) (fun b48 => ?_)
                refine EJ_iload 199 1 (dk_21 (bt bc_Mod_cry_6 5 rfl) (bt bc_Mod_cry_6 6 rfl)) rfl rfl ?_
                refine EJ_iconst 200 (dk_3 (bt bc_Mod_cry_6 7 rfl)) rfl (v := 0) kI_0 ?_
                refine EJ_ck (fun h49 => ?_)
                refine EJ_iast 201 h49 (dk_79 (bt bc_Mod_cry_6 8 rfl)) rfl ?_
                refine EJ_iload 203 7 (dk_21 (bt bc_Mod_cry_6 9 rfl) (bt bc_Mod_cry_6 10 rfl)) rfl rfl ?_
                refine EJ_aload_n 204 3 (dk_42 (bt bc_Mod_cry_6 11 rfl)) rfl rfl ?_
                refine EJ_iconst 205 (dk_3 (bt bc_Mod_cry_6 12 rfl)) rfl (v := 0) kI_0 ?_
                refine EJ_callVi (Y2 := Y_Mod_asked) 208 cf12 (s_Mod_asked G _ _ _) (kp_I (kp_I (kp_I (kp_I (kp_I (kp_I (kp_I (kp_I (kp_I (of_decide_eq_true h14)))))))))) rfl (dk_182 (bt bc_Mod_cry_6 13 rfl) (bt bc_Mod_cry_6 14 rfl) (bt bc_Mod_cry_6 15 rfl) (n := 302) rfl) rfl tw_1608 tw_1610 ts_44 tw_1611 hd_Mod_asked rfl (by decide) (Nat.le_of_ble_eq_true rfl) (fun r51 M52 => ?_)
                refine EJ_icmp_lt 221 211 (dk_161 (bt bc_Mod_cry_6 16 rfl) (bt bc_Mod_cry_6 17 rfl) (bt bc_Mod_cry_6 18 rfl) (n := 13) rfl) (by decide) rfl (fun _ => ?_) (fun _ => ?_)
                · refine EJ_bipush 223 (dk_16 (bt bc_Mod_cry_6 29 rfl) (bt bc_Mod_cry_6 30 rfl) (n := -3) rfl) rfl (v := (-3)) kB_m3 ?_
                  exact EJ_iret rfl (dk_172 (bt bc_Mod_cry_6 31 rfl))
                · refine EJ_iload 213 7 (dk_21 (bt bc_Mod_cry_6 19 rfl) (bt bc_Mod_cry_6 20 rfl)) rfl rfl ?_
                  refine EJ_aload_n 214 3 (dk_42 (bt bc_Mod_cry_6 21 rfl)) rfl rfl ?_
                  refine EJ_iconst 215 (dk_4 (bt bc_Mod_cry_6 22 rfl)) rfl (v := 1) kI_1 ?_
                  refine EJ_ck (fun h53 => ?_)
                  refine EJ_callVi (Y2 := Y_Mod_asked) 218 cf12 (s_Mod_asked G _ _ _) (of_decide_eq_true h53) rfl (dk_182 (bt bc_Mod_cry_6 23 rfl) (bt bc_Mod_cry_6 24 rfl) (bt bc_Mod_cry_6 25 rfl) (n := 302) rfl) rfl tw_1608 tw_1610 ts_44 tw_1611 hd_Mod_asked rfl (by decide) (Nat.le_of_ble_eq_true rfl) (fun r54 M55 => ?_)
                  refine EJ_icmp_le 224 221 (dk_164 (bt bc_Mod_cry_6 26 rfl) (bt bc_Mod_cry_6 27 rfl) (bt bc_Mod_cry_6 28 rfl) (n := 6) rfl) (by decide) rfl (fun _ => ?_) (fun _ => ?_)
                  · refine EJ_aload_n 225 3 (dk_42 (bt bc_Mod_cry_7 0 rfl)) rfl rfl ?_
                    refine EJ_ck (fun h56 => ?_)
                    refine EJ_getR cf12 100 (by decide) 228 tw_1298 (fun _ _ _ => rfl) (dk_180 (bt bc_Mod_cry_7 1 rfl) (bt bc_Mod_cry_7 2 rfl) (bt bc_Mod_cry_7 3 rfl) (n := 227) rfl) rfl (of_decide_eq_true h56) (fun b57 => ?_)
                    refine EJ_iload 230 1 (dk_21 (bt bc_Mod_cry_7 4 rfl) (bt bc_Mod_cry_7 5 rfl)) rfl rfl ?_
                    refine EJ_iload_n 231 6 (dk_29 (bt bc_Mod_cry_7 6 rfl)) rfl rfl ?_
                    refine EJ_ck (fun h58 => ?_)
                    refine EJ_iast 232 h58 (dk_79 (bt bc_Mod_cry_7 7 rfl)) rfl ?_
                    refine EJ_aload_n 233 3 (dk_42 (bt bc_Mod_cry_7 8 rfl)) rfl rfl ?_
                    refine EJ_iload 235 2 (dk_21 (bt bc_Mod_cry_7 9 rfl) (bt bc_Mod_cry_7 10 rfl)) rfl rfl ?_
                    refine EJ_iload 237 1 (dk_21 (bt bc_Mod_cry_7 11 rfl) (bt bc_Mod_cry_7 12 rfl)) rfl rfl ?_
                    refine EJ_iload 239 1 (dk_21 (bt bc_Mod_cry_7 13 rfl) (bt bc_Mod_cry_7 14 rfl)) rfl rfl ?_
                    refine EJ_callVi (Y2 := Y_Mod_against) 242 cf12 (s_Mod_against G _ _ _ _ _) (kp_I (of_decide_eq_true h56)) rfl (dk_182 (bt bc_Mod_cry_7 15 rfl) (bt bc_Mod_cry_7 16 rfl) (bt bc_Mod_cry_7 17 rfl) (n := 519) rfl) rfl tw_1797 tw_1799 ts_67 tw_1800 hd_Mod_against rfl (by decide) (Nat.le_of_ble_eq_true rfl) (fun r60 M61 => ?_)
                    refine EJ_istore 244 (lv2 := [(8, .int _), (7, .int _), (6, .int _), (5, .int _), (0, .ref _), (1, .int _), (2, .int _), (3, .int _), (4, .int _)]) (dk_54 (bt bc_Mod_cry_7 18 rfl) (bt bc_Mod_cry_7 19 rfl)) rfl (by decide) rfl ?_
                    exact EJ_pick (lv2 := [(0, .ref _), (1, .int _), (2, .int _), (5, .int _), (6, .int _), (8, .int _)]) [4, 5, 6, 3, 2, 0] rfl (e_Mod_cry_L244 fu _ _ _ _ _ _ _)
                  · refine EJ_bipush 223 (dk_16 (bt bc_Mod_cry_6 29 rfl) (bt bc_Mod_cry_6 30 rfl) (n := -3) rfl) rfl (v := (-3)) kB_m3 ?_
                    exact EJ_iret rfl (dk_172 (bt bc_Mod_cry_6 31 rfl))
              · refine EJ_bipush 87 (dk_16 (bt bc_Mod_cry_2 21 rfl) (bt bc_Mod_cry_2 22 rfl) (n := -4) rfl) rfl (v := (-4)) kB_m4 ?_
                exact EJ_iret rfl (dk_172 (bt bc_Mod_cry_2 23 rfl))
            · refine EJ_bipush 75 (dk_16 (bt bc_Mod_cry_2 9 rfl) (bt bc_Mod_cry_2 10 rfl) (n := -2) rfl) rfl (v := (-2)) kB_m2 ?_
              exact EJ_iret rfl (dk_172 (bt bc_Mod_cry_2 11 rfl))
          · refine EJ_iconst 54 (dk_2 (bt bc_Mod_cry_1 21 rfl)) rfl (v := (-1)) kI_m1 ?_
            exact EJ_iret rfl (dk_172 (bt bc_Mod_cry_1 22 rfl))
abbrev Y_Mod_back : Ym := (⟨"RiceHallModel", "back", "(I)I"⟩, prog_14_method_66_code, 4, (some FieldType.int))
theorem bc_Mod_back_0 : bts prog_14_method_66_code 0 [42, 180, 1, 254, 153, 0, 31, 27, 155, 0, 27, 27, 42, 180, 0, 161, 42, 180, 2, 1, 4, 100, 46, 162, 0, 12, 42, 180, 0, 227, 27, 46] := bts_of (by decide +kernel)
theorem bc_Mod_back_1 : bts prog_14_method_66_code 32 [154, 0, 5, 2, 172, 42, 180, 2, 1, 4, 100, 61, 42, 180, 0, 188, 16, 120, 28, 104, 42, 180, 0, 170, 28, 46, 96, 16, 100, 27, 96, 79] := bts_of (by decide +kernel)
theorem bc_Mod_back_2 : bts prog_14_method_66_code 64 [42, 180, 0, 170, 28, 92, 46, 4, 96, 79, 42, 180, 0, 227, 27, 46, 62, 42, 180, 0, 227, 27, 3, 79, 29, 172] := bts_of (by decide +kernel)
theorem hd_Mod_back : Y_Mod_back.1.cls = RX12 ∧ Y_Mod_back.1.cls ≠ "java/lang/invoke/MethodHandle" ∧ Y_Mod_back.1.cls ≠ "java/lang/invoke/VarHandle" ∧ (parseMethodDescriptor Y_Mod_back.1.desc).map (fun d => d.parameters.length) = some 1 := by decide +kernel
def Mod_back (M : Mm) (a0 : Nat) (a1 : Int32) : Option (Int32 × Mm) :=
  ck (kO M a0 12 107) (
  if (mI M a0 73) = 0 then (
    some ((-1), M))
  else (
    if a1 < 0 then (
      some ((-1), M))
    else (
      nn (mR M a0 78) (fun b2 =>
      ck (kA M b2 20 ((mI M a0 70) - 1)) (
      if (mI M b2 (ix ((mI M a0 70) - 1))) ≤ a1 then (
        some ((-1), M))
      else (
        nn (mR M a0 100) (fun b4 =>
        ck (kA M b4 20 a1) (
        if (mI M b4 (ix a1)) = 0 then (
          some ((-1), M))
        else (
          let v6 : Int32 := (mI M a0 70) - 1
          nn (mR M a0 87) (fun b7 =>
          nn (mR M a0 81) (fun b8 =>
          ck (kA M b8 20 v6) (
          ck (kA M b7 20 ((120 * v6) + (mI M b8 (ix v6)))) (
          let M11 := sI M b7 (ix ((120 * v6) + (mI M b8 (ix v6)))) (100 + a1)
          nn (mR M11 a0 81) (fun b12 =>
          ck (kA M11 b12 20 v6) (
          let M14 := sI M11 b12 (ix v6) ((mI M11 b12 (ix v6)) + 1)
          nn (mR M14 a0 100) (fun b15 =>
          ck (kA M14 b15 20 a1) (
          let v17 : Int32 := mI M14 b15 (ix a1)
          nn (mR M14 a0 100) (fun b18 =>
          ck (kA M14 b18 20 a1) (
          let M20 := sI M14 b18 (ix a1) 0
          some (v17, M20))))))))))))))))))))
set_option maxRecDepth 100000 in
set_option maxHeartbeats 4000000 in
theorem s_Mod_back (G : Gx) (M : Mm) (a0 : Nat) (a1 : Int32) : FnS G Y_Mod_back cvI 1 [.ref a0, .int a1] M (Mod_back M a0 a1) := by
  refine FnS.ofE (by decide) (Nat.le_of_ble_eq_true rfl) ?_
  show EJ G Y_Mod_back cvI 1 0 [(0, .ref a0), (1, .int a1)] [] M _
  unfold Mod_back
  refine EJ_aload_n 1 0 (dk_42 (bt bc_Mod_back_0 0 rfl)) rfl rfl ?_
  refine EJ_ck (fun h1 => ?_)
  refine EJ_getI cf12 73 (by decide) 4 tw_1271 (fun _ _ _ => rfl) (dk_180 (bt bc_Mod_back_0 1 rfl) (bt bc_Mod_back_0 2 rfl) (bt bc_Mod_back_0 3 rfl) (n := 510) rfl) rfl (of_decide_eq_true h1) ?_
  refine EJ_if_eq 35 7 (dk_153 (bt bc_Mod_back_0 4 rfl) (bt bc_Mod_back_0 5 rfl) (bt bc_Mod_back_0 6 rfl) (n := 31) rfl) (by decide) rfl (fun _ => ?_) (fun _ => ?_)
  · refine EJ_iconst 36 (dk_2 (bt bc_Mod_back_1 3 rfl)) rfl (v := (-1)) kI_m1 ?_
    exact EJ_iret rfl (dk_172 (bt bc_Mod_back_1 4 rfl))
  · refine EJ_iload_n 8 1 (dk_27 (bt bc_Mod_back_0 7 rfl)) rfl rfl ?_
    refine EJ_if_lt 35 11 (dk_155 (bt bc_Mod_back_0 8 rfl) (bt bc_Mod_back_0 9 rfl) (bt bc_Mod_back_0 10 rfl) (n := 27) rfl) (by decide) rfl (fun _ => ?_) (fun _ => ?_)
    · refine EJ_iconst 36 (dk_2 (bt bc_Mod_back_1 3 rfl)) rfl (v := (-1)) kI_m1 ?_
      exact EJ_iret rfl (dk_172 (bt bc_Mod_back_1 4 rfl))
    · refine EJ_iload_n 12 1 (dk_27 (bt bc_Mod_back_0 11 rfl)) rfl rfl ?_
      refine EJ_aload_n 13 0 (dk_42 (bt bc_Mod_back_0 12 rfl)) rfl rfl ?_
      refine EJ_getR cf12 78 (by decide) 16 tw_1276 (fun _ _ _ => rfl) (dk_180 (bt bc_Mod_back_0 13 rfl) (bt bc_Mod_back_0 14 rfl) (bt bc_Mod_back_0 15 rfl) (n := 161) rfl) rfl (of_decide_eq_true h1) (fun b2 => ?_)
      refine EJ_aload_n 17 0 (dk_42 (bt bc_Mod_back_0 16 rfl)) rfl rfl ?_
      refine EJ_getI cf12 70 (by decide) 20 tw_1268 (fun _ _ _ => rfl) (dk_180 (bt bc_Mod_back_0 17 rfl) (bt bc_Mod_back_0 18 rfl) (bt bc_Mod_back_0 19 rfl) (n := 513) rfl) rfl (of_decide_eq_true h1) ?_
      refine EJ_iconst 21 (dk_4 (bt bc_Mod_back_0 20 rfl)) rfl (v := 1) kI_1 ?_
      refine EJ_isub 22 (dk_100 (bt bc_Mod_back_0 21 rfl)) rfl ?_
      refine EJ_ck (fun h3 => ?_)
      refine EJ_iald 23 h3 (dk_46 (bt bc_Mod_back_0 22 rfl)) rfl ?_
      refine EJ_icmp_ge 35 26 (dk_162 (bt bc_Mod_back_0 23 rfl) (bt bc_Mod_back_0 24 rfl) (bt bc_Mod_back_0 25 rfl) (n := 12) rfl) (by decide) rfl (fun _ => ?_) (fun _ => ?_)
      · refine EJ_iconst 36 (dk_2 (bt bc_Mod_back_1 3 rfl)) rfl (v := (-1)) kI_m1 ?_
        exact EJ_iret rfl (dk_172 (bt bc_Mod_back_1 4 rfl))
      · refine EJ_aload_n 27 0 (dk_42 (bt bc_Mod_back_0 26 rfl)) rfl rfl ?_
        refine EJ_getR cf12 100 (by decide) 30 tw_1298 (fun _ _ _ => rfl) (dk_180 (bt bc_Mod_back_0 27 rfl) (bt bc_Mod_back_0 28 rfl) (bt bc_Mod_back_0 29 rfl) (n := 227) rfl) rfl (of_decide_eq_true h1) (fun b4 => ?_)
        refine EJ_iload_n 31 1 (dk_27 (bt bc_Mod_back_0 30 rfl)) rfl rfl ?_
        refine EJ_ck (fun h5 => ?_)
        refine EJ_iald 32 h5 (dk_46 (bt bc_Mod_back_0 31 rfl)) rfl ?_
        refine EJ_if_ne 37 35 (dk_154 (bt bc_Mod_back_1 0 rfl) (bt bc_Mod_back_1 1 rfl) (bt bc_Mod_back_1 2 rfl) (n := 5) rfl) (by decide) rfl (fun _ => ?_) (fun _ => ?_)
        · refine EJ_aload_n 38 0 (dk_42 (bt bc_Mod_back_1 5 rfl)) rfl rfl ?_
          refine EJ_getI cf12 70 (by decide) 41 tw_1268 (fun _ _ _ => rfl) (dk_180 (bt bc_Mod_back_1 6 rfl) (bt bc_Mod_back_1 7 rfl) (bt bc_Mod_back_1 8 rfl) (n := 513) rfl) rfl (of_decide_eq_true h1) ?_
          refine EJ_iconst 42 (dk_4 (bt bc_Mod_back_1 9 rfl)) rfl (v := 1) kI_1 ?_
          refine EJ_isub 43 (dk_100 (bt bc_Mod_back_1 10 rfl)) rfl ?_
          refine EJ_istore_n 44 (lv2 := [(2, .int _), (0, .ref _), (1, .int _)]) (dk_61 (bt bc_Mod_back_1 11 rfl)) rfl (by decide) rfl ?_
          refine EJ_aload_n 45 1 (dk_42 (bt bc_Mod_back_1 12 rfl)) rfl rfl ?_
          refine EJ_getR cf12 87 (by decide) 48 tw_1285 (fun _ _ _ => rfl) (dk_180 (bt bc_Mod_back_1 13 rfl) (bt bc_Mod_back_1 14 rfl) (bt bc_Mod_back_1 15 rfl) (n := 188) rfl) rfl (of_decide_eq_true h1) (fun b7 => ?_)
          refine EJ_bipush 50 (dk_16 (bt bc_Mod_back_1 16 rfl) (bt bc_Mod_back_1 17 rfl) (n := 120) rfl) rfl (v := 120) kB_120 ?_
          refine EJ_iload_n 51 0 (dk_28 (bt bc_Mod_back_1 18 rfl)) rfl rfl ?_
          refine EJ_imul 52 (dk_104 (bt bc_Mod_back_1 19 rfl)) rfl ?_
          refine EJ_aload_n 53 1 (dk_42 (bt bc_Mod_back_1 20 rfl)) rfl rfl ?_
          refine EJ_getR cf12 81 (by decide) 56 tw_1279 (fun _ _ _ => rfl) (dk_180 (bt bc_Mod_back_1 21 rfl) (bt bc_Mod_back_1 22 rfl) (bt bc_Mod_back_1 23 rfl) (n := 170) rfl) rfl (of_decide_eq_true h1) (fun b8 => ?_)
          refine EJ_iload_n 57 0 (dk_28 (bt bc_Mod_back_1 24 rfl)) rfl rfl ?_
          refine EJ_ck (fun h9 => ?_)
          refine EJ_iald 58 h9 (dk_46 (bt bc_Mod_back_1 25 rfl)) rfl ?_
          refine EJ_iadd 59 (dk_96 (bt bc_Mod_back_1 26 rfl)) rfl ?_
          refine EJ_bipush 61 (dk_16 (bt bc_Mod_back_1 27 rfl) (bt bc_Mod_back_1 28 rfl) (n := 100) rfl) rfl (v := 100) kB_100 ?_
          refine EJ_iload_n 62 2 (dk_27 (bt bc_Mod_back_1 29 rfl)) rfl rfl ?_
          refine EJ_iadd 63 (dk_96 (bt bc_Mod_back_1 30 rfl)) rfl ?_
          refine EJ_ck (fun h10 => ?_)
          refine EJ_iast 64 h10 (dk_79 (bt bc_Mod_back_1 31 rfl)) rfl ?_
          refine EJ_aload_n 65 1 (dk_42 (bt bc_Mod_back_2 0 rfl)) rfl rfl ?_
          refine EJ_getR cf12 81 (by decide) 68 tw_1279 (fun _ _ _ => rfl) (dk_180 (bt bc_Mod_back_2 1 rfl) (bt bc_Mod_back_2 2 rfl) (bt bc_Mod_back_2 3 rfl) (n := 170) rfl) rfl (kp_I (of_decide_eq_true h1)) (fun b12 => ?_)
          refine EJ_iload_n 69 0 (dk_28 (bt bc_Mod_back_2 4 rfl)) rfl rfl ?_
          refine EJ_dup2 70 (dk_92 (bt bc_Mod_back_2 5 rfl)) rfl rfl rfl ?_
          refine EJ_ck (fun h13 => ?_)
          refine EJ_iald 71 h13 (dk_46 (bt bc_Mod_back_2 6 rfl)) rfl ?_
          refine EJ_iconst 72 (dk_4 (bt bc_Mod_back_2 7 rfl)) rfl (v := 1) kI_1 ?_
          refine EJ_iadd 73 (dk_96 (bt bc_Mod_back_2 8 rfl)) rfl ?_
          refine EJ_iast 74 h13 (dk_79 (bt bc_Mod_back_2 9 rfl)) rfl ?_
          refine EJ_aload_n 75 1 (dk_42 (bt bc_Mod_back_2 10 rfl)) rfl rfl ?_
          refine EJ_getR cf12 100 (by decide) 78 tw_1298 (fun _ _ _ => rfl) (dk_180 (bt bc_Mod_back_2 11 rfl) (bt bc_Mod_back_2 12 rfl) (bt bc_Mod_back_2 13 rfl) (n := 227) rfl) rfl (kp_I (kp_I (of_decide_eq_true h1))) (fun b15 => ?_)
          refine EJ_iload_n 79 2 (dk_27 (bt bc_Mod_back_2 14 rfl)) rfl rfl ?_
          refine EJ_ck (fun h16 => ?_)
          refine EJ_iald 80 h16 (dk_46 (bt bc_Mod_back_2 15 rfl)) rfl ?_
          refine EJ_istore_n 81 (lv2 := [(3, .int _), (2, .int _), (0, .ref _), (1, .int _)]) (dk_62 (bt bc_Mod_back_2 16 rfl)) rfl (by decide) rfl ?_
          refine EJ_aload_n 82 2 (dk_42 (bt bc_Mod_back_2 17 rfl)) rfl rfl ?_
          refine EJ_getR cf12 100 (by decide) 85 tw_1298 (fun _ _ _ => rfl) (dk_180 (bt bc_Mod_back_2 18 rfl) (bt bc_Mod_back_2 19 rfl) (bt bc_Mod_back_2 20 rfl) (n := 227) rfl) rfl (kp_I (kp_I (of_decide_eq_true h1))) (fun b18 => ?_)
          refine EJ_iload_n 86 3 (dk_27 (bt bc_Mod_back_2 21 rfl)) rfl rfl ?_
          refine EJ_iconst 87 (dk_3 (bt bc_Mod_back_2 22 rfl)) rfl (v := 0) kI_0 ?_
          refine EJ_ck (fun h19 => ?_)
          refine EJ_iast 88 h19 (dk_79 (bt bc_Mod_back_2 23 rfl)) rfl ?_
          refine EJ_iload_n 89 0 (dk_29 (bt bc_Mod_back_2 24 rfl)) rfl rfl ?_
          exact EJ_iret rfl (dk_172 (bt bc_Mod_back_2 25 rfl))
        · refine EJ_iconst 36 (dk_2 (bt bc_Mod_back_1 3 rfl)) rfl (v := (-1)) kI_m1 ?_
          exact EJ_iret rfl (dk_172 (bt bc_Mod_back_1 4 rfl))
abbrev Y_Mod_isBargain : Ym := (⟨"RiceHallModel", "isBargain", "(I)Z"⟩, prog_14_method_67_code, 2, (some FieldType.boolean))
theorem bc_Mod_isBargain_0 : bts prog_14_method_67_code 0 [42, 180, 1, 254, 153, 0, 26, 27, 155, 0, 22, 27, 42, 180, 0, 164, 42, 180, 2, 1, 4, 100, 46, 162, 0, 7, 4, 167, 0, 4, 3, 172] := bts_of (by decide +kernel)
theorem hd_Mod_isBargain : Y_Mod_isBargain.1.cls = RX12 ∧ Y_Mod_isBargain.1.cls ≠ "java/lang/invoke/MethodHandle" ∧ Y_Mod_isBargain.1.cls ≠ "java/lang/invoke/VarHandle" ∧ (parseMethodDescriptor Y_Mod_isBargain.1.desc).map (fun d => d.parameters.length) = some 1 := by decide +kernel
def Mod_isBargain (M : Mm) (a0 : Nat) (a1 : Int32) : Option (Int32 × Mm) :=
  ck (kO M a0 12 107) (
  if (mI M a0 73) = 0 then (
    some (0, M))
  else (
    if a1 < 0 then (
      some (0, M))
    else (
      nn (mR M a0 79) (fun b2 =>
      ck (kA M b2 20 ((mI M a0 70) - 1)) (
      if (mI M b2 (ix ((mI M a0 70) - 1))) ≤ a1 then (
        some (0, M))
      else (
        some (1, M)))))))
set_option maxRecDepth 100000 in
set_option maxHeartbeats 4000000 in
theorem s_Mod_isBargain (G : Gx) (M : Mm) (a0 : Nat) (a1 : Int32) : FnS G Y_Mod_isBargain cvI 1 [.ref a0, .int a1] M (Mod_isBargain M a0 a1) := by
  refine FnS.ofE (by decide) (Nat.le_of_ble_eq_true rfl) ?_
  show EJ G Y_Mod_isBargain cvI 1 0 [(0, .ref a0), (1, .int a1)] [] M _
  unfold Mod_isBargain
  refine EJ_aload_n 1 0 (dk_42 (bt bc_Mod_isBargain_0 0 rfl)) rfl rfl ?_
  refine EJ_ck (fun h1 => ?_)
  refine EJ_getI cf12 73 (by decide) 4 tw_1271 (fun _ _ _ => rfl) (dk_180 (bt bc_Mod_isBargain_0 1 rfl) (bt bc_Mod_isBargain_0 2 rfl) (bt bc_Mod_isBargain_0 3 rfl) (n := 510) rfl) rfl (of_decide_eq_true h1) ?_
  refine EJ_if_eq 30 7 (dk_153 (bt bc_Mod_isBargain_0 4 rfl) (bt bc_Mod_isBargain_0 5 rfl) (bt bc_Mod_isBargain_0 6 rfl) (n := 26) rfl) (by decide) rfl (fun _ => ?_) (fun _ => ?_)
  · refine EJ_iconst 31 (dk_3 (bt bc_Mod_isBargain_0 30 rfl)) rfl (v := 0) kI_0 ?_
    exact EJ_zret rfl (by decide) (dk_172 (bt bc_Mod_isBargain_0 31 rfl))
  · refine EJ_iload_n 8 1 (dk_27 (bt bc_Mod_isBargain_0 7 rfl)) rfl rfl ?_
    refine EJ_if_lt 30 11 (dk_155 (bt bc_Mod_isBargain_0 8 rfl) (bt bc_Mod_isBargain_0 9 rfl) (bt bc_Mod_isBargain_0 10 rfl) (n := 22) rfl) (by decide) rfl (fun _ => ?_) (fun _ => ?_)
    · refine EJ_iconst 31 (dk_3 (bt bc_Mod_isBargain_0 30 rfl)) rfl (v := 0) kI_0 ?_
      exact EJ_zret rfl (by decide) (dk_172 (bt bc_Mod_isBargain_0 31 rfl))
    · refine EJ_iload_n 12 1 (dk_27 (bt bc_Mod_isBargain_0 11 rfl)) rfl rfl ?_
      refine EJ_aload_n 13 0 (dk_42 (bt bc_Mod_isBargain_0 12 rfl)) rfl rfl ?_
      refine EJ_getR cf12 79 (by decide) 16 tw_1277 (fun _ _ _ => rfl) (dk_180 (bt bc_Mod_isBargain_0 13 rfl) (bt bc_Mod_isBargain_0 14 rfl) (bt bc_Mod_isBargain_0 15 rfl) (n := 164) rfl) rfl (of_decide_eq_true h1) (fun b2 => ?_)
      refine EJ_aload_n 17 0 (dk_42 (bt bc_Mod_isBargain_0 16 rfl)) rfl rfl ?_
      refine EJ_getI cf12 70 (by decide) 20 tw_1268 (fun _ _ _ => rfl) (dk_180 (bt bc_Mod_isBargain_0 17 rfl) (bt bc_Mod_isBargain_0 18 rfl) (bt bc_Mod_isBargain_0 19 rfl) (n := 513) rfl) rfl (of_decide_eq_true h1) ?_
      refine EJ_iconst 21 (dk_4 (bt bc_Mod_isBargain_0 20 rfl)) rfl (v := 1) kI_1 ?_
      refine EJ_isub 22 (dk_100 (bt bc_Mod_isBargain_0 21 rfl)) rfl ?_
      refine EJ_ck (fun h3 => ?_)
      refine EJ_iald 23 h3 (dk_46 (bt bc_Mod_isBargain_0 22 rfl)) rfl ?_
      refine EJ_icmp_ge 30 26 (dk_162 (bt bc_Mod_isBargain_0 23 rfl) (bt bc_Mod_isBargain_0 24 rfl) (bt bc_Mod_isBargain_0 25 rfl) (n := 7) rfl) (by decide) rfl (fun _ => ?_) (fun _ => ?_)
      · refine EJ_iconst 31 (dk_3 (bt bc_Mod_isBargain_0 30 rfl)) rfl (v := 0) kI_0 ?_
        exact EJ_zret rfl (by decide) (dk_172 (bt bc_Mod_isBargain_0 31 rfl))
      · refine EJ_iconst 27 (dk_4 (bt bc_Mod_isBargain_0 26 rfl)) rfl (v := 1) kI_1 ?_
        refine EJ_goto 31 (dk_167 (bt bc_Mod_isBargain_0 27 rfl) (bt bc_Mod_isBargain_0 28 rfl) (bt bc_Mod_isBargain_0 29 rfl) (n := 4) rfl) (by decide) ?_
        exact EJ_zret rfl (by decide) (dk_172 (bt bc_Mod_isBargain_0 31 rfl))
abbrev Y_Mod_note : Ym := (⟨"RiceHallModel", "note", "(IZII)Z"⟩, prog_14_method_68_code, 6, (some FieldType.boolean))
theorem bc_Mod_note_0 : bts prog_14_method_68_code 0 [42, 27, 182, 2, 10, 153, 0, 25, 29, 4, 16, 99, 184, 0, 252, 153, 0, 15, 21, 4, 4, 17, 39, 15, 184, 0, 252, 154, 0, 5, 3, 172] := bts_of (by decide +kernel)
theorem bc_Mod_note_1 : bts prog_14_method_68_code 32 [16, 120, 42, 180, 2, 1, 4, 100, 104, 5, 27, 104, 96, 28, 153, 0, 7, 3, 167, 0, 4, 4, 96, 54, 5, 42, 180, 0, 221, 21, 5, 29] := bts_of (by decide +kernel)
theorem bc_Mod_note_2 : bts prog_14_method_68_code 64 [79, 42, 180, 0, 224, 21, 5, 21, 4, 79, 4, 172] := bts_of (by decide +kernel)
theorem hd_Mod_note : Y_Mod_note.1.cls = RX12 ∧ Y_Mod_note.1.cls ≠ "java/lang/invoke/MethodHandle" ∧ Y_Mod_note.1.cls ≠ "java/lang/invoke/VarHandle" ∧ (parseMethodDescriptor Y_Mod_note.1.desc).map (fun d => d.parameters.length) = some 4 := by decide +kernel
def Mod_note_J54 (x0 : Nat) (x3 : Int32) (x4 : Int32) (s0 : Int32) (s1 : Int32) (M : Mm) : Option (Int32 × Mm) :=
  let v9 : Int32 := s1 + s0
  ck (kO M x0 12 107) (
  nn (mR M x0 98) (fun b11 =>
  ck (kA M b11 20 v9) (
  let M13 := sI M b11 (ix v9) x3
  nn (mR M13 x0 99) (fun b14 =>
  ck (kA M13 b14 20 v9) (
  let M16 := sI M13 b14 (ix v9) x4
  some (1, M16))))))
set_option maxRecDepth 100000 in
set_option maxHeartbeats 4000000 in
theorem e_Mod_note_J54 {G : Gx} (x0 : Nat) (x3 : Int32) (x4 : Int32) (s0 : Int32) (s1 : Int32) (M : Mm) : EJ G Y_Mod_note cvI 2 54 [(0, .ref x0), (3, .int x3), (4, .int x4)] [.int s0, .int s1] M (Mod_note_J54 x0 x3 x4 s0 s1 M) := by
  unfold Mod_note_J54
  refine EJ_iadd 55 (dk_96 (bt bc_Mod_note_1 22 rfl)) rfl ?_
  refine EJ_istore 57 (lv2 := [(5, .int _), (0, .ref _), (3, .int _), (4, .int _)]) (dk_54 (bt bc_Mod_note_1 23 rfl) (bt bc_Mod_note_1 24 rfl)) rfl (by decide) rfl ?_
  refine EJ_aload_n 58 1 (dk_42 (bt bc_Mod_note_1 25 rfl)) rfl rfl ?_
  refine EJ_ck (fun h10 => ?_)
  refine EJ_getR cf12 98 (by decide) 61 tw_1296 (fun _ _ _ => rfl) (dk_180 (bt bc_Mod_note_1 26 rfl) (bt bc_Mod_note_1 27 rfl) (bt bc_Mod_note_1 28 rfl) (n := 221) rfl) rfl (of_decide_eq_true h10) (fun b11 => ?_)
  refine EJ_iload 63 0 (dk_21 (bt bc_Mod_note_1 29 rfl) (bt bc_Mod_note_1 30 rfl)) rfl rfl ?_
  refine EJ_iload_n 64 2 (dk_29 (bt bc_Mod_note_1 31 rfl)) rfl rfl ?_
  refine EJ_ck (fun h12 => ?_)
  refine EJ_iast 65 h12 (dk_79 (bt bc_Mod_note_2 0 rfl)) rfl ?_
  refine EJ_aload_n 66 1 (dk_42 (bt bc_Mod_note_2 1 rfl)) rfl rfl ?_
  refine EJ_getR cf12 99 (by decide) 69 tw_1297 (fun _ _ _ => rfl) (dk_180 (bt bc_Mod_note_2 2 rfl) (bt bc_Mod_note_2 3 rfl) (bt bc_Mod_note_2 4 rfl) (n := 224) rfl) rfl (kp_I (of_decide_eq_true h10)) (fun b14 => ?_)
  refine EJ_iload 71 0 (dk_21 (bt bc_Mod_note_2 5 rfl) (bt bc_Mod_note_2 6 rfl)) rfl rfl ?_
  refine EJ_iload 73 3 (dk_21 (bt bc_Mod_note_2 7 rfl) (bt bc_Mod_note_2 8 rfl)) rfl rfl ?_
  refine EJ_ck (fun h15 => ?_)
  refine EJ_iast 74 h15 (dk_79 (bt bc_Mod_note_2 9 rfl)) rfl ?_
  refine EJ_iconst 75 (dk_4 (bt bc_Mod_note_2 10 rfl)) rfl (v := 1) kI_1 ?_
  exact EJ_zret rfl (by decide) (dk_172 (bt bc_Mod_note_2 11 rfl))
def Mod_note (M : Mm) (a0 : Nat) (a1 : Int32) (a2 : Int32) (a3 : Int32) (a4 : Int32) : Option (Int32 × Mm) :=
  ck (kO M a0 12 107) (
  bd (Mod_isBargain M a0 a1) (fun r2 M3 =>
  if r2 = 0 then (
    some (0, M3))
  else (
    bd (Mod_in M3 a3 1 99) (fun r4 M5 =>
    if r4 = 0 then (
      some (0, M5))
    else (
      bd (Mod_in M5 a4 1 9999) (fun r6 M7 =>
      if r6 = 0 then (
        some (0, M7))
      else (
        ck (kO M7 a0 12 107) (
        if a2 = 0 then (
          Mod_note_J54 a0 a3 a4 1 ((120 * ((mI M7 a0 70) - 1)) + (2 * a1)) M7)
        else (
          Mod_note_J54 a0 a3 a4 0 ((120 * ((mI M7 a0 70) - 1)) + (2 * a1)) M7)))))))))
set_option maxRecDepth 100000 in
set_option maxHeartbeats 4000000 in
theorem s_Mod_note (G : Gx) (M : Mm) (a0 : Nat) (a1 : Int32) (a2 : Int32) (a3 : Int32) (a4 : Int32) : FnS G Y_Mod_note cvI 2 [.ref a0, .int a1, .int a2, .int a3, .int a4] M (Mod_note M a0 a1 a2 a3 a4) := by
  refine FnS.ofE (by decide) (Nat.le_of_ble_eq_true rfl) ?_
  show EJ G Y_Mod_note cvI 2 0 [(0, .ref a0), (1, .int a1), (2, .int a2), (3, .int a3), (4, .int a4)] [] M _
  unfold Mod_note
  refine EJ_aload_n 1 0 (dk_42 (bt bc_Mod_note_0 0 rfl)) rfl rfl ?_
  refine EJ_iload_n 2 1 (dk_27 (bt bc_Mod_note_0 1 rfl)) rfl rfl ?_
  refine EJ_ck (fun h1 => ?_)
  refine EJ_callVi (Y2 := Y_Mod_isBargain) 5 cf12 (s_Mod_isBargain G _ _ _) (of_decide_eq_true h1) rfl (dk_182 (bt bc_Mod_note_0 2 rfl) (bt bc_Mod_note_0 3 rfl) (bt bc_Mod_note_0 4 rfl) (n := 522) rfl) rfl tw_1809 tw_1811 ts_68 tw_1812 hd_Mod_isBargain rfl (by decide) (Nat.le_of_ble_eq_true rfl) (fun r2 M3 => ?_)
  refine EJ_if_eq 30 8 (dk_153 (bt bc_Mod_note_0 5 rfl) (bt bc_Mod_note_0 6 rfl) (bt bc_Mod_note_0 7 rfl) (n := 25) rfl) (by decide) rfl (fun _ => ?_) (fun _ => ?_)
  · refine EJ_iconst 31 (dk_3 (bt bc_Mod_note_0 30 rfl)) rfl (v := 0) kI_0 ?_
    exact EJ_zret rfl (by decide) (dk_172 (bt bc_Mod_note_0 31 rfl))
  · refine EJ_iload_n 9 3 (dk_29 (bt bc_Mod_note_0 8 rfl)) rfl rfl ?_
    refine EJ_iconst 10 (dk_4 (bt bc_Mod_note_0 9 rfl)) rfl (v := 1) kI_1 ?_
    refine EJ_bipush 12 (dk_16 (bt bc_Mod_note_0 10 rfl) (bt bc_Mod_note_0 11 rfl) (n := 99) rfl) rfl (v := 99) kB_99 ?_
    refine EJ_callSi (Y2 := Y_Mod_in) 15 (s_Mod_in G _ _ _ _) rfl (dk_184 (bt bc_Mod_note_0 12 rfl) (bt bc_Mod_note_0 13 rfl) (bt bc_Mod_note_0 14 rfl) (n := 252) rfl) rfl tw_1532 tw_1533 tw_8 tw_1534 hd_Mod_in rfl (by decide) (Nat.le_of_ble_eq_true rfl) (fun r4 M5 => ?_)
    refine EJ_if_eq 30 18 (dk_153 (bt bc_Mod_note_0 15 rfl) (bt bc_Mod_note_0 16 rfl) (bt bc_Mod_note_0 17 rfl) (n := 15) rfl) (by decide) rfl (fun _ => ?_) (fun _ => ?_)
    · refine EJ_iconst 31 (dk_3 (bt bc_Mod_note_0 30 rfl)) rfl (v := 0) kI_0 ?_
      exact EJ_zret rfl (by decide) (dk_172 (bt bc_Mod_note_0 31 rfl))
    · refine EJ_iload 20 4 (dk_21 (bt bc_Mod_note_0 18 rfl) (bt bc_Mod_note_0 19 rfl)) rfl rfl ?_
      refine EJ_iconst 21 (dk_4 (bt bc_Mod_note_0 20 rfl)) rfl (v := 1) kI_1 ?_
      refine EJ_sipush 24 (dk_17 (bt bc_Mod_note_0 21 rfl) (bt bc_Mod_note_0 22 rfl) (bt bc_Mod_note_0 23 rfl) (n := 9999) rfl) rfl (v := 9999) kS_9999 ?_
      refine EJ_callSi (Y2 := Y_Mod_in) 27 (s_Mod_in G _ _ _ _) rfl (dk_184 (bt bc_Mod_note_0 24 rfl) (bt bc_Mod_note_0 25 rfl) (bt bc_Mod_note_0 26 rfl) (n := 252) rfl) rfl tw_1532 tw_1533 tw_8 tw_1534 hd_Mod_in rfl (by decide) (Nat.le_of_ble_eq_true rfl) (fun r6 M7 => ?_)
      refine EJ_if_ne 32 30 (dk_154 (bt bc_Mod_note_0 27 rfl) (bt bc_Mod_note_0 28 rfl) (bt bc_Mod_note_0 29 rfl) (n := 5) rfl) (by decide) rfl (fun _ => ?_) (fun _ => ?_)
      · refine EJ_bipush 34 (dk_16 (bt bc_Mod_note_1 0 rfl) (bt bc_Mod_note_1 1 rfl) (n := 120) rfl) rfl (v := 120) kB_120 ?_
        refine EJ_aload_n 35 0 (dk_42 (bt bc_Mod_note_1 2 rfl)) rfl rfl ?_
        refine EJ_ck (fun h8 => ?_)
        refine EJ_getI cf12 70 (by decide) 38 tw_1268 (fun _ _ _ => rfl) (dk_180 (bt bc_Mod_note_1 3 rfl) (bt bc_Mod_note_1 4 rfl) (bt bc_Mod_note_1 5 rfl) (n := 513) rfl) rfl (of_decide_eq_true h8) ?_
        refine EJ_iconst 39 (dk_4 (bt bc_Mod_note_1 6 rfl)) rfl (v := 1) kI_1 ?_
        refine EJ_isub 40 (dk_100 (bt bc_Mod_note_1 7 rfl)) rfl ?_
        refine EJ_imul 41 (dk_104 (bt bc_Mod_note_1 8 rfl)) rfl ?_
        refine EJ_iconst 42 (dk_5 (bt bc_Mod_note_1 9 rfl)) rfl (v := 2) kI_2 ?_
        refine EJ_iload_n 43 1 (dk_27 (bt bc_Mod_note_1 10 rfl)) rfl rfl ?_
        refine EJ_imul 44 (dk_104 (bt bc_Mod_note_1 11 rfl)) rfl ?_
        refine EJ_iadd 45 (dk_96 (bt bc_Mod_note_1 12 rfl)) rfl ?_
        refine EJ_iload_n 46 2 (dk_28 (bt bc_Mod_note_1 13 rfl)) rfl rfl ?_
        refine EJ_if_eq 53 49 (dk_153 (bt bc_Mod_note_1 14 rfl) (bt bc_Mod_note_1 15 rfl) (bt bc_Mod_note_1 16 rfl) (n := 7) rfl) (by decide) rfl (fun _ => ?_) (fun _ => ?_)
        · refine EJ_iconst 54 (dk_4 (bt bc_Mod_note_1 21 rfl)) rfl (v := 1) kI_1 ?_
          exact EJ_pick (lv2 := [(0, .ref _), (3, .int _), (4, .int _)]) [0, 3, 4] rfl (e_Mod_note_J54 _ _ _ _ _ _)
        · refine EJ_iconst 50 (dk_3 (bt bc_Mod_note_1 17 rfl)) rfl (v := 0) kI_0 ?_
          refine EJ_goto 54 (dk_167 (bt bc_Mod_note_1 18 rfl) (bt bc_Mod_note_1 19 rfl) (bt bc_Mod_note_1 20 rfl) (n := 4) rfl) (by decide) ?_
          exact EJ_pick (lv2 := [(0, .ref _), (3, .int _), (4, .int _)]) [0, 3, 4] rfl (e_Mod_note_J54 _ _ _ _ _ _)
      · refine EJ_iconst 31 (dk_3 (bt bc_Mod_note_0 30 rfl)) rfl (v := 0) kI_0 ?_
        exact EJ_zret rfl (by decide) (dk_172 (bt bc_Mod_note_0 31 rfl))
abbrev Y_Mod_deny : Ym := (⟨"RiceHallModel", "deny", "(IZ)Z"⟩, prog_14_method_69_code, 5, (some FieldType.boolean))
theorem bc_Mod_deny_0 : bts prog_14_method_69_code 0 [42, 27, 182, 2, 10, 154, 0, 5, 3, 172, 16, 60, 42, 180, 2, 1, 4, 100, 104, 27, 96, 62, 28, 153, 0, 7, 4, 167, 0, 4, 5, 54] := bts_of (by decide +kernel)
theorem bc_Mod_deny_1 : bts prog_14_method_69_code 32 [4, 42, 180, 0, 215, 29, 46, 21, 4, 126, 153, 0, 5, 3, 172, 42, 180, 0, 215, 29, 46, 154, 0, 11, 42, 180, 0, 218, 29, 21, 4, 79] := bts_of (by decide +kernel)
theorem bc_Mod_deny_2 : bts prog_14_method_69_code 64 [42, 180, 0, 215, 29, 92, 46, 21, 4, 96, 79, 4, 172] := bts_of (by decide +kernel)
theorem hd_Mod_deny : Y_Mod_deny.1.cls = RX12 ∧ Y_Mod_deny.1.cls ≠ "java/lang/invoke/MethodHandle" ∧ Y_Mod_deny.1.cls ≠ "java/lang/invoke/VarHandle" ∧ (parseMethodDescriptor Y_Mod_deny.1.desc).map (fun d => d.parameters.length) = some 2 := by decide +kernel
def Mod_deny_J64 (x0 : Nat) (x3 : Int32) (x4 : Int32) (M : Mm) : Option (Int32 × Mm) :=
  ck (kO M x0 12 107) (
  nn (mR M x0 96) (fun b12 =>
  ck (kA M b12 20 x3) (
  let M14 := sI M b12 (ix x3) ((mI M b12 (ix x3)) + x4)
  some (1, M14))))
set_option maxRecDepth 100000 in
set_option maxHeartbeats 4000000 in
theorem e_Mod_deny_J64 {G : Gx} (x0 : Nat) (x3 : Int32) (x4 : Int32) (M : Mm) : EJ G Y_Mod_deny cvI 2 64 [(0, .ref x0), (3, .int x3), (4, .int x4)] [] M (Mod_deny_J64 x0 x3 x4 M) := by
  unfold Mod_deny_J64
  refine EJ_aload_n 65 0 (dk_42 (bt bc_Mod_deny_2 0 rfl)) rfl rfl ?_
  refine EJ_ck (fun h11 => ?_)
  refine EJ_getR cf12 96 (by decide) 68 tw_1294 (fun _ _ _ => rfl) (dk_180 (bt bc_Mod_deny_2 1 rfl) (bt bc_Mod_deny_2 2 rfl) (bt bc_Mod_deny_2 3 rfl) (n := 215) rfl) rfl (of_decide_eq_true h11) (fun b12 => ?_)
  refine EJ_iload_n 69 1 (dk_29 (bt bc_Mod_deny_2 4 rfl)) rfl rfl ?_
  refine EJ_dup2 70 (dk_92 (bt bc_Mod_deny_2 5 rfl)) rfl rfl rfl ?_
  refine EJ_ck (fun h13 => ?_)
  refine EJ_iald 71 h13 (dk_46 (bt bc_Mod_deny_2 6 rfl)) rfl ?_
  refine EJ_iload 73 2 (dk_21 (bt bc_Mod_deny_2 7 rfl) (bt bc_Mod_deny_2 8 rfl)) rfl rfl ?_
  refine EJ_iadd 74 (dk_96 (bt bc_Mod_deny_2 9 rfl)) rfl ?_
  refine EJ_iast 75 h13 (dk_79 (bt bc_Mod_deny_2 10 rfl)) rfl ?_
  refine EJ_iconst 76 (dk_4 (bt bc_Mod_deny_2 11 rfl)) rfl (v := 1) kI_1 ?_
  exact EJ_zret rfl (by decide) (dk_172 (bt bc_Mod_deny_2 12 rfl))
def Mod_deny_J31 (x0 : Nat) (x3 : Int32) (s0 : Int32) (M : Mm) : Option (Int32 × Mm) :=
  ck (kO M x0 12 107) (
  nn (mR M x0 96) (fun b7 =>
  ck (kA M b7 20 x3) (
  if ((mI M b7 (ix x3)) &&& s0) = 0 then (
    nn (mR M x0 96) (fun b9 =>
    ck (kA M b9 20 x3) (
    if (mI M b9 (ix x3)) = 0 then (
      nn (mR M x0 97) (fun b15 =>
      ck (kA M b15 20 x3) (
      let M17 := sI M b15 (ix x3) s0
      Mod_deny_J64 x0 x3 s0 M17)))
    else (
      Mod_deny_J64 x0 x3 s0 M))))
  else (
    some (0, M)))))
set_option maxRecDepth 100000 in
set_option maxHeartbeats 4000000 in
theorem e_Mod_deny_J31 {G : Gx} (x0 : Nat) (x3 : Int32) (s0 : Int32) (M : Mm) : EJ G Y_Mod_deny cvI 2 31 [(0, .ref x0), (3, .int x3)] [.int s0] M (Mod_deny_J31 x0 x3 s0 M) := by
  unfold Mod_deny_J31
  refine EJ_istore 33 (lv2 := [(4, .int _), (0, .ref _), (3, .int _)]) (dk_54 (bt bc_Mod_deny_0 31 rfl) (bt bc_Mod_deny_1 0 rfl)) rfl (by decide) rfl ?_
  refine EJ_aload_n 34 1 (dk_42 (bt bc_Mod_deny_1 1 rfl)) rfl rfl ?_
  refine EJ_ck (fun h6 => ?_)
  refine EJ_getR cf12 96 (by decide) 37 tw_1294 (fun _ _ _ => rfl) (dk_180 (bt bc_Mod_deny_1 2 rfl) (bt bc_Mod_deny_1 3 rfl) (bt bc_Mod_deny_1 4 rfl) (n := 215) rfl) rfl (of_decide_eq_true h6) (fun b7 => ?_)
  refine EJ_iload_n 38 2 (dk_29 (bt bc_Mod_deny_1 5 rfl)) rfl rfl ?_
  refine EJ_ck (fun h8 => ?_)
  refine EJ_iald 39 h8 (dk_46 (bt bc_Mod_deny_1 6 rfl)) rfl ?_
  refine EJ_iload 41 0 (dk_21 (bt bc_Mod_deny_1 7 rfl) (bt bc_Mod_deny_1 8 rfl)) rfl rfl ?_
  refine EJ_iand 42 (dk_126 (bt bc_Mod_deny_1 9 rfl)) rfl ?_
  refine EJ_if_eq 47 45 (dk_153 (bt bc_Mod_deny_1 10 rfl) (bt bc_Mod_deny_1 11 rfl) (bt bc_Mod_deny_1 12 rfl) (n := 5) rfl) (by decide) rfl (fun _ => ?_) (fun _ => ?_)
  · refine EJ_aload_n 48 1 (dk_42 (bt bc_Mod_deny_1 15 rfl)) rfl rfl ?_
    refine EJ_getR cf12 96 (by decide) 51 tw_1294 (fun _ _ _ => rfl) (dk_180 (bt bc_Mod_deny_1 16 rfl) (bt bc_Mod_deny_1 17 rfl) (bt bc_Mod_deny_1 18 rfl) (n := 215) rfl) rfl (of_decide_eq_true h6) (fun b9 => ?_)
    refine EJ_iload_n 52 2 (dk_29 (bt bc_Mod_deny_1 19 rfl)) rfl rfl ?_
    refine EJ_ck (fun h10 => ?_)
    refine EJ_iald 53 h10 (dk_46 (bt bc_Mod_deny_1 20 rfl)) rfl ?_
    refine EJ_if_ne 64 56 (dk_154 (bt bc_Mod_deny_1 21 rfl) (bt bc_Mod_deny_1 22 rfl) (bt bc_Mod_deny_1 23 rfl) (n := 11) rfl) (by decide) rfl (fun _ => ?_) (fun _ => ?_)
    · exact EJ_pick (lv2 := [(0, .ref _), (3, .int _), (4, .int _)]) [1, 2, 0] rfl (e_Mod_deny_J64 _ _ _ _)
    · refine EJ_aload_n 57 1 (dk_42 (bt bc_Mod_deny_1 24 rfl)) rfl rfl ?_
      refine EJ_getR cf12 97 (by decide) 60 tw_1295 (fun _ _ _ => rfl) (dk_180 (bt bc_Mod_deny_1 25 rfl) (bt bc_Mod_deny_1 26 rfl) (bt bc_Mod_deny_1 27 rfl) (n := 218) rfl) rfl (of_decide_eq_true h6) (fun b15 => ?_)
      refine EJ_iload_n 61 2 (dk_29 (bt bc_Mod_deny_1 28 rfl)) rfl rfl ?_
      refine EJ_iload 63 0 (dk_21 (bt bc_Mod_deny_1 29 rfl) (bt bc_Mod_deny_1 30 rfl)) rfl rfl ?_
      refine EJ_ck (fun h16 => ?_)
      refine EJ_iast 64 h16 (dk_79 (bt bc_Mod_deny_1 31 rfl)) rfl ?_
      exact EJ_pick (lv2 := [(0, .ref _), (3, .int _), (4, .int _)]) [1, 2, 0] rfl (e_Mod_deny_J64 _ _ _ _)
  · refine EJ_iconst 46 (dk_3 (bt bc_Mod_deny_1 13 rfl)) rfl (v := 0) kI_0 ?_
    exact EJ_zret rfl (by decide) (dk_172 (bt bc_Mod_deny_1 14 rfl))
def Mod_deny (M : Mm) (a0 : Nat) (a1 : Int32) (a2 : Int32) : Option (Int32 × Mm) :=
  ck (kO M a0 12 107) (
  bd (Mod_isBargain M a0 a1) (fun r2 M3 =>
  if r2 = 0 then (
    some (0, M3))
  else (
    ck (kO M3 a0 12 107) (
    let v5 : Int32 := (60 * ((mI M3 a0 70) - 1)) + a1
    if a2 = 0 then (
      Mod_deny_J31 a0 v5 2 M3)
    else (
      Mod_deny_J31 a0 v5 1 M3)))))
set_option maxRecDepth 100000 in
set_option maxHeartbeats 4000000 in
theorem s_Mod_deny (G : Gx) (M : Mm) (a0 : Nat) (a1 : Int32) (a2 : Int32) : FnS G Y_Mod_deny cvI 2 [.ref a0, .int a1, .int a2] M (Mod_deny M a0 a1 a2) := by
  refine FnS.ofE (by decide) (Nat.le_of_ble_eq_true rfl) ?_
  show EJ G Y_Mod_deny cvI 2 0 [(0, .ref a0), (1, .int a1), (2, .int a2)] [] M _
  unfold Mod_deny
  refine EJ_aload_n 1 0 (dk_42 (bt bc_Mod_deny_0 0 rfl)) rfl rfl ?_
  refine EJ_iload_n 2 1 (dk_27 (bt bc_Mod_deny_0 1 rfl)) rfl rfl ?_
  refine EJ_ck (fun h1 => ?_)
  refine EJ_callVi (Y2 := Y_Mod_isBargain) 5 cf12 (s_Mod_isBargain G _ _ _) (of_decide_eq_true h1) rfl (dk_182 (bt bc_Mod_deny_0 2 rfl) (bt bc_Mod_deny_0 3 rfl) (bt bc_Mod_deny_0 4 rfl) (n := 522) rfl) rfl tw_1809 tw_1811 ts_68 tw_1812 hd_Mod_isBargain rfl (by decide) (Nat.le_of_ble_eq_true rfl) (fun r2 M3 => ?_)
  refine EJ_if_ne 10 8 (dk_154 (bt bc_Mod_deny_0 5 rfl) (bt bc_Mod_deny_0 6 rfl) (bt bc_Mod_deny_0 7 rfl) (n := 5) rfl) (by decide) rfl (fun _ => ?_) (fun _ => ?_)
  · refine EJ_bipush 12 (dk_16 (bt bc_Mod_deny_0 10 rfl) (bt bc_Mod_deny_0 11 rfl) (n := 60) rfl) rfl (v := 60) kB_60 ?_
    refine EJ_aload_n 13 0 (dk_42 (bt bc_Mod_deny_0 12 rfl)) rfl rfl ?_
    refine EJ_ck (fun h4 => ?_)
    refine EJ_getI cf12 70 (by decide) 16 tw_1268 (fun _ _ _ => rfl) (dk_180 (bt bc_Mod_deny_0 13 rfl) (bt bc_Mod_deny_0 14 rfl) (bt bc_Mod_deny_0 15 rfl) (n := 513) rfl) rfl (of_decide_eq_true h4) ?_
    refine EJ_iconst 17 (dk_4 (bt bc_Mod_deny_0 16 rfl)) rfl (v := 1) kI_1 ?_
    refine EJ_isub 18 (dk_100 (bt bc_Mod_deny_0 17 rfl)) rfl ?_
    refine EJ_imul 19 (dk_104 (bt bc_Mod_deny_0 18 rfl)) rfl ?_
    refine EJ_iload_n 20 1 (dk_27 (bt bc_Mod_deny_0 19 rfl)) rfl rfl ?_
    refine EJ_iadd 21 (dk_96 (bt bc_Mod_deny_0 20 rfl)) rfl ?_
    refine EJ_istore_n 22 (lv2 := [(3, .int _), (0, .ref _), (1, .int _), (2, .int _)]) (dk_62 (bt bc_Mod_deny_0 21 rfl)) rfl (by decide) rfl ?_
    refine EJ_iload_n 23 3 (dk_28 (bt bc_Mod_deny_0 22 rfl)) rfl rfl ?_
    refine EJ_if_eq 30 26 (dk_153 (bt bc_Mod_deny_0 23 rfl) (bt bc_Mod_deny_0 24 rfl) (bt bc_Mod_deny_0 25 rfl) (n := 7) rfl) (by decide) rfl (fun _ => ?_) (fun _ => ?_)
    · refine EJ_iconst 31 (dk_5 (bt bc_Mod_deny_0 30 rfl)) rfl (v := 2) kI_2 ?_
      exact EJ_pick (lv2 := [(0, .ref _), (3, .int _)]) [1, 0] rfl (e_Mod_deny_J31 _ _ _ _)
    · refine EJ_iconst 27 (dk_4 (bt bc_Mod_deny_0 26 rfl)) rfl (v := 1) kI_1 ?_
      refine EJ_goto 31 (dk_167 (bt bc_Mod_deny_0 27 rfl) (bt bc_Mod_deny_0 28 rfl) (bt bc_Mod_deny_0 29 rfl) (n := 4) rfl) (by decide) ?_
      exact EJ_pick (lv2 := [(0, .ref _), (3, .int _)]) [1, 0] rfl (e_Mod_deny_J31 _ _ _ _)
  · refine EJ_iconst 9 (dk_3 (bt bc_Mod_deny_0 8 rfl)) rfl (v := 0) kI_0 ?_
    exact EJ_zret rfl (by decide) (dk_172 (bt bc_Mod_deny_0 9 rfl))
abbrev Y_Mod_judges : Ym := (⟨"RiceHallModel", "judges", "(II)V"⟩, prog_14_method_70_code, 6, none)
theorem bc_Mod_judges_0 : bts prog_14_method_70_code 0 [16, 60, 27, 104, 28, 96, 62, 16, 120, 27, 104, 5, 28, 104, 96, 54, 4, 42, 180, 0, 209, 29, 42, 180, 0, 200, 29, 46, 79, 42, 180, 0] := bts_of (by decide +kernel)
theorem bc_Mod_judges_1 : bts prog_14_method_70_code 32 [212, 29, 42, 180, 0, 203, 29, 46, 79, 42, 180, 0, 215, 29, 46, 154, 0, 4, 177, 42, 180, 0, 221, 21, 4, 46, 158, 0, 114, 42, 180, 0] := bts_of (by decide +kernel)
theorem bc_Mod_judges_2 : bts prog_14_method_70_code 64 [221, 21, 4, 4, 96, 46, 158, 0, 102, 42, 180, 0, 209, 29, 42, 180, 0, 221, 21, 4, 46, 42, 180, 0, 221, 21, 4, 4, 96, 46, 184, 1] := bts_of (by decide +kernel)
theorem bc_Mod_judges_3 : bts prog_14_method_70_code 96 [38, 79, 42, 180, 0, 212, 29, 42, 180, 0, 221, 21, 4, 46, 42, 180, 0, 221, 21, 4, 4, 96, 46, 160, 0, 32, 42, 180, 0, 224, 21, 4] := bts_of (by decide +kernel)
theorem bc_Mod_judges_4 : bts prog_14_method_70_code 128 [46, 42, 180, 0, 224, 21, 4, 4, 96, 46, 160, 0, 13, 42, 180, 0, 224, 21, 4, 46, 167, 0, 22, 42, 180, 0, 224, 21, 4, 46, 42, 180] := bts_of (by decide +kernel)
theorem bc_Mod_judges_5 : bts prog_14_method_70_code 160 [0, 224, 21, 4, 4, 96, 46, 96, 5, 108, 79, 177, 21, 4, 42, 180, 0, 218, 29, 46, 96, 4, 100, 54, 5, 42, 180, 0, 209, 29, 42, 180] := bts_of (by decide +kernel)
theorem bc_Mod_judges_6 : bts prog_14_method_70_code 192 [0, 221, 21, 5, 46, 79, 42, 180, 0, 212, 29, 42, 180, 0, 221, 21, 5, 46, 158, 0, 13, 42, 180, 0, 224, 21, 5, 46, 167, 0, 4, 3] := bts_of (by decide +kernel)
theorem bc_Mod_judges_7 : bts prog_14_method_70_code 224 [79, 177] := bts_of (by decide +kernel)
theorem hd_Mod_judges : Y_Mod_judges.1.cls = RX12 ∧ Y_Mod_judges.1.cls ≠ "java/lang/invoke/MethodHandle" ∧ Y_Mod_judges.1.cls ≠ "java/lang/invoke/VarHandle" ∧ (parseMethodDescriptor Y_Mod_judges.1.desc).map (fun d => d.parameters.length) = some 2 := by decide +kernel
def Mod_judges_J172 (x0 : Nat) (x3 : Int32) (x4 : Int32) (M : Mm) : Option (Unit × Mm) :=
  ck (kO M x0 12 107) (
  nn (mR M x0 97) (fun b19 =>
  ck (kA M b19 20 x3) (
  let v21 : Int32 := (x4 + (mI M b19 (ix x3))) - 1
  nn (mR M x0 94) (fun b22 =>
  nn (mR M x0 98) (fun b23 =>
  ck (kA M b23 20 v21) (
  ck (kA M b22 20 x3) (
  let M26 := sI M b22 (ix x3) (mI M b23 (ix v21))
  nn (mR M26 x0 95) (fun b27 =>
  nn (mR M26 x0 98) (fun b28 =>
  ck (kA M26 b28 20 v21) (
  if (mI M26 b28 (ix v21)) ≤ 0 then (
    ck (kA M26 b27 20 x3) (
    let M31 := sI M26 b27 (ix x3) 0
    some ((), M31)))
  else (
    nn (mR M26 x0 99) (fun b32 =>
    ck (kA M26 b32 20 v21) (
    ck (kA M26 b27 20 x3) (
    let M35 := sI M26 b27 (ix x3) (mI M26 b32 (ix v21))
    some ((), M35)))))))))))))))
set_option maxRecDepth 100000 in
set_option maxHeartbeats 4000000 in
theorem e_Mod_judges_J172 {G : Gx} (x0 : Nat) (x3 : Int32) (x4 : Int32) (M : Mm) : EJ G Y_Mod_judges cvV 2 172 [(0, .ref x0), (3, .int x3), (4, .int x4)] [] M (Mod_judges_J172 x0 x3 x4 M) := by
  unfold Mod_judges_J172
  refine EJ_iload 174 2 (dk_21 (bt bc_Mod_judges_5 12 rfl) (bt bc_Mod_judges_5 13 rfl)) rfl rfl ?_
  refine EJ_aload_n 175 0 (dk_42 (bt bc_Mod_judges_5 14 rfl)) rfl rfl ?_
  refine EJ_ck (fun h18 => ?_)
  refine EJ_getR cf12 97 (by decide) 178 tw_1295 (fun _ _ _ => rfl) (dk_180 (bt bc_Mod_judges_5 15 rfl) (bt bc_Mod_judges_5 16 rfl) (bt bc_Mod_judges_5 17 rfl) (n := 218) rfl) rfl (of_decide_eq_true h18) (fun b19 => ?_)
  refine EJ_iload_n 179 1 (dk_29 (bt bc_Mod_judges_5 18 rfl)) rfl rfl ?_
  refine EJ_ck (fun h20 => ?_)
  refine EJ_iald 180 h20 (dk_46 (bt bc_Mod_judges_5 19 rfl)) rfl ?_
  refine EJ_iadd 181 (dk_96 (bt bc_Mod_judges_5 20 rfl)) rfl ?_
  refine EJ_iconst 182 (dk_4 (bt bc_Mod_judges_5 21 rfl)) rfl (v := 1) kI_1 ?_
  refine EJ_isub 183 (dk_100 (bt bc_Mod_judges_5 22 rfl)) rfl ?_
  refine EJ_istore 185 (lv2 := [(5, .int _), (0, .ref _), (3, .int _), (4, .int _)]) (dk_54 (bt bc_Mod_judges_5 23 rfl) (bt bc_Mod_judges_5 24 rfl)) rfl (by decide) rfl ?_
  refine EJ_aload_n 186 1 (dk_42 (bt bc_Mod_judges_5 25 rfl)) rfl rfl ?_
  refine EJ_getR cf12 94 (by decide) 189 tw_1292 (fun _ _ _ => rfl) (dk_180 (bt bc_Mod_judges_5 26 rfl) (bt bc_Mod_judges_5 27 rfl) (bt bc_Mod_judges_5 28 rfl) (n := 209) rfl) rfl (of_decide_eq_true h18) (fun b22 => ?_)
  refine EJ_iload_n 190 2 (dk_29 (bt bc_Mod_judges_5 29 rfl)) rfl rfl ?_
  refine EJ_aload_n 191 1 (dk_42 (bt bc_Mod_judges_5 30 rfl)) rfl rfl ?_
  refine EJ_getR cf12 98 (by decide) 194 tw_1296 (fun _ _ _ => rfl) (dk_180 (bt bc_Mod_judges_5 31 rfl) (bt bc_Mod_judges_6 0 rfl) (bt bc_Mod_judges_6 1 rfl) (n := 221) rfl) rfl (of_decide_eq_true h18) (fun b23 => ?_)
  refine EJ_iload 196 0 (dk_21 (bt bc_Mod_judges_6 2 rfl) (bt bc_Mod_judges_6 3 rfl)) rfl rfl ?_
  refine EJ_ck (fun h24 => ?_)
  refine EJ_iald 197 h24 (dk_46 (bt bc_Mod_judges_6 4 rfl)) rfl ?_
  refine EJ_ck (fun h25 => ?_)
  refine EJ_iast 198 h25 (dk_79 (bt bc_Mod_judges_6 5 rfl)) rfl ?_
  refine EJ_aload_n 199 1 (dk_42 (bt bc_Mod_judges_6 6 rfl)) rfl rfl ?_
  refine EJ_getR cf12 95 (by decide) 202 tw_1293 (fun _ _ _ => rfl) (dk_180 (bt bc_Mod_judges_6 7 rfl) (bt bc_Mod_judges_6 8 rfl) (bt bc_Mod_judges_6 9 rfl) (n := 212) rfl) rfl (kp_I (of_decide_eq_true h18)) (fun b27 => ?_)
  refine EJ_iload_n 203 2 (dk_29 (bt bc_Mod_judges_6 10 rfl)) rfl rfl ?_
  refine EJ_aload_n 204 1 (dk_42 (bt bc_Mod_judges_6 11 rfl)) rfl rfl ?_
  refine EJ_getR cf12 98 (by decide) 207 tw_1296 (fun _ _ _ => rfl) (dk_180 (bt bc_Mod_judges_6 12 rfl) (bt bc_Mod_judges_6 13 rfl) (bt bc_Mod_judges_6 14 rfl) (n := 221) rfl) rfl (kp_I (of_decide_eq_true h18)) (fun b28 => ?_)
  refine EJ_iload 209 0 (dk_21 (bt bc_Mod_judges_6 15 rfl) (bt bc_Mod_judges_6 16 rfl)) rfl rfl ?_
  refine EJ_ck (fun h29 => ?_)
  refine EJ_iald 210 h29 (dk_46 (bt bc_Mod_judges_6 17 rfl)) rfl ?_
  refine EJ_if_le 223 213 (dk_158 (bt bc_Mod_judges_6 18 rfl) (bt bc_Mod_judges_6 19 rfl) (bt bc_Mod_judges_6 20 rfl) (n := 13) rfl) (by decide) rfl (fun _ => ?_) (fun _ => ?_)
  · refine EJ_iconst 224 (dk_3 (bt bc_Mod_judges_6 31 rfl)) rfl (v := 0) kI_0 ?_
    refine EJ_ck (fun h30 => ?_)
    refine EJ_iast 225 h30 (dk_79 (bt bc_Mod_judges_7 0 rfl)) rfl ?_
    exact EJ_vret rfl (dk_177 (bt bc_Mod_judges_7 1 rfl))
  · refine EJ_aload_n 214 1 (dk_42 (bt bc_Mod_judges_6 21 rfl)) rfl rfl ?_
    refine EJ_getR cf12 99 (by decide) 217 tw_1297 (fun _ _ _ => rfl) (dk_180 (bt bc_Mod_judges_6 22 rfl) (bt bc_Mod_judges_6 23 rfl) (bt bc_Mod_judges_6 24 rfl) (n := 224) rfl) rfl (kp_I (of_decide_eq_true h18)) (fun b32 => ?_)
    refine EJ_iload 219 0 (dk_21 (bt bc_Mod_judges_6 25 rfl) (bt bc_Mod_judges_6 26 rfl)) rfl rfl ?_
    refine EJ_ck (fun h33 => ?_)
    refine EJ_iald 220 h33 (dk_46 (bt bc_Mod_judges_6 27 rfl)) rfl ?_
    refine EJ_goto 224 (dk_167 (bt bc_Mod_judges_6 28 rfl) (bt bc_Mod_judges_6 29 rfl) (bt bc_Mod_judges_6 30 rfl) (n := 4) rfl) (by decide) ?_
    refine EJ_ck (fun h34 => ?_)
    refine EJ_iast 225 h34 (dk_79 (bt bc_Mod_judges_7 0 rfl)) rfl ?_
    exact EJ_vret rfl (dk_177 (bt bc_Mod_judges_7 1 rfl))
def Mod_judges_J151 (x0 : Nat) (x4 : Int32) (s0 : Int32) (s1 : Nat) (M : Mm) : Option (Unit × Mm) :=
  ck (kO M x0 12 107) (
  nn (mR M x0 99) (fun b54 =>
  ck (kA M b54 20 x4) (
  nn (mR M x0 99) (fun b56 =>
  ck (kA M b56 20 (x4 + 1)) (
  ck (kA M s1 20 s0) (
  let M59 := sI M s1 (ix s0) (((mI M b54 (ix x4)) + (mI M b56 (ix (x4 + 1)))) / 2)
  some ((), M59)))))))
set_option maxRecDepth 100000 in
set_option maxHeartbeats 4000000 in
theorem e_Mod_judges_J151 {G : Gx} (x0 : Nat) (x4 : Int32) (s0 : Int32) (s1 : Nat) (M : Mm) : EJ G Y_Mod_judges cvV 2 151 [(0, .ref x0), (4, .int x4)] [.int s0, .ref s1] M (Mod_judges_J151 x0 x4 s0 s1 M) := by
  unfold Mod_judges_J151
  refine EJ_aload_n 152 0 (dk_42 (bt bc_Mod_judges_4 23 rfl)) rfl rfl ?_
  refine EJ_ck (fun h53 => ?_)
  refine EJ_getR cf12 99 (by decide) 155 tw_1297 (fun _ _ _ => rfl) (dk_180 (bt bc_Mod_judges_4 24 rfl) (bt bc_Mod_judges_4 25 rfl) (bt bc_Mod_judges_4 26 rfl) (n := 224) rfl) rfl (of_decide_eq_true h53) (fun b54 => ?_)
  refine EJ_iload 157 1 (dk_21 (bt bc_Mod_judges_4 27 rfl) (bt bc_Mod_judges_4 28 rfl)) rfl rfl ?_
  refine EJ_ck (fun h55 => ?_)
  refine EJ_iald 158 h55 (dk_46 (bt bc_Mod_judges_4 29 rfl)) rfl ?_
  refine EJ_aload_n 159 0 (dk_42 (bt bc_Mod_judges_4 30 rfl)) rfl rfl ?_
  refine EJ_getR cf12 99 (by decide) 162 tw_1297 (fun _ _ _ => rfl) (dk_180 (bt bc_Mod_judges_4 31 rfl) (bt bc_Mod_judges_5 0 rfl) (bt bc_Mod_judges_5 1 rfl) (n := 224) rfl) rfl (of_decide_eq_true h53) (fun b56 => ?_)
  refine EJ_iload 164 1 (dk_21 (bt bc_Mod_judges_5 2 rfl) (bt bc_Mod_judges_5 3 rfl)) rfl rfl ?_
  refine EJ_iconst 165 (dk_4 (bt bc_Mod_judges_5 4 rfl)) rfl (v := 1) kI_1 ?_
  refine EJ_iadd 166 (dk_96 (bt bc_Mod_judges_5 5 rfl)) rfl ?_
  refine EJ_ck (fun h57 => ?_)
  refine EJ_iald 167 h57 (dk_46 (bt bc_Mod_judges_5 6 rfl)) rfl ?_
  refine EJ_iadd 168 (dk_96 (bt bc_Mod_judges_5 7 rfl)) rfl ?_
  refine EJ_iconst 169 (dk_5 (bt bc_Mod_judges_5 8 rfl)) rfl (v := 2) kI_2 ?_
  refine EJ_idiv 170 (dk_108 (bt bc_Mod_judges_5 9 rfl)) rfl (by decide) ?_
  refine EJ_ck (fun h58 => ?_)
  refine EJ_iast 171 h58 (dk_79 (bt bc_Mod_judges_5 10 rfl)) rfl ?_
  exact EJ_vret rfl (dk_177 (bt bc_Mod_judges_5 11 rfl))
def Mod_judges (M : Mm) (a0 : Nat) (a1 : Int32) (a2 : Int32) : Option (Unit × Mm) :=
  let v1 : Int32 := (60 * a1) + a2
  let v2 : Int32 := (120 * a1) + (2 * a2)
  ck (kO M a0 12 107) (
  nn (mR M a0 94) (fun b4 =>
  nn (mR M a0 91) (fun b5 =>
  ck (kA M b5 20 v1) (
  ck (kA M b4 20 v1) (
  let M8 := sI M b4 (ix v1) (mI M b5 (ix v1))
  nn (mR M8 a0 95) (fun b9 =>
  nn (mR M8 a0 92) (fun b10 =>
  ck (kA M8 b10 20 v1) (
  ck (kA M8 b9 20 v1) (
  let M13 := sI M8 b9 (ix v1) (mI M8 b10 (ix v1))
  nn (mR M13 a0 96) (fun b14 =>
  ck (kA M13 b14 20 v1) (
  if (mI M13 b14 (ix v1)) = 0 then (
    some ((), M13))
  else (
    nn (mR M13 a0 98) (fun b16 =>
    ck (kA M13 b16 20 v2) (
    if (mI M13 b16 (ix v2)) ≤ 0 then (
      Mod_judges_J172 a0 v1 v2 M13)
    else (
      nn (mR M13 a0 98) (fun b36 =>
      ck (kA M13 b36 20 (v2 + 1)) (
      if (mI M13 b36 (ix (v2 + 1))) ≤ 0 then (
        Mod_judges_J172 a0 v1 v2 M13)
      else (
        nn (mR M13 a0 94) (fun b38 =>
        nn (mR M13 a0 98) (fun b39 =>
        ck (kA M13 b39 20 v2) (
        nn (mR M13 a0 98) (fun b41 =>
        ck (kA M13 b41 20 (v2 + 1)) (
        bd (Mod_min M13 (mI M13 b39 (ix v2)) (mI M13 b41 (ix (v2 + 1)))) (fun r43 M44 =>
        ck (kA M44 b38 20 v1) (
        let M46 := sI M44 b38 (ix v1) r43
        ck (kO M46 a0 12 107) (
        nn (mR M46 a0 95) (fun b48 =>
        nn (mR M46 a0 98) (fun b49 =>
        ck (kA M46 b49 20 v2) (
        nn (mR M46 a0 98) (fun b51 =>
        ck (kA M46 b51 20 (v2 + 1)) (
        if (mI M46 b49 (ix v2)) = (mI M46 b51 (ix (v2 + 1))) then (
          nn (mR M46 a0 99) (fun b60 =>
          ck (kA M46 b60 20 v2) (
          nn (mR M46 a0 99) (fun b62 =>
          ck (kA M46 b62 20 (v2 + 1)) (
          if (mI M46 b60 (ix v2)) = (mI M46 b62 (ix (v2 + 1))) then (
            nn (mR M46 a0 99) (fun b64 =>
            ck (kA M46 b64 20 v2) (
            ck (kA M46 b48 20 v1) (
            let M67 := sI M46 b48 (ix v1) (mI M46 b64 (ix v2))
            some ((), M67)))))
          else (
            Mod_judges_J151 a0 v2 v1 b48 M46))))))
        else (
          Mod_judges_J151 a0 v2 v1 b48 M46))))))))))))))))))))))))))))))))
set_option maxRecDepth 100000 in
set_option maxHeartbeats 4000000 in
theorem s_Mod_judges (G : Gx) (M : Mm) (a0 : Nat) (a1 : Int32) (a2 : Int32) : FnS G Y_Mod_judges cvV 2 [.ref a0, .int a1, .int a2] M (Mod_judges M a0 a1 a2) := by
  refine FnS.ofE (by decide) (Nat.le_of_ble_eq_true rfl) ?_
  show EJ G Y_Mod_judges cvV 2 0 [(0, .ref a0), (1, .int a1), (2, .int a2)] [] M _
  unfold Mod_judges
  refine EJ_bipush 2 (dk_16 (bt bc_Mod_judges_0 0 rfl) (bt bc_Mod_judges_0 1 rfl) (n := 60) rfl) rfl (v := 60) kB_60 ?_
  refine EJ_iload_n 3 1 (dk_27 (bt bc_Mod_judges_0 2 rfl)) rfl rfl ?_
  refine EJ_imul 4 (dk_104 (bt bc_Mod_judges_0 3 rfl)) rfl ?_
  refine EJ_iload_n 5 2 (dk_28 (bt bc_Mod_judges_0 4 rfl)) rfl rfl ?_
  refine EJ_iadd 6 (dk_96 (bt bc_Mod_judges_0 5 rfl)) rfl ?_
  refine EJ_istore_n 7 (lv2 := [(3, .int _), (0, .ref _), (1, .int _), (2, .int _)]) (dk_62 (bt bc_Mod_judges_0 6 rfl)) rfl (by decide) rfl ?_
  refine EJ_bipush 9 (dk_16 (bt bc_Mod_judges_0 7 rfl) (bt bc_Mod_judges_0 8 rfl) (n := 120) rfl) rfl (v := 120) kB_120 ?_
  refine EJ_iload_n 10 2 (dk_27 (bt bc_Mod_judges_0 9 rfl)) rfl rfl ?_
  refine EJ_imul 11 (dk_104 (bt bc_Mod_judges_0 10 rfl)) rfl ?_
  refine EJ_iconst 12 (dk_5 (bt bc_Mod_judges_0 11 rfl)) rfl (v := 2) kI_2 ?_
  refine EJ_iload_n 13 3 (dk_28 (bt bc_Mod_judges_0 12 rfl)) rfl rfl ?_
  refine EJ_imul 14 (dk_104 (bt bc_Mod_judges_0 13 rfl)) rfl ?_
  refine EJ_iadd 15 (dk_96 (bt bc_Mod_judges_0 14 rfl)) rfl ?_
  refine EJ_istore 17 (lv2 := [(4, .int _), (3, .int _), (0, .ref _), (1, .int _), (2, .int _)]) (dk_54 (bt bc_Mod_judges_0 15 rfl) (bt bc_Mod_judges_0 16 rfl)) rfl (by decide) rfl ?_
  refine EJ_aload_n 18 2 (dk_42 (bt bc_Mod_judges_0 17 rfl)) rfl rfl ?_
  refine EJ_ck (fun h3 => ?_)
  refine EJ_getR cf12 94 (by decide) 21 tw_1292 (fun _ _ _ => rfl) (dk_180 (bt bc_Mod_judges_0 18 rfl) (bt bc_Mod_judges_0 19 rfl) (bt bc_Mod_judges_0 20 rfl) (n := 209) rfl) rfl (of_decide_eq_true h3) (fun b4 => ?_)
  refine EJ_iload_n 22 1 (dk_29 (bt bc_Mod_judges_0 21 rfl)) rfl rfl ?_
  refine EJ_aload_n 23 2 (dk_42 (bt bc_Mod_judges_0 22 rfl)) rfl rfl ?_
  refine EJ_getR cf12 91 (by decide) 26 tw_1289 (fun _ _ _ => rfl) (dk_180 (bt bc_Mod_judges_0 23 rfl) (bt bc_Mod_judges_0 24 rfl) (bt bc_Mod_judges_0 25 rfl) (n := 200) rfl) rfl (of_decide_eq_true h3) (fun b5 => ?_)
  refine EJ_iload_n 27 1 (dk_29 (bt bc_Mod_judges_0 26 rfl)) rfl rfl ?_
  refine EJ_ck (fun h6 => ?_)
  refine EJ_iald 28 h6 (dk_46 (bt bc_Mod_judges_0 27 rfl)) rfl ?_
  refine EJ_ck (fun h7 => ?_)
  refine EJ_iast 29 h7 (dk_79 (bt bc_Mod_judges_0 28 rfl)) rfl ?_
  refine EJ_aload_n 30 2 (dk_42 (bt bc_Mod_judges_0 29 rfl)) rfl rfl ?_
  refine EJ_getR cf12 95 (by decide) 33 tw_1293 (fun _ _ _ => rfl) (dk_180 (bt bc_Mod_judges_0 30 rfl) (bt bc_Mod_judges_0 31 rfl) (bt bc_Mod_judges_1 0 rfl) (n := 212) rfl) rfl (kp_I (of_decide_eq_true h3)) (fun b9 => ?_)
  refine EJ_iload_n 34 1 (dk_29 (bt bc_Mod_judges_1 1 rfl)) rfl rfl ?_
  refine EJ_aload_n 35 2 (dk_42 (bt bc_Mod_judges_1 2 rfl)) rfl rfl ?_
  refine EJ_getR cf12 92 (by decide) 38 tw_1290 (fun _ _ _ => rfl) (dk_180 (bt bc_Mod_judges_1 3 rfl) (bt bc_Mod_judges_1 4 rfl) (bt bc_Mod_judges_1 5 rfl) (n := 203) rfl) rfl (kp_I (of_decide_eq_true h3)) (fun b10 => ?_)
  refine EJ_iload_n 39 1 (dk_29 (bt bc_Mod_judges_1 6 rfl)) rfl rfl ?_
  refine EJ_ck (fun h11 => ?_)
  refine EJ_iald 40 h11 (dk_46 (bt bc_Mod_judges_1 7 rfl)) rfl ?_
  refine EJ_ck (fun h12 => ?_)
  refine EJ_iast 41 h12 (dk_79 (bt bc_Mod_judges_1 8 rfl)) rfl ?_
  refine EJ_aload_n 42 2 (dk_42 (bt bc_Mod_judges_1 9 rfl)) rfl rfl ?_
  refine EJ_getR cf12 96 (by decide) 45 tw_1294 (fun _ _ _ => rfl) (dk_180 (bt bc_Mod_judges_1 10 rfl) (bt bc_Mod_judges_1 11 rfl) (bt bc_Mod_judges_1 12 rfl) (n := 215) rfl) rfl (kp_I (kp_I (of_decide_eq_true h3))) (fun b14 => ?_)
  refine EJ_iload_n 46 1 (dk_29 (bt bc_Mod_judges_1 13 rfl)) rfl rfl ?_
  refine EJ_ck (fun h15 => ?_)
  refine EJ_iald 47 h15 (dk_46 (bt bc_Mod_judges_1 14 rfl)) rfl ?_
  refine EJ_if_ne 51 50 (dk_154 (bt bc_Mod_judges_1 15 rfl) (bt bc_Mod_judges_1 16 rfl) (bt bc_Mod_judges_1 17 rfl) (n := 4) rfl) (by decide) rfl (fun _ => ?_) (fun _ => ?_)
  · refine EJ_aload_n 52 2 (dk_42 (bt bc_Mod_judges_1 19 rfl)) rfl rfl ?_
    refine EJ_getR cf12 98 (by decide) 55 tw_1296 (fun _ _ _ => rfl) (dk_180 (bt bc_Mod_judges_1 20 rfl) (bt bc_Mod_judges_1 21 rfl) (bt bc_Mod_judges_1 22 rfl) (n := 221) rfl) rfl (kp_I (kp_I (of_decide_eq_true h3))) (fun b16 => ?_)
    refine EJ_iload 57 0 (dk_21 (bt bc_Mod_judges_1 23 rfl) (bt bc_Mod_judges_1 24 rfl)) rfl rfl ?_
    refine EJ_ck (fun h17 => ?_)
    refine EJ_iald 58 h17 (dk_46 (bt bc_Mod_judges_1 25 rfl)) rfl ?_
    refine EJ_if_le 172 61 (dk_158 (bt bc_Mod_judges_1 26 rfl) (bt bc_Mod_judges_1 27 rfl) (bt bc_Mod_judges_1 28 rfl) (n := 114) rfl) (by decide) rfl (fun _ => ?_) (fun _ => ?_)
    · exact EJ_pick (lv2 := [(0, .ref _), (3, .int _), (4, .int _)]) [2, 1, 0] rfl (e_Mod_judges_J172 _ _ _ _)
    · refine EJ_aload_n 62 2 (dk_42 (bt bc_Mod_judges_1 29 rfl)) rfl rfl ?_
      refine EJ_getR cf12 98 (by decide) 65 tw_1296 (fun _ _ _ => rfl) (dk_180 (bt bc_Mod_judges_1 30 rfl) (bt bc_Mod_judges_1 31 rfl) (bt bc_Mod_judges_2 0 rfl) (n := 221) rfl) rfl (kp_I (kp_I (of_decide_eq_true h3))) (fun b36 => ?_)
      refine EJ_iload 67 0 (dk_21 (bt bc_Mod_judges_2 1 rfl) (bt bc_Mod_judges_2 2 rfl)) rfl rfl ?_
      refine EJ_iconst 68 (dk_4 (bt bc_Mod_judges_2 3 rfl)) rfl (v := 1) kI_1 ?_
      refine EJ_iadd 69 (dk_96 (bt bc_Mod_judges_2 4 rfl)) rfl ?_
      refine EJ_ck (fun h37 => ?_)
      refine EJ_iald 70 h37 (dk_46 (bt bc_Mod_judges_2 5 rfl)) rfl ?_
      refine EJ_if_le 172 73 (dk_158 (bt bc_Mod_judges_2 6 rfl) (bt bc_Mod_judges_2 7 rfl) (bt bc_Mod_judges_2 8 rfl) (n := 102) rfl) (by decide) rfl (fun _ => ?_) (fun _ => ?_)
      · exact EJ_pick (lv2 := [(0, .ref _), (3, .int _), (4, .int _)]) [2, 1, 0] rfl (e_Mod_judges_J172 _ _ _ _)
      · refine EJ_aload_n 74 2 (dk_42 (bt bc_Mod_judges_2 9 rfl)) rfl rfl ?_
        refine EJ_getR cf12 94 (by decide) 77 tw_1292 (fun _ _ _ => rfl) (dk_180 (bt bc_Mod_judges_2 10 rfl) (bt bc_Mod_judges_2 11 rfl) (bt bc_Mod_judges_2 12 rfl) (n := 209) rfl) rfl (kp_I (kp_I (of_decide_eq_true h3))) (fun b38 => ?_)
        refine EJ_iload_n 78 1 (dk_29 (bt bc_Mod_judges_2 13 rfl)) rfl rfl ?_
        refine EJ_aload_n 79 2 (dk_42 (bt bc_Mod_judges_2 14 rfl)) rfl rfl ?_
        refine EJ_getR cf12 98 (by decide) 82 tw_1296 (fun _ _ _ => rfl) (dk_180 (bt bc_Mod_judges_2 15 rfl) (bt bc_Mod_judges_2 16 rfl) (bt bc_Mod_judges_2 17 rfl) (n := 221) rfl) rfl (kp_I (kp_I (of_decide_eq_true h3))) (fun b39 => ?_)
        refine EJ_iload 84 0 (dk_21 (bt bc_Mod_judges_2 18 rfl) (bt bc_Mod_judges_2 19 rfl)) rfl rfl ?_
        refine EJ_ck (fun h40 => ?_)
        refine EJ_iald 85 h40 (dk_46 (bt bc_Mod_judges_2 20 rfl)) rfl ?_
        refine EJ_aload_n 86 2 (dk_42 (bt bc_Mod_judges_2 21 rfl)) rfl rfl ?_
        refine EJ_getR cf12 98 (by decide) 89 tw_1296 (fun _ _ _ => rfl) (dk_180 (bt bc_Mod_judges_2 22 rfl) (bt bc_Mod_judges_2 23 rfl) (bt bc_Mod_judges_2 24 rfl) (n := 221) rfl) rfl (kp_I (kp_I (of_decide_eq_true h3))) (fun b41 => ?_)
        refine EJ_iload 91 0 (dk_21 (bt bc_Mod_judges_2 25 rfl) (bt bc_Mod_judges_2 26 rfl)) rfl rfl ?_
        refine EJ_iconst 92 (dk_4 (bt bc_Mod_judges_2 27 rfl)) rfl (v := 1) kI_1 ?_
        refine EJ_iadd 93 (dk_96 (bt bc_Mod_judges_2 28 rfl)) rfl ?_
        refine EJ_ck (fun h42 => ?_)
        refine EJ_iald 94 h42 (dk_46 (bt bc_Mod_judges_2 29 rfl)) rfl ?_
        refine EJ_callSi (Y2 := Y_Mod_min) 97 (s_Mod_min G _ _ _) rfl (dk_184 (bt bc_Mod_judges_2 30 rfl) (bt bc_Mod_judges_2 31 rfl) (bt bc_Mod_judges_3 0 rfl) (n := 294) rfl) rfl tw_1596 tw_1597 tw_8 tw_1598 hd_Mod_min rfl (by decide) (Nat.le_of_ble_eq_true rfl) (fun r43 M44 => ?_)
        refine EJ_ck (fun h45 => ?_)
        refine EJ_iast 98 h45 (dk_79 (bt bc_Mod_judges_3 1 rfl)) rfl ?_
        refine EJ_aload_n 99 2 (dk_42 (bt bc_Mod_judges_3 2 rfl)) rfl rfl ?_
        refine EJ_ck (fun h47 => ?_)
        refine EJ_getR cf12 95 (by decide) 102 tw_1293 (fun _ _ _ => rfl) (dk_180 (bt bc_Mod_judges_3 3 rfl) (bt bc_Mod_judges_3 4 rfl) (bt bc_Mod_judges_3 5 rfl) (n := 212) rfl) rfl (of_decide_eq_true h47) (fun b48 => ?_)
        refine EJ_iload_n 103 1 (dk_29 (bt bc_Mod_judges_3 6 rfl)) rfl rfl ?_
        refine EJ_aload_n 104 2 (dk_42 (bt bc_Mod_judges_3 7 rfl)) rfl rfl ?_
        refine EJ_getR cf12 98 (by decide) 107 tw_1296 (fun _ _ _ => rfl) (dk_180 (bt bc_Mod_judges_3 8 rfl) (bt bc_Mod_judges_3 9 rfl) (bt bc_Mod_judges_3 10 rfl) (n := 221) rfl) rfl (of_decide_eq_true h47) (fun b49 => ?_)
        refine EJ_iload 109 0 (dk_21 (bt bc_Mod_judges_3 11 rfl) (bt bc_Mod_judges_3 12 rfl)) rfl rfl ?_
        refine EJ_ck (fun h50 => ?_)
        refine EJ_iald 110 h50 (dk_46 (bt bc_Mod_judges_3 13 rfl)) rfl ?_
        refine EJ_aload_n 111 2 (dk_42 (bt bc_Mod_judges_3 14 rfl)) rfl rfl ?_
        refine EJ_getR cf12 98 (by decide) 114 tw_1296 (fun _ _ _ => rfl) (dk_180 (bt bc_Mod_judges_3 15 rfl) (bt bc_Mod_judges_3 16 rfl) (bt bc_Mod_judges_3 17 rfl) (n := 221) rfl) rfl (of_decide_eq_true h47) (fun b51 => ?_)
        refine EJ_iload 116 0 (dk_21 (bt bc_Mod_judges_3 18 rfl) (bt bc_Mod_judges_3 19 rfl)) rfl rfl ?_
        refine EJ_iconst 117 (dk_4 (bt bc_Mod_judges_3 20 rfl)) rfl (v := 1) kI_1 ?_
        refine EJ_iadd 118 (dk_96 (bt bc_Mod_judges_3 21 rfl)) rfl ?_
        refine EJ_ck (fun h52 => ?_)
        refine EJ_iald 119 h52 (dk_46 (bt bc_Mod_judges_3 22 rfl)) rfl ?_
        refine EJ_icmp_ne 151 122 (dk_160 (bt bc_Mod_judges_3 23 rfl) (bt bc_Mod_judges_3 24 rfl) (bt bc_Mod_judges_3 25 rfl) (n := 32) rfl) (by decide) rfl (fun _ => ?_) (fun _ => ?_)
        · exact EJ_pick (lv2 := [(0, .ref _), (4, .int _)]) [2, 0] rfl (e_Mod_judges_J151 _ _ _ _ _)
        · refine EJ_aload_n 123 2 (dk_42 (bt bc_Mod_judges_3 26 rfl)) rfl rfl ?_
          refine EJ_getR cf12 99 (by decide) 126 tw_1297 (fun _ _ _ => rfl) (dk_180 (bt bc_Mod_judges_3 27 rfl) (bt bc_Mod_judges_3 28 rfl) (bt bc_Mod_judges_3 29 rfl) (n := 224) rfl) rfl (of_decide_eq_true h47) (fun b60 => ?_)
          refine EJ_iload 128 0 (dk_21 (bt bc_Mod_judges_3 30 rfl) (bt bc_Mod_judges_3 31 rfl)) rfl rfl ?_
          refine EJ_ck (fun h61 => ?_)
          refine EJ_iald 129 h61 (dk_46 (bt bc_Mod_judges_4 0 rfl)) rfl ?_
          refine EJ_aload_n 130 2 (dk_42 (bt bc_Mod_judges_4 1 rfl)) rfl rfl ?_
          refine EJ_getR cf12 99 (by decide) 133 tw_1297 (fun _ _ _ => rfl) (dk_180 (bt bc_Mod_judges_4 2 rfl) (bt bc_Mod_judges_4 3 rfl) (bt bc_Mod_judges_4 4 rfl) (n := 224) rfl) rfl (of_decide_eq_true h47) (fun b62 => ?_)
          refine EJ_iload 135 0 (dk_21 (bt bc_Mod_judges_4 5 rfl) (bt bc_Mod_judges_4 6 rfl)) rfl rfl ?_
          refine EJ_iconst 136 (dk_4 (bt bc_Mod_judges_4 7 rfl)) rfl (v := 1) kI_1 ?_
          refine EJ_iadd 137 (dk_96 (bt bc_Mod_judges_4 8 rfl)) rfl ?_
          refine EJ_ck (fun h63 => ?_)
          refine EJ_iald 138 h63 (dk_46 (bt bc_Mod_judges_4 9 rfl)) rfl ?_
          refine EJ_icmp_ne 151 141 (dk_160 (bt bc_Mod_judges_4 10 rfl) (bt bc_Mod_judges_4 11 rfl) (bt bc_Mod_judges_4 12 rfl) (n := 13) rfl) (by decide) rfl (fun _ => ?_) (fun _ => ?_)
          · exact EJ_pick (lv2 := [(0, .ref _), (4, .int _)]) [2, 0] rfl (e_Mod_judges_J151 _ _ _ _ _)
          · refine EJ_aload_n 142 2 (dk_42 (bt bc_Mod_judges_4 13 rfl)) rfl rfl ?_
            refine EJ_getR cf12 99 (by decide) 145 tw_1297 (fun _ _ _ => rfl) (dk_180 (bt bc_Mod_judges_4 14 rfl) (bt bc_Mod_judges_4 15 rfl) (bt bc_Mod_judges_4 16 rfl) (n := 224) rfl) rfl (of_decide_eq_true h47) (fun b64 => ?_)
            refine EJ_iload 147 0 (dk_21 (bt bc_Mod_judges_4 17 rfl) (bt bc_Mod_judges_4 18 rfl)) rfl rfl ?_
            refine EJ_ck (fun h65 => ?_)
            refine EJ_iald 148 h65 (dk_46 (bt bc_Mod_judges_4 19 rfl)) rfl ?_
            refine EJ_goto 170 (dk_167 (bt bc_Mod_judges_4 20 rfl) (bt bc_Mod_judges_4 21 rfl) (bt bc_Mod_judges_4 22 rfl) (n := 22) rfl) (by decide) ?_
            refine EJ_ck (fun h66 => ?_)
            refine EJ_iast 171 h66 (dk_79 (bt bc_Mod_judges_5 10 rfl)) rfl ?_
            exact EJ_vret rfl (dk_177 (bt bc_Mod_judges_5 11 rfl))
  · exact EJ_vret rfl (dk_177 (bt bc_Mod_judges_1 18 rfl))
